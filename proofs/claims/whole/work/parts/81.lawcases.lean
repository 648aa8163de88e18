set_option maxHeartbeats 4000000 in
set_option maxRecDepth 100000 in
theorem lawc_unit {p : Program} {l : Launch} {e : Env} {s : State} {m : MethodId} {below : List Frame} {meth : Method} {c : Code} {bs Ln : Nat} {xs : Nat → Int32} {dC : Nat → ClassId} {dI : Nat → Nat → Nat} {cI cJ cZ : ClassId} {QQ : State → Prop} {H : Heap} {locs : List Loc} {ls : Array Slot} {x3 : Int32} {c0 s0 : Nat} {ax bx am bm : Nat → Nat} (C0 : lw_At p s m meth c bs Ln xs) (hK : va_K (dC, dI) vwCl (tyT cI cJ cZ) s) (hi1 : vp_in (x3 + (1 : Int32)) Ln) (hi2 : vp_in (x3 + (2 : Int32)) Ln) (hi3 : vp_in (x3 + (3 : Int32)) Ln) (hi4 : vp_in (x3 + (4 : Int32)) Ln) (hi5 : vp_in (x3 + (5 : Int32)) Ln) (hi6 : vp_in (x3 + (6 : Int32)) Ln) (lst : LG) (mst : MS) (r : Int32) (lst2 : LG) (mst2 : MS) (h1 : fX5_unit lst  = some (r, lst2)) (h2 : fX6_unit mst  = some (r, mst2)) (hc0 : c0 + 6 ≤ 600000) (hs0 : s0 + 12288 ≤ 7302249) (hl : lv_has ls 4 [(0, .ref bs), (1, .ref (ax 0)), (2, .ref (am 0)), (3, .int x3)]) (hin : IN (dC, dI) (WX5 ax bx cI cJ cZ lst ++ WX6 am bm cI cJ cZ mst) (fun q : Nat => s.heap.size ≤ q) s.heap H locs) (kk : ∀ (bx : Nat → Nat) (H : Heap) (locs : List Loc), IN (dC, dI) (WX5 ax bx cI cJ cZ lst2 ++ WX6 am bm cI cJ cZ mst2) (fun q : Nat => s.heap.size ≤ q) s.heap H locs → W p l e room_1 s m #[Value.ref bs] below meth c H locs (c0 + 6) (s0 + 12288) QQ (F0 m 1432 ls [])) : W p l e room_1 s m #[Value.ref bs] below meth c H locs c0 s0 QQ (F0 m 152 ls []) := by
  obtain ⟨hx, hb, hr, hml, hown, hts0, hX, hbl, hlocks, hgv⟩ := id C0
  have hts : ∀ w ∈ wsL_law, w.before #[Value.ref bs] s = true := fun w h => hts0 w (wsL_law_in w h)
  have hA : ∀ q : Nat, s.heap.size ≤ q → (fun q : Nat => s.heap.size ≤ q) q := fun _ h => h
  have hbA : ¬ (fun q : Nat => s.heap.size ≤ q) bs := Nat.not_le.mpr hbl
  obtain ⟨hP, hD, hS⟩ := hin
  refine lv_aload_n hx hb dL_law_152 rfl (lv_at hl 1 rfl) ?_
  refine cmV (wr := WX6 am bm cI cJ cZ mst) ⟨hx, hb, hml, hown, hts⟩ (ct_X5_unit l dC dI ax bx cI cJ cZ H.size lst  _ h1) (cwV 0 hts gL_law_X5_unit rfl rfl rfl (by decide +kernel) ⟨(Nat.le_of_ble_eq_true rfl), (Nat.le_of_ble_eq_true rfl)⟩) hK hP hD hS hA [0, 1, 2, 3, 4, 5, 6, 7, 8, 9, 10, 11, 12, 13, 14, 15, 16, 17, 18, 19, 20, 21, 22, 23, 24, 25, 26, 27] [28, 29, 30, 31, 32, 33, 34, 35, 36, 37, 38, 39, 40, 41, 42, 43, 44, 45, 46, 47, 48] rfl rfl (by decide) rfl (by decide) (by decide) rfl rfl rfl hl.1 rfl (Nat.le_of_ble_eq_true rfl) (show c0 + 0 ≤ 600000 by omega) (show s0 + 0 ≤ 7302249 by omega) dL_law_153 (fun H locs hP hD hS => ?_)
  replace hP : va_P (dC, dI) vwCl (WX5 ax bx cI cJ cZ lst2 ++ WX6 am bm cI cJ cZ mst) H := hP.sub [21, 22, 23, 24, 25, 26, 27, 28, 29, 30, 31, 32, 33, 34, 35, 36, 37, 38, 39, 40, 41, 42, 43, 44, 45, 46, 47, 48, 0, 1, 2, 3, 4, 5, 6, 7, 8, 9, 10, 11, 12, 13, 14, 15, 16, 17, 18, 19, 20] rfl
  replace hD : va_D (fun q : Nat => s.heap.size ≤ q) (WX5 ax bx cI cJ cZ lst2 ++ WX6 am bm cI cJ cZ mst) := hD.sub [21, 22, 23, 24, 25, 26, 27, 28, 29, 30, 31, 32, 33, 34, 35, 36, 37, 38, 39, 40, 41, 42, 43, 44, 45, 46, 47, 48, 0, 1, 2, 3, 4, 5, 6, 7, 8, 9, 10, 11, 12, 13, 14, 15, 16, 17, 18, 19, 20] (by decide) rfl
  refine W.eq (g2 := F0 m 156 ls [.int r]) rfl ?_
  refine lv_aload_n hx hb dL_law_156 rfl (lv_at hl 2 rfl) ?_
  refine cmV (wr := WX5 ax bx cI cJ cZ lst2) ⟨hx, hb, hml, hown, hts⟩ (ct_X6_unit l dC dI am bm cI cJ cZ H.size mst  _ h2) (cwV 0 hts gL_law_X6_unit rfl rfl rfl (by decide +kernel) ⟨(Nat.le_of_ble_eq_true rfl), (Nat.le_of_ble_eq_true rfl)⟩) hK hP hD hS hA [28, 29, 30, 31, 32, 33, 34, 35, 36, 37, 38, 39, 40, 41, 42, 43, 44, 45, 46, 47, 48] [0, 1, 2, 3, 4, 5, 6, 7, 8, 9, 10, 11, 12, 13, 14, 15, 16, 17, 18, 19, 20, 21, 22, 23, 24, 25, 26, 27] rfl rfl (by decide) rfl (by decide) (by decide) rfl rfl rfl hl.1 rfl (Nat.le_of_ble_eq_true rfl) (show (c0 + 0) + 0 ≤ 600000 by omega) (show (s0 + 0) + 0 ≤ 7302249 by omega) dL_law_157 (fun H locs hP hD hS => ?_)
  replace hP : va_P (dC, dI) vwCl (WX5 ax bx cI cJ cZ lst2 ++ WX6 am bm cI cJ cZ mst2) H := hP
  replace hD : va_D (fun q : Nat => s.heap.size ≤ q) (WX5 ax bx cI cJ cZ lst2 ++ WX6 am bm cI cJ cZ mst2) := hD
  refine W.eq (g2 := F0 m 160 ls [.int r, .int r]) rfl ?_
  refine lv_icmp_eq (tgt := 1432) hx hb dL_law_160 (by decide) (fun _ => ?_) (fun hne => absurd rfl hne)
  refine W.widen (k := c0 + 6) (n := s0 + 12288) (by omega) (by omega) ?_
  exact kk bx H locs ⟨hP, hD, hS⟩
set_option maxHeartbeats 4000000 in
set_option maxRecDepth 100000 in
theorem lawc_hold {p : Program} {l : Launch} {e : Env} {s : State} {m : MethodId} {below : List Frame} {meth : Method} {c : Code} {bs Ln : Nat} {xs : Nat → Int32} {dC : Nat → ClassId} {dI : Nat → Nat → Nat} {cI cJ cZ : ClassId} {QQ : State → Prop} {H : Heap} {locs : List Loc} {ls : Array Slot} {x3 : Int32} {c0 s0 : Nat} {ax bx am bm : Nat → Nat} (C0 : lw_At p s m meth c bs Ln xs) (hK : va_K (dC, dI) vwCl (tyT cI cJ cZ) s) (hi1 : vp_in (x3 + (1 : Int32)) Ln) (hi2 : vp_in (x3 + (2 : Int32)) Ln) (hi3 : vp_in (x3 + (3 : Int32)) Ln) (hi4 : vp_in (x3 + (4 : Int32)) Ln) (hi5 : vp_in (x3 + (5 : Int32)) Ln) (hi6 : vp_in (x3 + (6 : Int32)) Ln) (lst : LG) (mst : MS) (r : Int32) (lst2 : LG) (mst2 : MS) (h1 : fX5_hold lst (xs ((x3 + (1 : Int32))).toNatClampNeg) (xs ((x3 + (2 : Int32))).toNatClampNeg) (xs ((x3 + (3 : Int32))).toNatClampNeg) (xs ((x3 + (4 : Int32))).toNatClampNeg) = some (r, lst2)) (h2 : fX6_hold mst (xs ((x3 + (1 : Int32))).toNatClampNeg) (xs ((x3 + (2 : Int32))).toNatClampNeg) (xs ((x3 + (3 : Int32))).toNatClampNeg) (xs ((x3 + (4 : Int32))).toNatClampNeg) = some (r, mst2)) (hc0 : c0 + 6 ≤ 600000) (hs0 : s0 + 12288 ≤ 7302249) (hl : lv_has ls 4 [(0, .ref bs), (1, .ref (ax 0)), (2, .ref (am 0)), (3, .int x3)]) (hin : IN (dC, dI) (WX5 ax bx cI cJ cZ lst ++ WX6 am bm cI cJ cZ mst) (fun q : Nat => s.heap.size ≤ q) s.heap H locs) (kk : ∀ (bx : Nat → Nat) (H : Heap) (locs : List Loc), IN (dC, dI) (WX5 ax bx cI cJ cZ lst2 ++ WX6 am bm cI cJ cZ mst2) (fun q : Nat => s.heap.size ≤ q) s.heap H locs → W p l e room_1 s m #[Value.ref bs] below meth c H locs (c0 + 6) (s0 + 12288) QQ (F0 m 1432 ls [])) : W p l e room_1 s m #[Value.ref bs] below meth c H locs c0 s0 QQ (F0 m 165 ls []) := by
  obtain ⟨hx, hb, hr, hml, hown, hts0, hX, hbl, hlocks, hgv⟩ := id C0
  have hts : ∀ w ∈ wsL_law, w.before #[Value.ref bs] s = true := fun w h => hts0 w (wsL_law_in w h)
  have hA : ∀ q : Nat, s.heap.size ≤ q → (fun q : Nat => s.heap.size ≤ q) q := fun _ h => h
  have hbA : ¬ (fun q : Nat => s.heap.size ≤ q) bs := Nat.not_le.mpr hbl
  obtain ⟨hP, hD, hS⟩ := hin
  refine lv_aload_n hx hb dL_law_165 rfl (lv_at hl 1 rfl) ?_
  refine lv_aload_n hx hb dL_law_166 rfl (lv_at hl 0 rfl) ?_
  refine lv_iload_n hx hb dL_law_167 rfl (lv_at hl 3 rfl) ?_
  refine lv_iconst (v := (1 : Int32)) hx hb dL_law_168 (by decide) ?_
  refine lv_iadd hx hb dL_law_169 ?_
  refine va_sld hx hb hX hbl hbA hS hi1 dL_law_170 ?_
  refine lv_aload_n hx hb dL_law_171 rfl (lv_at hl 0 rfl) ?_
  refine lv_iload_n hx hb dL_law_172 rfl (lv_at hl 3 rfl) ?_
  refine lv_iconst (v := (2 : Int32)) hx hb dL_law_173 (by decide) ?_
  refine lv_iadd hx hb dL_law_174 ?_
  refine va_sld hx hb hX hbl hbA hS hi2 dL_law_175 ?_
  refine lv_aload_n hx hb dL_law_176 rfl (lv_at hl 0 rfl) ?_
  refine lv_iload_n hx hb dL_law_177 rfl (lv_at hl 3 rfl) ?_
  refine lv_iconst (v := (3 : Int32)) hx hb dL_law_178 (by decide) ?_
  refine lv_iadd hx hb dL_law_179 ?_
  refine va_sld hx hb hX hbl hbA hS hi3 dL_law_180 ?_
  refine lv_aload_n hx hb dL_law_181 rfl (lv_at hl 0 rfl) ?_
  refine lv_iload_n hx hb dL_law_182 rfl (lv_at hl 3 rfl) ?_
  refine lv_iconst (v := (4 : Int32)) hx hb dL_law_183 (by decide) ?_
  refine lv_iadd hx hb dL_law_184 ?_
  refine va_sld hx hb hX hbl hbA hS hi4 dL_law_185 ?_
  refine cmV (wr := WX6 am bm cI cJ cZ mst) ⟨hx, hb, hml, hown, hts⟩ (ct_X5_hold l dC dI ax bx cI cJ cZ H.size lst (xs ((x3 + (1 : Int32))).toNatClampNeg) (xs ((x3 + (2 : Int32))).toNatClampNeg) (xs ((x3 + (3 : Int32))).toNatClampNeg) (xs ((x3 + (4 : Int32))).toNatClampNeg) _ h1) (cwV 4 hts gL_law_X5_hold rfl rfl rfl (by decide +kernel) ⟨(Nat.le_of_ble_eq_true rfl), (Nat.le_of_ble_eq_true rfl)⟩) hK hP hD hS hA [0, 1, 2, 3, 4, 5, 6, 7, 8, 9, 10, 11, 12, 13, 14, 15, 16, 17, 18, 19, 20, 21, 22, 23, 24, 25, 26, 27] [28, 29, 30, 31, 32, 33, 34, 35, 36, 37, 38, 39, 40, 41, 42, 43, 44, 45, 46, 47, 48] rfl rfl (by decide) rfl (by decide) (by decide) rfl rfl rfl hl.1 rfl (Nat.le_of_ble_eq_true rfl) (show c0 + 0 ≤ 600000 by omega) (show s0 + 0 ≤ 7302249 by omega) dL_law_186 (fun H locs hP hD hS => ?_)
  replace hP : va_P (dC, dI) vwCl (WX5 ax bx cI cJ cZ lst2 ++ WX6 am bm cI cJ cZ mst) H := hP.sub [21, 22, 23, 24, 25, 26, 27, 28, 29, 30, 31, 32, 33, 34, 35, 36, 37, 38, 39, 40, 41, 42, 43, 44, 45, 46, 47, 48, 0, 1, 2, 3, 4, 5, 6, 7, 8, 9, 10, 11, 12, 13, 14, 15, 16, 17, 18, 19, 20] rfl
  replace hD : va_D (fun q : Nat => s.heap.size ≤ q) (WX5 ax bx cI cJ cZ lst2 ++ WX6 am bm cI cJ cZ mst) := hD.sub [21, 22, 23, 24, 25, 26, 27, 28, 29, 30, 31, 32, 33, 34, 35, 36, 37, 38, 39, 40, 41, 42, 43, 44, 45, 46, 47, 48, 0, 1, 2, 3, 4, 5, 6, 7, 8, 9, 10, 11, 12, 13, 14, 15, 16, 17, 18, 19, 20] (by decide) rfl
  refine W.eq (g2 := F0 m 189 ls [.int r]) rfl ?_
  refine lv_aload_n hx hb dL_law_189 rfl (lv_at hl 2 rfl) ?_
  refine lv_aload_n hx hb dL_law_190 rfl (lv_at hl 0 rfl) ?_
  refine lv_iload_n hx hb dL_law_191 rfl (lv_at hl 3 rfl) ?_
  refine lv_iconst (v := (1 : Int32)) hx hb dL_law_192 (by decide) ?_
  refine lv_iadd hx hb dL_law_193 ?_
  refine va_sld hx hb hX hbl hbA hS hi1 dL_law_194 ?_
  refine lv_aload_n hx hb dL_law_195 rfl (lv_at hl 0 rfl) ?_
  refine lv_iload_n hx hb dL_law_196 rfl (lv_at hl 3 rfl) ?_
  refine lv_iconst (v := (2 : Int32)) hx hb dL_law_197 (by decide) ?_
  refine lv_iadd hx hb dL_law_198 ?_
  refine va_sld hx hb hX hbl hbA hS hi2 dL_law_199 ?_
  refine lv_aload_n hx hb dL_law_200 rfl (lv_at hl 0 rfl) ?_
  refine lv_iload_n hx hb dL_law_201 rfl (lv_at hl 3 rfl) ?_
  refine lv_iconst (v := (3 : Int32)) hx hb dL_law_202 (by decide) ?_
  refine lv_iadd hx hb dL_law_203 ?_
  refine va_sld hx hb hX hbl hbA hS hi3 dL_law_204 ?_
  refine lv_aload_n hx hb dL_law_205 rfl (lv_at hl 0 rfl) ?_
  refine lv_iload_n hx hb dL_law_206 rfl (lv_at hl 3 rfl) ?_
  refine lv_iconst (v := (4 : Int32)) hx hb dL_law_207 (by decide) ?_
  refine lv_iadd hx hb dL_law_208 ?_
  refine va_sld hx hb hX hbl hbA hS hi4 dL_law_209 ?_
  refine cmV (wr := WX5 ax bx cI cJ cZ lst2) ⟨hx, hb, hml, hown, hts⟩ (ct_X6_hold l dC dI am bm cI cJ cZ H.size mst (xs ((x3 + (1 : Int32))).toNatClampNeg) (xs ((x3 + (2 : Int32))).toNatClampNeg) (xs ((x3 + (3 : Int32))).toNatClampNeg) (xs ((x3 + (4 : Int32))).toNatClampNeg) _ h2) (cwV 4 hts gL_law_X6_hold rfl rfl rfl (by decide +kernel) ⟨(Nat.le_of_ble_eq_true rfl), (Nat.le_of_ble_eq_true rfl)⟩) hK hP hD hS hA [28, 29, 30, 31, 32, 33, 34, 35, 36, 37, 38, 39, 40, 41, 42, 43, 44, 45, 46, 47, 48] [0, 1, 2, 3, 4, 5, 6, 7, 8, 9, 10, 11, 12, 13, 14, 15, 16, 17, 18, 19, 20, 21, 22, 23, 24, 25, 26, 27] rfl rfl (by decide) rfl (by decide) (by decide) rfl rfl rfl hl.1 rfl (Nat.le_of_ble_eq_true rfl) (show (c0 + 0) + 0 ≤ 600000 by omega) (show (s0 + 0) + 0 ≤ 7302249 by omega) dL_law_210 (fun H locs hP hD hS => ?_)
  replace hP : va_P (dC, dI) vwCl (WX5 ax bx cI cJ cZ lst2 ++ WX6 am bm cI cJ cZ mst2) H := hP
  replace hD : va_D (fun q : Nat => s.heap.size ≤ q) (WX5 ax bx cI cJ cZ lst2 ++ WX6 am bm cI cJ cZ mst2) := hD
  refine W.eq (g2 := F0 m 213 ls [.int r, .int r]) rfl ?_
  refine lv_icmp_eq (tgt := 1432) hx hb dL_law_213 (by decide) (fun _ => ?_) (fun hne => absurd rfl hne)
  refine W.widen (k := c0 + 6) (n := s0 + 12288) (by omega) (by omega) ?_
  exact kk bx H locs ⟨hP, hD, hS⟩
set_option maxHeartbeats 4000000 in
set_option maxRecDepth 100000 in
theorem lawc_holds {p : Program} {l : Launch} {e : Env} {s : State} {m : MethodId} {below : List Frame} {meth : Method} {c : Code} {bs Ln : Nat} {xs : Nat → Int32} {dC : Nat → ClassId} {dI : Nat → Nat → Nat} {cI cJ cZ : ClassId} {QQ : State → Prop} {H : Heap} {locs : List Loc} {ls : Array Slot} {x3 : Int32} {c0 s0 : Nat} {ax bx am bm : Nat → Nat} (C0 : lw_At p s m meth c bs Ln xs) (hK : va_K (dC, dI) vwCl (tyT cI cJ cZ) s) (hi1 : vp_in (x3 + (1 : Int32)) Ln) (hi2 : vp_in (x3 + (2 : Int32)) Ln) (hi3 : vp_in (x3 + (3 : Int32)) Ln) (hi4 : vp_in (x3 + (4 : Int32)) Ln) (hi5 : vp_in (x3 + (5 : Int32)) Ln) (hi6 : vp_in (x3 + (6 : Int32)) Ln) (lst : LG) (mst : MS) (r : Int32) (mst2 : MS) (h1 : fX5_holds lst (xs ((x3 + (1 : Int32))).toNatClampNeg) (xs ((x3 + (2 : Int32))).toNatClampNeg) (xs ((x3 + (3 : Int32))).toNatClampNeg) = some r) (h2 : fX6_holds mst (xs ((x3 + (1 : Int32))).toNatClampNeg) (xs ((x3 + (2 : Int32))).toNatClampNeg) (xs ((x3 + (3 : Int32))).toNatClampNeg) = some (r, mst2)) (hc0 : c0 + 6 ≤ 600000) (hs0 : s0 + 12288 ≤ 7302249) (hl : lv_has ls 4 [(0, .ref bs), (1, .ref (ax 0)), (2, .ref (am 0)), (3, .int x3)]) (hin : IN (dC, dI) (WX5 ax bx cI cJ cZ lst ++ WX6 am bm cI cJ cZ mst) (fun q : Nat => s.heap.size ≤ q) s.heap H locs) (kk : ∀ (bx : Nat → Nat) (H : Heap) (locs : List Loc), IN (dC, dI) (WX5 ax bx cI cJ cZ lst ++ WX6 am bm cI cJ cZ mst2) (fun q : Nat => s.heap.size ≤ q) s.heap H locs → W p l e room_1 s m #[Value.ref bs] below meth c H locs (c0 + 6) (s0 + 12288) QQ (F0 m 1432 ls [])) : W p l e room_1 s m #[Value.ref bs] below meth c H locs c0 s0 QQ (F0 m 218 ls []) := by
  obtain ⟨hx, hb, hr, hml, hown, hts0, hX, hbl, hlocks, hgv⟩ := id C0
  have hts : ∀ w ∈ wsL_law, w.before #[Value.ref bs] s = true := fun w h => hts0 w (wsL_law_in w h)
  have hA : ∀ q : Nat, s.heap.size ≤ q → (fun q : Nat => s.heap.size ≤ q) q := fun _ h => h
  have hbA : ¬ (fun q : Nat => s.heap.size ≤ q) bs := Nat.not_le.mpr hbl
  obtain ⟨hP, hD, hS⟩ := hin
  refine lv_aload_n hx hb dL_law_218 rfl (lv_at hl 1 rfl) ?_
  refine lv_aload_n hx hb dL_law_219 rfl (lv_at hl 0 rfl) ?_
  refine lv_iload_n hx hb dL_law_220 rfl (lv_at hl 3 rfl) ?_
  refine lv_iconst (v := (1 : Int32)) hx hb dL_law_221 (by decide) ?_
  refine lv_iadd hx hb dL_law_222 ?_
  refine va_sld hx hb hX hbl hbA hS hi1 dL_law_223 ?_
  refine lv_aload_n hx hb dL_law_224 rfl (lv_at hl 0 rfl) ?_
  refine lv_iload_n hx hb dL_law_225 rfl (lv_at hl 3 rfl) ?_
  refine lv_iconst (v := (2 : Int32)) hx hb dL_law_226 (by decide) ?_
  refine lv_iadd hx hb dL_law_227 ?_
  refine va_sld hx hb hX hbl hbA hS hi2 dL_law_228 ?_
  refine lv_aload_n hx hb dL_law_229 rfl (lv_at hl 0 rfl) ?_
  refine lv_iload_n hx hb dL_law_230 rfl (lv_at hl 3 rfl) ?_
  refine lv_iconst (v := (3 : Int32)) hx hb dL_law_231 (by decide) ?_
  refine lv_iadd hx hb dL_law_232 ?_
  refine va_sld hx hb hX hbl hbA hS hi3 dL_law_233 ?_
  refine cpV (v := .int r) ⟨hx, hb, hml, hown, hts⟩ (ct_X5_holds l dC dI ax bx cI cJ cZ lst (xs ((x3 + (1 : Int32))).toNatClampNeg) (xs ((x3 + (2 : Int32))).toNatClampNeg) (xs ((x3 + (3 : Int32))).toNatClampNeg) r h1) (cwV 3 hts gL_law_X5_holds rfl rfl rfl (by decide +kernel) ⟨(Nat.le_of_ble_eq_true rfl), (Nat.le_of_ble_eq_true rfl)⟩) hK hP [0, 1, 2, 3, 4, 5, 6, 7, 8, 9, 10, 11, 12, 13, 14, 15, 16, 17, 18, 19, 20, 21, 22, 23, 24, 25, 26, 27] rfl rfl rfl rfl hl.1 rfl (Nat.le_of_ble_eq_true rfl) (show c0 ≤ 600000 by omega) (show s0 ≤ 7302249 by omega) dL_law_234 ?_
  refine W.eq (g2 := F0 m 237 ls [.int r]) rfl ?_
  refine lv_aload_n hx hb dL_law_237 rfl (lv_at hl 2 rfl) ?_
  refine lv_aload_n hx hb dL_law_238 rfl (lv_at hl 0 rfl) ?_
  refine lv_iload_n hx hb dL_law_239 rfl (lv_at hl 3 rfl) ?_
  refine lv_iconst (v := (1 : Int32)) hx hb dL_law_240 (by decide) ?_
  refine lv_iadd hx hb dL_law_241 ?_
  refine va_sld hx hb hX hbl hbA hS hi1 dL_law_242 ?_
  refine lv_aload_n hx hb dL_law_243 rfl (lv_at hl 0 rfl) ?_
  refine lv_iload_n hx hb dL_law_244 rfl (lv_at hl 3 rfl) ?_
  refine lv_iconst (v := (2 : Int32)) hx hb dL_law_245 (by decide) ?_
  refine lv_iadd hx hb dL_law_246 ?_
  refine va_sld hx hb hX hbl hbA hS hi2 dL_law_247 ?_
  refine lv_aload_n hx hb dL_law_248 rfl (lv_at hl 0 rfl) ?_
  refine lv_iload_n hx hb dL_law_249 rfl (lv_at hl 3 rfl) ?_
  refine lv_iconst (v := (3 : Int32)) hx hb dL_law_250 (by decide) ?_
  refine lv_iadd hx hb dL_law_251 ?_
  refine va_sld hx hb hX hbl hbA hS hi3 dL_law_252 ?_
  refine cmV (wr := WX5 ax bx cI cJ cZ lst) ⟨hx, hb, hml, hown, hts⟩ (ct_X6_holds l dC dI am bm cI cJ cZ H.size mst (xs ((x3 + (1 : Int32))).toNatClampNeg) (xs ((x3 + (2 : Int32))).toNatClampNeg) (xs ((x3 + (3 : Int32))).toNatClampNeg) _ h2) (cwV 3 hts gL_law_X6_holds rfl rfl rfl (by decide +kernel) ⟨(Nat.le_of_ble_eq_true rfl), (Nat.le_of_ble_eq_true rfl)⟩) hK hP hD hS hA [28, 29, 30, 31, 32, 33, 34, 35, 36, 37, 38, 39, 40, 41, 42, 43, 44, 45, 46, 47, 48] [0, 1, 2, 3, 4, 5, 6, 7, 8, 9, 10, 11, 12, 13, 14, 15, 16, 17, 18, 19, 20, 21, 22, 23, 24, 25, 26, 27] rfl rfl (by decide) rfl (by decide) (by decide) rfl rfl rfl hl.1 rfl (Nat.le_of_ble_eq_true rfl) (show c0 + 0 ≤ 600000 by omega) (show s0 + 0 ≤ 7302249 by omega) dL_law_253 (fun H locs hP hD hS => ?_)
  replace hP : va_P (dC, dI) vwCl (WX5 ax bx cI cJ cZ lst ++ WX6 am bm cI cJ cZ mst2) H := hP
  replace hD : va_D (fun q : Nat => s.heap.size ≤ q) (WX5 ax bx cI cJ cZ lst ++ WX6 am bm cI cJ cZ mst2) := hD
  refine W.eq (g2 := F0 m 256 ls [.int r, .int r]) rfl ?_
  refine lv_icmp_eq (tgt := 1432) hx hb dL_law_256 (by decide) (fun _ => ?_) (fun hne => absurd rfl hne)
  refine W.widen (k := c0 + 6) (n := s0 + 12288) (by omega) (by omega) ?_
  exact kk bx H locs ⟨hP, hD, hS⟩
set_option maxHeartbeats 4000000 in
set_option maxRecDepth 100000 in
theorem lawc_share {p : Program} {l : Launch} {e : Env} {s : State} {m : MethodId} {below : List Frame} {meth : Method} {c : Code} {bs Ln : Nat} {xs : Nat → Int32} {dC : Nat → ClassId} {dI : Nat → Nat → Nat} {cI cJ cZ : ClassId} {QQ : State → Prop} {H : Heap} {locs : List Loc} {ls : Array Slot} {x3 : Int32} {c0 s0 : Nat} {ax bx am bm : Nat → Nat} (C0 : lw_At p s m meth c bs Ln xs) (hK : va_K (dC, dI) vwCl (tyT cI cJ cZ) s) (hi1 : vp_in (x3 + (1 : Int32)) Ln) (hi2 : vp_in (x3 + (2 : Int32)) Ln) (hi3 : vp_in (x3 + (3 : Int32)) Ln) (hi4 : vp_in (x3 + (4 : Int32)) Ln) (hi5 : vp_in (x3 + (5 : Int32)) Ln) (hi6 : vp_in (x3 + (6 : Int32)) Ln) (lst : LG) (mst : MS) (r : Int64) (lst2 : LG) (mst2 : MS) (h1 : fX5_share lst (xs ((x3 + (1 : Int32))).toNatClampNeg) (xs ((x3 + (2 : Int32))).toNatClampNeg) = some (r, lst2)) (h2 : fX6_share mst (xs ((x3 + (1 : Int32))).toNatClampNeg) (xs ((x3 + (2 : Int32))).toNatClampNeg) = some (r, mst2)) (hc0 : c0 + 6 ≤ 600000) (hs0 : s0 + 12288 ≤ 7302249) (hl : lv_has ls 4 [(0, .ref bs), (1, .ref (ax 0)), (2, .ref (am 0)), (3, .int x3)]) (hin : IN (dC, dI) (WX5 ax bx cI cJ cZ lst ++ WX6 am bm cI cJ cZ mst) (fun q : Nat => s.heap.size ≤ q) s.heap H locs) (kk : ∀ (bx : Nat → Nat) (H : Heap) (locs : List Loc), IN (dC, dI) (WX5 ax bx cI cJ cZ lst2 ++ WX6 am bm cI cJ cZ mst2) (fun q : Nat => s.heap.size ≤ q) s.heap H locs → W p l e room_1 s m #[Value.ref bs] below meth c H locs (c0 + 6) (s0 + 12288) QQ (F0 m 1432 ls [])) : W p l e room_1 s m #[Value.ref bs] below meth c H locs c0 s0 QQ (F0 m 261 ls []) := by
  obtain ⟨hx, hb, hr, hml, hown, hts0, hX, hbl, hlocks, hgv⟩ := id C0
  have hts : ∀ w ∈ wsL_law, w.before #[Value.ref bs] s = true := fun w h => hts0 w (wsL_law_in w h)
  have hA : ∀ q : Nat, s.heap.size ≤ q → (fun q : Nat => s.heap.size ≤ q) q := fun _ h => h
  have hbA : ¬ (fun q : Nat => s.heap.size ≤ q) bs := Nat.not_le.mpr hbl
  obtain ⟨hP, hD, hS⟩ := hin
  refine lv_aload_n hx hb dL_law_261 rfl (lv_at hl 1 rfl) ?_
  refine lv_aload_n hx hb dL_law_262 rfl (lv_at hl 0 rfl) ?_
  refine lv_iload_n hx hb dL_law_263 rfl (lv_at hl 3 rfl) ?_
  refine lv_iconst (v := (1 : Int32)) hx hb dL_law_264 (by decide) ?_
  refine lv_iadd hx hb dL_law_265 ?_
  refine va_sld hx hb hX hbl hbA hS hi1 dL_law_266 ?_
  refine lv_aload_n hx hb dL_law_267 rfl (lv_at hl 0 rfl) ?_
  refine lv_iload_n hx hb dL_law_268 rfl (lv_at hl 3 rfl) ?_
  refine lv_iconst (v := (2 : Int32)) hx hb dL_law_269 (by decide) ?_
  refine lv_iadd hx hb dL_law_270 ?_
  refine va_sld hx hb hX hbl hbA hS hi2 dL_law_271 ?_
  refine cmV (wr := WX6 am bm cI cJ cZ mst) ⟨hx, hb, hml, hown, hts⟩ (ct_X5_share l dC dI ax bx cI cJ cZ H.size lst (xs ((x3 + (1 : Int32))).toNatClampNeg) (xs ((x3 + (2 : Int32))).toNatClampNeg) _ h1) (cwV 2 hts gL_law_X5_share rfl rfl rfl (by decide +kernel) ⟨(Nat.le_of_ble_eq_true rfl), (Nat.le_of_ble_eq_true rfl)⟩) hK hP hD hS hA [0, 1, 2, 3, 4, 5, 6, 7, 8, 9, 10, 11, 12, 13, 14, 15, 16, 17, 18, 19, 20, 21, 22, 23, 24, 25, 26, 27] [28, 29, 30, 31, 32, 33, 34, 35, 36, 37, 38, 39, 40, 41, 42, 43, 44, 45, 46, 47, 48] rfl rfl (by decide) rfl (by decide) (by decide) rfl rfl rfl hl.1 rfl (Nat.le_of_ble_eq_true rfl) (show c0 + 0 ≤ 600000 by omega) (show s0 + 0 ≤ 7302249 by omega) dL_law_272 (fun H locs hP hD hS => ?_)
  replace hP : va_P (dC, dI) vwCl (WX5 ax bx cI cJ cZ lst2 ++ WX6 am bm cI cJ cZ mst) H := hP.sub [21, 22, 23, 24, 25, 26, 27, 28, 29, 30, 31, 32, 33, 34, 35, 36, 37, 38, 39, 40, 41, 42, 43, 44, 45, 46, 47, 48, 0, 1, 2, 3, 4, 5, 6, 7, 8, 9, 10, 11, 12, 13, 14, 15, 16, 17, 18, 19, 20] rfl
  replace hD : va_D (fun q : Nat => s.heap.size ≤ q) (WX5 ax bx cI cJ cZ lst2 ++ WX6 am bm cI cJ cZ mst) := hD.sub [21, 22, 23, 24, 25, 26, 27, 28, 29, 30, 31, 32, 33, 34, 35, 36, 37, 38, 39, 40, 41, 42, 43, 44, 45, 46, 47, 48, 0, 1, 2, 3, 4, 5, 6, 7, 8, 9, 10, 11, 12, 13, 14, 15, 16, 17, 18, 19, 20] (by decide) rfl
  refine W.eq (g2 := F0 m 275 ls [.long r]) rfl ?_
  refine lv_aload_n hx hb dL_law_275 rfl (lv_at hl 2 rfl) ?_
  refine lv_aload_n hx hb dL_law_276 rfl (lv_at hl 0 rfl) ?_
  refine lv_iload_n hx hb dL_law_277 rfl (lv_at hl 3 rfl) ?_
  refine lv_iconst (v := (1 : Int32)) hx hb dL_law_278 (by decide) ?_
  refine lv_iadd hx hb dL_law_279 ?_
  refine va_sld hx hb hX hbl hbA hS hi1 dL_law_280 ?_
  refine lv_aload_n hx hb dL_law_281 rfl (lv_at hl 0 rfl) ?_
  refine lv_iload_n hx hb dL_law_282 rfl (lv_at hl 3 rfl) ?_
  refine lv_iconst (v := (2 : Int32)) hx hb dL_law_283 (by decide) ?_
  refine lv_iadd hx hb dL_law_284 ?_
  refine va_sld hx hb hX hbl hbA hS hi2 dL_law_285 ?_
  refine cmV (wr := WX5 ax bx cI cJ cZ lst2) ⟨hx, hb, hml, hown, hts⟩ (ct_X6_share l dC dI am bm cI cJ cZ H.size mst (xs ((x3 + (1 : Int32))).toNatClampNeg) (xs ((x3 + (2 : Int32))).toNatClampNeg) _ h2) (cwV 2 hts gL_law_X6_share rfl rfl rfl (by decide +kernel) ⟨(Nat.le_of_ble_eq_true rfl), (Nat.le_of_ble_eq_true rfl)⟩) hK hP hD hS hA [28, 29, 30, 31, 32, 33, 34, 35, 36, 37, 38, 39, 40, 41, 42, 43, 44, 45, 46, 47, 48] [0, 1, 2, 3, 4, 5, 6, 7, 8, 9, 10, 11, 12, 13, 14, 15, 16, 17, 18, 19, 20, 21, 22, 23, 24, 25, 26, 27] rfl rfl (by decide) rfl (by decide) (by decide) rfl rfl rfl hl.1 rfl (Nat.le_of_ble_eq_true rfl) (show (c0 + 0) + 0 ≤ 600000 by omega) (show (s0 + 0) + 0 ≤ 7302249 by omega) dL_law_286 (fun H locs hP hD hS => ?_)
  replace hP : va_P (dC, dI) vwCl (WX5 ax bx cI cJ cZ lst2 ++ WX6 am bm cI cJ cZ mst2) H := hP
  replace hD : va_D (fun q : Nat => s.heap.size ≤ q) (WX5 ax bx cI cJ cZ lst2 ++ WX6 am bm cI cJ cZ mst2) := hD
  refine W.eq (g2 := F0 m 289 ls [.long r, .long r]) rfl ?_
  refine W.lcmp hx hb dL_law_289 ?_
  refine lv_if_eq (tgt := 1432) hx hb dL_law_290 (by decide) (fun _ => ?_) (fun hne => absurd (lg_cmp_s r) hne)
  refine W.widen (k := c0 + 6) (n := s0 + 12288) (by omega) (by omega) ?_
  exact kk bx H locs ⟨hP, hD, hS⟩
set_option maxHeartbeats 4000000 in
set_option maxRecDepth 100000 in
theorem lawc_days {p : Program} {l : Launch} {e : Env} {s : State} {m : MethodId} {below : List Frame} {meth : Method} {c : Code} {bs Ln : Nat} {xs : Nat → Int32} {dC : Nat → ClassId} {dI : Nat → Nat → Nat} {cI cJ cZ : ClassId} {QQ : State → Prop} {H : Heap} {locs : List Loc} {ls : Array Slot} {x3 : Int32} {c0 s0 : Nat} {ax bx am bm : Nat → Nat} (C0 : lw_At p s m meth c bs Ln xs) (hK : va_K (dC, dI) vwCl (tyT cI cJ cZ) s) (hi1 : vp_in (x3 + (1 : Int32)) Ln) (hi2 : vp_in (x3 + (2 : Int32)) Ln) (hi3 : vp_in (x3 + (3 : Int32)) Ln) (hi4 : vp_in (x3 + (4 : Int32)) Ln) (hi5 : vp_in (x3 + (5 : Int32)) Ln) (hi6 : vp_in (x3 + (6 : Int32)) Ln) (lst : LG) (mst : MS) (r : Int64) (lst2 : LG) (mst2 : MS) (h1 : fX5_days lst (xs ((x3 + (1 : Int32))).toNatClampNeg) (xs ((x3 + (2 : Int32))).toNatClampNeg) (xs ((x3 + (3 : Int32))).toNatClampNeg) = some (r, lst2)) (h2 : fX6_days mst (xs ((x3 + (1 : Int32))).toNatClampNeg) (xs ((x3 + (2 : Int32))).toNatClampNeg) (xs ((x3 + (3 : Int32))).toNatClampNeg) = some (r, mst2)) (hc0 : c0 + 6 ≤ 600000) (hs0 : s0 + 12288 ≤ 7302249) (hl : lv_has ls 4 [(0, .ref bs), (1, .ref (ax 0)), (2, .ref (am 0)), (3, .int x3)]) (hin : IN (dC, dI) (WX5 ax bx cI cJ cZ lst ++ WX6 am bm cI cJ cZ mst) (fun q : Nat => s.heap.size ≤ q) s.heap H locs) (kk : ∀ (bx : Nat → Nat) (H : Heap) (locs : List Loc), IN (dC, dI) (WX5 ax bx cI cJ cZ lst2 ++ WX6 am bm cI cJ cZ mst2) (fun q : Nat => s.heap.size ≤ q) s.heap H locs → W p l e room_1 s m #[Value.ref bs] below meth c H locs (c0 + 6) (s0 + 12288) QQ (F0 m 1432 ls [])) : W p l e room_1 s m #[Value.ref bs] below meth c H locs c0 s0 QQ (F0 m 295 ls []) := by
  obtain ⟨hx, hb, hr, hml, hown, hts0, hX, hbl, hlocks, hgv⟩ := id C0
  have hts : ∀ w ∈ wsL_law, w.before #[Value.ref bs] s = true := fun w h => hts0 w (wsL_law_in w h)
  have hA : ∀ q : Nat, s.heap.size ≤ q → (fun q : Nat => s.heap.size ≤ q) q := fun _ h => h
  have hbA : ¬ (fun q : Nat => s.heap.size ≤ q) bs := Nat.not_le.mpr hbl
  obtain ⟨hP, hD, hS⟩ := hin
  refine lv_aload_n hx hb dL_law_295 rfl (lv_at hl 1 rfl) ?_
  refine lv_aload_n hx hb dL_law_296 rfl (lv_at hl 0 rfl) ?_
  refine lv_iload_n hx hb dL_law_297 rfl (lv_at hl 3 rfl) ?_
  refine lv_iconst (v := (1 : Int32)) hx hb dL_law_298 (by decide) ?_
  refine lv_iadd hx hb dL_law_299 ?_
  refine va_sld hx hb hX hbl hbA hS hi1 dL_law_300 ?_
  refine lv_aload_n hx hb dL_law_301 rfl (lv_at hl 0 rfl) ?_
  refine lv_iload_n hx hb dL_law_302 rfl (lv_at hl 3 rfl) ?_
  refine lv_iconst (v := (2 : Int32)) hx hb dL_law_303 (by decide) ?_
  refine lv_iadd hx hb dL_law_304 ?_
  refine va_sld hx hb hX hbl hbA hS hi2 dL_law_305 ?_
  refine lv_aload_n hx hb dL_law_306 rfl (lv_at hl 0 rfl) ?_
  refine lv_iload_n hx hb dL_law_307 rfl (lv_at hl 3 rfl) ?_
  refine lv_iconst (v := (3 : Int32)) hx hb dL_law_308 (by decide) ?_
  refine lv_iadd hx hb dL_law_309 ?_
  refine va_sld hx hb hX hbl hbA hS hi3 dL_law_310 ?_
  refine cmV (wr := WX6 am bm cI cJ cZ mst) ⟨hx, hb, hml, hown, hts⟩ (ct_X5_days l dC dI ax bx cI cJ cZ H.size lst (xs ((x3 + (1 : Int32))).toNatClampNeg) (xs ((x3 + (2 : Int32))).toNatClampNeg) (xs ((x3 + (3 : Int32))).toNatClampNeg) _ h1) (cwV 3 hts gL_law_X5_days rfl rfl rfl (by decide +kernel) ⟨(Nat.le_of_ble_eq_true rfl), (Nat.le_of_ble_eq_true rfl)⟩) hK hP hD hS hA [0, 1, 2, 3, 4, 5, 6, 7, 8, 9, 10, 11, 12, 13, 14, 15, 16, 17, 18, 19, 20, 21, 22, 23, 24, 25, 26, 27] [28, 29, 30, 31, 32, 33, 34, 35, 36, 37, 38, 39, 40, 41, 42, 43, 44, 45, 46, 47, 48] rfl rfl (by decide) rfl (by decide) (by decide) rfl rfl rfl hl.1 rfl (Nat.le_of_ble_eq_true rfl) (show c0 + 0 ≤ 600000 by omega) (show s0 + 0 ≤ 7302249 by omega) dL_law_311 (fun H locs hP hD hS => ?_)
  replace hP : va_P (dC, dI) vwCl (WX5 ax bx cI cJ cZ lst2 ++ WX6 am bm cI cJ cZ mst) H := hP.sub [21, 22, 23, 24, 25, 26, 27, 28, 29, 30, 31, 32, 33, 34, 35, 36, 37, 38, 39, 40, 41, 42, 43, 44, 45, 46, 47, 48, 0, 1, 2, 3, 4, 5, 6, 7, 8, 9, 10, 11, 12, 13, 14, 15, 16, 17, 18, 19, 20] rfl
  replace hD : va_D (fun q : Nat => s.heap.size ≤ q) (WX5 ax bx cI cJ cZ lst2 ++ WX6 am bm cI cJ cZ mst) := hD.sub [21, 22, 23, 24, 25, 26, 27, 28, 29, 30, 31, 32, 33, 34, 35, 36, 37, 38, 39, 40, 41, 42, 43, 44, 45, 46, 47, 48, 0, 1, 2, 3, 4, 5, 6, 7, 8, 9, 10, 11, 12, 13, 14, 15, 16, 17, 18, 19, 20] (by decide) rfl
  refine W.eq (g2 := F0 m 314 ls [.long r]) rfl ?_
  refine lv_aload_n hx hb dL_law_314 rfl (lv_at hl 2 rfl) ?_
  refine lv_aload_n hx hb dL_law_315 rfl (lv_at hl 0 rfl) ?_
  refine lv_iload_n hx hb dL_law_316 rfl (lv_at hl 3 rfl) ?_
  refine lv_iconst (v := (1 : Int32)) hx hb dL_law_317 (by decide) ?_
  refine lv_iadd hx hb dL_law_318 ?_
  refine va_sld hx hb hX hbl hbA hS hi1 dL_law_319 ?_
  refine lv_aload_n hx hb dL_law_320 rfl (lv_at hl 0 rfl) ?_
  refine lv_iload_n hx hb dL_law_321 rfl (lv_at hl 3 rfl) ?_
  refine lv_iconst (v := (2 : Int32)) hx hb dL_law_322 (by decide) ?_
  refine lv_iadd hx hb dL_law_323 ?_
  refine va_sld hx hb hX hbl hbA hS hi2 dL_law_324 ?_
  refine lv_aload_n hx hb dL_law_325 rfl (lv_at hl 0 rfl) ?_
  refine lv_iload_n hx hb dL_law_326 rfl (lv_at hl 3 rfl) ?_
  refine lv_iconst (v := (3 : Int32)) hx hb dL_law_327 (by decide) ?_
  refine lv_iadd hx hb dL_law_328 ?_
  refine va_sld hx hb hX hbl hbA hS hi3 dL_law_329 ?_
  refine cmV (wr := WX5 ax bx cI cJ cZ lst2) ⟨hx, hb, hml, hown, hts⟩ (ct_X6_days l dC dI am bm cI cJ cZ H.size mst (xs ((x3 + (1 : Int32))).toNatClampNeg) (xs ((x3 + (2 : Int32))).toNatClampNeg) (xs ((x3 + (3 : Int32))).toNatClampNeg) _ h2) (cwV 3 hts gL_law_X6_days rfl rfl rfl (by decide +kernel) ⟨(Nat.le_of_ble_eq_true rfl), (Nat.le_of_ble_eq_true rfl)⟩) hK hP hD hS hA [28, 29, 30, 31, 32, 33, 34, 35, 36, 37, 38, 39, 40, 41, 42, 43, 44, 45, 46, 47, 48] [0, 1, 2, 3, 4, 5, 6, 7, 8, 9, 10, 11, 12, 13, 14, 15, 16, 17, 18, 19, 20, 21, 22, 23, 24, 25, 26, 27] rfl rfl (by decide) rfl (by decide) (by decide) rfl rfl rfl hl.1 rfl (Nat.le_of_ble_eq_true rfl) (show (c0 + 0) + 0 ≤ 600000 by omega) (show (s0 + 0) + 0 ≤ 7302249 by omega) dL_law_330 (fun H locs hP hD hS => ?_)
  replace hP : va_P (dC, dI) vwCl (WX5 ax bx cI cJ cZ lst2 ++ WX6 am bm cI cJ cZ mst2) H := hP
  replace hD : va_D (fun q : Nat => s.heap.size ≤ q) (WX5 ax bx cI cJ cZ lst2 ++ WX6 am bm cI cJ cZ mst2) := hD
  refine W.eq (g2 := F0 m 333 ls [.long r, .long r]) rfl ?_
  refine W.lcmp hx hb dL_law_333 ?_
  refine lv_if_eq (tgt := 1432) hx hb dL_law_334 (by decide) (fun _ => ?_) (fun hne => absurd (lg_cmp_s r) hne)
  refine W.widen (k := c0 + 6) (n := s0 + 12288) (by omega) (by omega) ?_
  exact kk bx H locs ⟨hP, hD, hS⟩
set_option maxHeartbeats 4000000 in
set_option maxRecDepth 100000 in
theorem lawc_row {p : Program} {l : Launch} {e : Env} {s : State} {m : MethodId} {below : List Frame} {meth : Method} {c : Code} {bs Ln : Nat} {xs : Nat → Int32} {dC : Nat → ClassId} {dI : Nat → Nat → Nat} {cI cJ cZ : ClassId} {QQ : State → Prop} {H : Heap} {locs : List Loc} {ls : Array Slot} {x3 : Int32} {c0 s0 : Nat} {ax bx am bm : Nat → Nat} (C0 : lw_At p s m meth c bs Ln xs) (hK : va_K (dC, dI) vwCl (tyT cI cJ cZ) s) (hi1 : vp_in (x3 + (1 : Int32)) Ln) (hi2 : vp_in (x3 + (2 : Int32)) Ln) (hi3 : vp_in (x3 + (3 : Int32)) Ln) (hi4 : vp_in (x3 + (4 : Int32)) Ln) (hi5 : vp_in (x3 + (5 : Int32)) Ln) (hi6 : vp_in (x3 + (6 : Int32)) Ln) (lst : LG) (mst : MS) (r : Int32) (lst2 : LG) (mst2 : MS) (h1 : fX5_row lst (xs ((x3 + (1 : Int32))).toNatClampNeg) (xs ((x3 + (2 : Int32))).toNatClampNeg) (xs ((x3 + (3 : Int32))).toNatClampNeg) (xs ((x3 + (4 : Int32))).toNatClampNeg) (xs ((x3 + (5 : Int32))).toNatClampNeg) = some (r, lst2)) (h2 : fX6_row mst (xs ((x3 + (1 : Int32))).toNatClampNeg) (xs ((x3 + (2 : Int32))).toNatClampNeg) (xs ((x3 + (3 : Int32))).toNatClampNeg) (xs ((x3 + (4 : Int32))).toNatClampNeg) (xs ((x3 + (5 : Int32))).toNatClampNeg) = some (r, mst2)) (hc0 : c0 + 6 ≤ 600000) (hs0 : s0 + 12288 ≤ 7302249) (hl : lv_has ls 4 [(0, .ref bs), (1, .ref (ax 0)), (2, .ref (am 0)), (3, .int x3)]) (hin : IN (dC, dI) (WX5 ax bx cI cJ cZ lst ++ WX6 am bm cI cJ cZ mst) (fun q : Nat => s.heap.size ≤ q) s.heap H locs) (kk : ∀ (bx : Nat → Nat) (H : Heap) (locs : List Loc), IN (dC, dI) (WX5 ax bx cI cJ cZ lst2 ++ WX6 am bm cI cJ cZ mst2) (fun q : Nat => s.heap.size ≤ q) s.heap H locs → W p l e room_1 s m #[Value.ref bs] below meth c H locs (c0 + 6) (s0 + 12288) QQ (F0 m 1432 ls [])) : W p l e room_1 s m #[Value.ref bs] below meth c H locs c0 s0 QQ (F0 m 339 ls []) := by
  obtain ⟨hx, hb, hr, hml, hown, hts0, hX, hbl, hlocks, hgv⟩ := id C0
  have hts : ∀ w ∈ wsL_law, w.before #[Value.ref bs] s = true := fun w h => hts0 w (wsL_law_in w h)
  have hA : ∀ q : Nat, s.heap.size ≤ q → (fun q : Nat => s.heap.size ≤ q) q := fun _ h => h
  have hbA : ¬ (fun q : Nat => s.heap.size ≤ q) bs := Nat.not_le.mpr hbl
  obtain ⟨hP, hD, hS⟩ := hin
  refine lv_aload_n hx hb dL_law_339 rfl (lv_at hl 1 rfl) ?_
  refine lv_aload_n hx hb dL_law_340 rfl (lv_at hl 0 rfl) ?_
  refine lv_iload_n hx hb dL_law_341 rfl (lv_at hl 3 rfl) ?_
  refine lv_iconst (v := (1 : Int32)) hx hb dL_law_342 (by decide) ?_
  refine lv_iadd hx hb dL_law_343 ?_
  refine va_sld hx hb hX hbl hbA hS hi1 dL_law_344 ?_
  refine lv_aload_n hx hb dL_law_345 rfl (lv_at hl 0 rfl) ?_
  refine lv_iload_n hx hb dL_law_346 rfl (lv_at hl 3 rfl) ?_
  refine lv_iconst (v := (2 : Int32)) hx hb dL_law_347 (by decide) ?_
  refine lv_iadd hx hb dL_law_348 ?_
  refine va_sld hx hb hX hbl hbA hS hi2 dL_law_349 ?_
  refine lv_aload_n hx hb dL_law_350 rfl (lv_at hl 0 rfl) ?_
  refine lv_iload_n hx hb dL_law_351 rfl (lv_at hl 3 rfl) ?_
  refine lv_iconst (v := (3 : Int32)) hx hb dL_law_352 (by decide) ?_
  refine lv_iadd hx hb dL_law_353 ?_
  refine va_sld hx hb hX hbl hbA hS hi3 dL_law_354 ?_
  refine lv_aload_n hx hb dL_law_355 rfl (lv_at hl 0 rfl) ?_
  refine lv_iload_n hx hb dL_law_356 rfl (lv_at hl 3 rfl) ?_
  refine lv_iconst (v := (4 : Int32)) hx hb dL_law_357 (by decide) ?_
  refine lv_iadd hx hb dL_law_358 ?_
  refine va_sld hx hb hX hbl hbA hS hi4 dL_law_359 ?_
  refine lv_aload_n hx hb dL_law_360 rfl (lv_at hl 0 rfl) ?_
  refine lv_iload_n hx hb dL_law_361 rfl (lv_at hl 3 rfl) ?_
  refine lv_iconst (v := (5 : Int32)) hx hb dL_law_362 (by decide) ?_
  refine lv_iadd hx hb dL_law_363 ?_
  refine va_sld hx hb hX hbl hbA hS hi5 dL_law_364 ?_
  refine cmV (wr := WX6 am bm cI cJ cZ mst) ⟨hx, hb, hml, hown, hts⟩ (ct_X5_row l dC dI ax bx cI cJ cZ H.size lst (xs ((x3 + (1 : Int32))).toNatClampNeg) (xs ((x3 + (2 : Int32))).toNatClampNeg) (xs ((x3 + (3 : Int32))).toNatClampNeg) (xs ((x3 + (4 : Int32))).toNatClampNeg) (xs ((x3 + (5 : Int32))).toNatClampNeg) _ h1) (cwV 5 hts gL_law_X5_row rfl rfl rfl (by decide +kernel) ⟨(Nat.le_of_ble_eq_true rfl), (Nat.le_of_ble_eq_true rfl)⟩) hK hP hD hS hA [0, 1, 2, 3, 4, 5, 6, 7, 8, 9, 10, 11, 12, 13, 14, 15, 16, 17, 18, 19, 20, 21, 22, 23, 24, 25, 26, 27] [28, 29, 30, 31, 32, 33, 34, 35, 36, 37, 38, 39, 40, 41, 42, 43, 44, 45, 46, 47, 48] rfl rfl (by decide) rfl (by decide) (by decide) rfl rfl rfl hl.1 rfl (Nat.le_of_ble_eq_true rfl) (show c0 + 0 ≤ 600000 by omega) (show s0 + 0 ≤ 7302249 by omega) dL_law_365 (fun H locs hP hD hS => ?_)
  replace hP : va_P (dC, dI) vwCl (WX5 ax bx cI cJ cZ lst2 ++ WX6 am bm cI cJ cZ mst) H := hP.sub [21, 22, 23, 24, 25, 26, 27, 28, 29, 30, 31, 32, 33, 34, 35, 36, 37, 38, 39, 40, 41, 42, 43, 44, 45, 46, 47, 48, 0, 1, 2, 3, 4, 5, 6, 7, 8, 9, 10, 11, 12, 13, 14, 15, 16, 17, 18, 19, 20] rfl
  replace hD : va_D (fun q : Nat => s.heap.size ≤ q) (WX5 ax bx cI cJ cZ lst2 ++ WX6 am bm cI cJ cZ mst) := hD.sub [21, 22, 23, 24, 25, 26, 27, 28, 29, 30, 31, 32, 33, 34, 35, 36, 37, 38, 39, 40, 41, 42, 43, 44, 45, 46, 47, 48, 0, 1, 2, 3, 4, 5, 6, 7, 8, 9, 10, 11, 12, 13, 14, 15, 16, 17, 18, 19, 20] (by decide) rfl
  refine W.eq (g2 := F0 m 368 ls [.int r]) rfl ?_
  refine lv_aload_n hx hb dL_law_368 rfl (lv_at hl 2 rfl) ?_
  refine lv_aload_n hx hb dL_law_369 rfl (lv_at hl 0 rfl) ?_
  refine lv_iload_n hx hb dL_law_370 rfl (lv_at hl 3 rfl) ?_
  refine lv_iconst (v := (1 : Int32)) hx hb dL_law_371 (by decide) ?_
  refine lv_iadd hx hb dL_law_372 ?_
  refine va_sld hx hb hX hbl hbA hS hi1 dL_law_373 ?_
  refine lv_aload_n hx hb dL_law_374 rfl (lv_at hl 0 rfl) ?_
  refine lv_iload_n hx hb dL_law_375 rfl (lv_at hl 3 rfl) ?_
  refine lv_iconst (v := (2 : Int32)) hx hb dL_law_376 (by decide) ?_
  refine lv_iadd hx hb dL_law_377 ?_
  refine va_sld hx hb hX hbl hbA hS hi2 dL_law_378 ?_
  refine lv_aload_n hx hb dL_law_379 rfl (lv_at hl 0 rfl) ?_
  refine lv_iload_n hx hb dL_law_380 rfl (lv_at hl 3 rfl) ?_
  refine lv_iconst (v := (3 : Int32)) hx hb dL_law_381 (by decide) ?_
  refine lv_iadd hx hb dL_law_382 ?_
  refine va_sld hx hb hX hbl hbA hS hi3 dL_law_383 ?_
  refine lv_aload_n hx hb dL_law_384 rfl (lv_at hl 0 rfl) ?_
  refine lv_iload_n hx hb dL_law_385 rfl (lv_at hl 3 rfl) ?_
  refine lv_iconst (v := (4 : Int32)) hx hb dL_law_386 (by decide) ?_
  refine lv_iadd hx hb dL_law_387 ?_
  refine va_sld hx hb hX hbl hbA hS hi4 dL_law_388 ?_
  refine lv_aload_n hx hb dL_law_389 rfl (lv_at hl 0 rfl) ?_
  refine lv_iload_n hx hb dL_law_390 rfl (lv_at hl 3 rfl) ?_
  refine lv_iconst (v := (5 : Int32)) hx hb dL_law_391 (by decide) ?_
  refine lv_iadd hx hb dL_law_392 ?_
  refine va_sld hx hb hX hbl hbA hS hi5 dL_law_393 ?_
  refine cmV (wr := WX5 ax bx cI cJ cZ lst2) ⟨hx, hb, hml, hown, hts⟩ (ct_X6_row l dC dI am bm cI cJ cZ H.size mst (xs ((x3 + (1 : Int32))).toNatClampNeg) (xs ((x3 + (2 : Int32))).toNatClampNeg) (xs ((x3 + (3 : Int32))).toNatClampNeg) (xs ((x3 + (4 : Int32))).toNatClampNeg) (xs ((x3 + (5 : Int32))).toNatClampNeg) _ h2) (cwV 5 hts gL_law_X6_row rfl rfl rfl (by decide +kernel) ⟨(Nat.le_of_ble_eq_true rfl), (Nat.le_of_ble_eq_true rfl)⟩) hK hP hD hS hA [28, 29, 30, 31, 32, 33, 34, 35, 36, 37, 38, 39, 40, 41, 42, 43, 44, 45, 46, 47, 48] [0, 1, 2, 3, 4, 5, 6, 7, 8, 9, 10, 11, 12, 13, 14, 15, 16, 17, 18, 19, 20, 21, 22, 23, 24, 25, 26, 27] rfl rfl (by decide) rfl (by decide) (by decide) rfl rfl rfl hl.1 rfl (Nat.le_of_ble_eq_true rfl) (show (c0 + 0) + 0 ≤ 600000 by omega) (show (s0 + 0) + 0 ≤ 7302249 by omega) dL_law_394 (fun H locs hP hD hS => ?_)
  replace hP : va_P (dC, dI) vwCl (WX5 ax bx cI cJ cZ lst2 ++ WX6 am bm cI cJ cZ mst2) H := hP
  replace hD : va_D (fun q : Nat => s.heap.size ≤ q) (WX5 ax bx cI cJ cZ lst2 ++ WX6 am bm cI cJ cZ mst2) := hD
  refine W.eq (g2 := F0 m 397 ls [.int r, .int r]) rfl ?_
  refine lv_icmp_eq (tgt := 1432) hx hb dL_law_397 (by decide) (fun _ => ?_) (fun hne => absurd rfl hne)
  refine W.widen (k := c0 + 6) (n := s0 + 12288) (by omega) (by omega) ?_
  exact kk bx H locs ⟨hP, hD, hS⟩
set_option maxHeartbeats 4000000 in
set_option maxRecDepth 100000 in
theorem lawc_told {p : Program} {l : Launch} {e : Env} {s : State} {m : MethodId} {below : List Frame} {meth : Method} {c : Code} {bs Ln : Nat} {xs : Nat → Int32} {dC : Nat → ClassId} {dI : Nat → Nat → Nat} {cI cJ cZ : ClassId} {QQ : State → Prop} {H : Heap} {locs : List Loc} {ls : Array Slot} {x3 : Int32} {c0 s0 : Nat} {ax bx am bm : Nat → Nat} (C0 : lw_At p s m meth c bs Ln xs) (hK : va_K (dC, dI) vwCl (tyT cI cJ cZ) s) (hi1 : vp_in (x3 + (1 : Int32)) Ln) (hi2 : vp_in (x3 + (2 : Int32)) Ln) (hi3 : vp_in (x3 + (3 : Int32)) Ln) (hi4 : vp_in (x3 + (4 : Int32)) Ln) (hi5 : vp_in (x3 + (5 : Int32)) Ln) (hi6 : vp_in (x3 + (6 : Int32)) Ln) (lst : LG) (mst : MS) (r : Int32) (lst2 : LG) (mst2 : MS) (h1 : fX5_told lst (xs ((x3 + (1 : Int32))).toNatClampNeg) (xs ((x3 + (2 : Int32))).toNatClampNeg) = some (r, lst2)) (h2 : fX6_told mst (xs ((x3 + (1 : Int32))).toNatClampNeg) (xs ((x3 + (2 : Int32))).toNatClampNeg) = some (r, mst2)) (hc0 : c0 + 6 ≤ 600000) (hs0 : s0 + 12288 ≤ 7302249) (hl : lv_has ls 4 [(0, .ref bs), (1, .ref (ax 0)), (2, .ref (am 0)), (3, .int x3)]) (hin : IN (dC, dI) (WX5 ax bx cI cJ cZ lst ++ WX6 am bm cI cJ cZ mst) (fun q : Nat => s.heap.size ≤ q) s.heap H locs) (kk : ∀ (bx : Nat → Nat) (H : Heap) (locs : List Loc), IN (dC, dI) (WX5 ax bx cI cJ cZ lst2 ++ WX6 am bm cI cJ cZ mst2) (fun q : Nat => s.heap.size ≤ q) s.heap H locs → W p l e room_1 s m #[Value.ref bs] below meth c H locs (c0 + 6) (s0 + 12288) QQ (F0 m 1432 ls [])) : W p l e room_1 s m #[Value.ref bs] below meth c H locs c0 s0 QQ (F0 m 402 ls []) := by
  obtain ⟨hx, hb, hr, hml, hown, hts0, hX, hbl, hlocks, hgv⟩ := id C0
  have hts : ∀ w ∈ wsL_law, w.before #[Value.ref bs] s = true := fun w h => hts0 w (wsL_law_in w h)
  have hA : ∀ q : Nat, s.heap.size ≤ q → (fun q : Nat => s.heap.size ≤ q) q := fun _ h => h
  have hbA : ¬ (fun q : Nat => s.heap.size ≤ q) bs := Nat.not_le.mpr hbl
  obtain ⟨hP, hD, hS⟩ := hin
  refine lv_aload_n hx hb dL_law_402 rfl (lv_at hl 1 rfl) ?_
  refine lv_aload_n hx hb dL_law_403 rfl (lv_at hl 0 rfl) ?_
  refine lv_iload_n hx hb dL_law_404 rfl (lv_at hl 3 rfl) ?_
  refine lv_iconst (v := (1 : Int32)) hx hb dL_law_405 (by decide) ?_
  refine lv_iadd hx hb dL_law_406 ?_
  refine va_sld hx hb hX hbl hbA hS hi1 dL_law_407 ?_
  refine lv_aload_n hx hb dL_law_408 rfl (lv_at hl 0 rfl) ?_
  refine lv_iload_n hx hb dL_law_409 rfl (lv_at hl 3 rfl) ?_
  refine lv_iconst (v := (2 : Int32)) hx hb dL_law_410 (by decide) ?_
  refine lv_iadd hx hb dL_law_411 ?_
  refine va_sld hx hb hX hbl hbA hS hi2 dL_law_412 ?_
  refine cmV (wr := WX6 am bm cI cJ cZ mst) ⟨hx, hb, hml, hown, hts⟩ (ct_X5_told l dC dI ax bx cI cJ cZ H.size lst (xs ((x3 + (1 : Int32))).toNatClampNeg) (xs ((x3 + (2 : Int32))).toNatClampNeg) _ h1) (cwV 2 hts gL_law_X5_told rfl rfl rfl (by decide +kernel) ⟨(Nat.le_of_ble_eq_true rfl), (Nat.le_of_ble_eq_true rfl)⟩) hK hP hD hS hA [0, 1, 2, 3, 4, 5, 6, 7, 8, 9, 10, 11, 12, 13, 14, 15, 16, 17, 18, 19, 20, 21, 22, 23, 24, 25, 26, 27] [28, 29, 30, 31, 32, 33, 34, 35, 36, 37, 38, 39, 40, 41, 42, 43, 44, 45, 46, 47, 48] rfl rfl (by decide) rfl (by decide) (by decide) rfl rfl rfl hl.1 rfl (Nat.le_of_ble_eq_true rfl) (show c0 + 0 ≤ 600000 by omega) (show s0 + 0 ≤ 7302249 by omega) dL_law_413 (fun H locs hP hD hS => ?_)
  replace hP : va_P (dC, dI) vwCl (WX5 ax bx cI cJ cZ lst2 ++ WX6 am bm cI cJ cZ mst) H := hP.sub [21, 22, 23, 24, 25, 26, 27, 28, 29, 30, 31, 32, 33, 34, 35, 36, 37, 38, 39, 40, 41, 42, 43, 44, 45, 46, 47, 48, 0, 1, 2, 3, 4, 5, 6, 7, 8, 9, 10, 11, 12, 13, 14, 15, 16, 17, 18, 19, 20] rfl
  replace hD : va_D (fun q : Nat => s.heap.size ≤ q) (WX5 ax bx cI cJ cZ lst2 ++ WX6 am bm cI cJ cZ mst) := hD.sub [21, 22, 23, 24, 25, 26, 27, 28, 29, 30, 31, 32, 33, 34, 35, 36, 37, 38, 39, 40, 41, 42, 43, 44, 45, 46, 47, 48, 0, 1, 2, 3, 4, 5, 6, 7, 8, 9, 10, 11, 12, 13, 14, 15, 16, 17, 18, 19, 20] (by decide) rfl
  refine W.eq (g2 := F0 m 416 ls [.int r]) rfl ?_
  refine lv_aload_n hx hb dL_law_416 rfl (lv_at hl 2 rfl) ?_
  refine lv_aload_n hx hb dL_law_417 rfl (lv_at hl 0 rfl) ?_
  refine lv_iload_n hx hb dL_law_418 rfl (lv_at hl 3 rfl) ?_
  refine lv_iconst (v := (1 : Int32)) hx hb dL_law_419 (by decide) ?_
  refine lv_iadd hx hb dL_law_420 ?_
  refine va_sld hx hb hX hbl hbA hS hi1 dL_law_421 ?_
  refine lv_aload_n hx hb dL_law_422 rfl (lv_at hl 0 rfl) ?_
  refine lv_iload_n hx hb dL_law_423 rfl (lv_at hl 3 rfl) ?_
  refine lv_iconst (v := (2 : Int32)) hx hb dL_law_424 (by decide) ?_
  refine lv_iadd hx hb dL_law_425 ?_
  refine va_sld hx hb hX hbl hbA hS hi2 dL_law_426 ?_
  refine cmV (wr := WX5 ax bx cI cJ cZ lst2) ⟨hx, hb, hml, hown, hts⟩ (ct_X6_told l dC dI am bm cI cJ cZ H.size mst (xs ((x3 + (1 : Int32))).toNatClampNeg) (xs ((x3 + (2 : Int32))).toNatClampNeg) _ h2) (cwV 2 hts gL_law_X6_told rfl rfl rfl (by decide +kernel) ⟨(Nat.le_of_ble_eq_true rfl), (Nat.le_of_ble_eq_true rfl)⟩) hK hP hD hS hA [28, 29, 30, 31, 32, 33, 34, 35, 36, 37, 38, 39, 40, 41, 42, 43, 44, 45, 46, 47, 48] [0, 1, 2, 3, 4, 5, 6, 7, 8, 9, 10, 11, 12, 13, 14, 15, 16, 17, 18, 19, 20, 21, 22, 23, 24, 25, 26, 27] rfl rfl (by decide) rfl (by decide) (by decide) rfl rfl rfl hl.1 rfl (Nat.le_of_ble_eq_true rfl) (show (c0 + 0) + 0 ≤ 600000 by omega) (show (s0 + 0) + 0 ≤ 7302249 by omega) dL_law_427 (fun H locs hP hD hS => ?_)
  replace hP : va_P (dC, dI) vwCl (WX5 ax bx cI cJ cZ lst2 ++ WX6 am bm cI cJ cZ mst2) H := hP
  replace hD : va_D (fun q : Nat => s.heap.size ≤ q) (WX5 ax bx cI cJ cZ lst2 ++ WX6 am bm cI cJ cZ mst2) := hD
  refine W.eq (g2 := F0 m 430 ls [.int r, .int r]) rfl ?_
  refine lv_icmp_eq (tgt := 1432) hx hb dL_law_430 (by decide) (fun _ => ?_) (fun hne => absurd rfl hne)
  refine W.widen (k := c0 + 6) (n := s0 + 12288) (by omega) (by omega) ?_
  exact kk bx H locs ⟨hP, hD, hS⟩
set_option maxHeartbeats 4000000 in
set_option maxRecDepth 100000 in
theorem lawc_factor {p : Program} {l : Launch} {e : Env} {s : State} {m : MethodId} {below : List Frame} {meth : Method} {c : Code} {bs Ln : Nat} {xs : Nat → Int32} {dC : Nat → ClassId} {dI : Nat → Nat → Nat} {cI cJ cZ : ClassId} {QQ : State → Prop} {H : Heap} {locs : List Loc} {ls : Array Slot} {x3 : Int32} {c0 s0 : Nat} {ax bx am bm : Nat → Nat} (C0 : lw_At p s m meth c bs Ln xs) (hK : va_K (dC, dI) vwCl (tyT cI cJ cZ) s) (hi1 : vp_in (x3 + (1 : Int32)) Ln) (hi2 : vp_in (x3 + (2 : Int32)) Ln) (hi3 : vp_in (x3 + (3 : Int32)) Ln) (hi4 : vp_in (x3 + (4 : Int32)) Ln) (hi5 : vp_in (x3 + (5 : Int32)) Ln) (hi6 : vp_in (x3 + (6 : Int32)) Ln) (lst : LG) (mst : MS) (r : Int32) (lst2 : LG) (mst2 : MS) (h1 : fX5_factor lst (xs ((x3 + (1 : Int32))).toNatClampNeg) (xs ((x3 + (2 : Int32))).toNatClampNeg) (xs ((x3 + (3 : Int32))).toNatClampNeg) (xs ((x3 + (4 : Int32))).toNatClampNeg) = some (r, lst2)) (h2 : fX6_factor mst (xs ((x3 + (1 : Int32))).toNatClampNeg) (xs ((x3 + (2 : Int32))).toNatClampNeg) (xs ((x3 + (3 : Int32))).toNatClampNeg) (xs ((x3 + (4 : Int32))).toNatClampNeg) = some (r, mst2)) (hc0 : c0 + 6 ≤ 600000) (hs0 : s0 + 12288 ≤ 7302249) (hl : lv_has ls 4 [(0, .ref bs), (1, .ref (ax 0)), (2, .ref (am 0)), (3, .int x3)]) (hin : IN (dC, dI) (WX5 ax bx cI cJ cZ lst ++ WX6 am bm cI cJ cZ mst) (fun q : Nat => s.heap.size ≤ q) s.heap H locs) (kk : ∀ (bx : Nat → Nat) (H : Heap) (locs : List Loc), IN (dC, dI) (WX5 ax bx cI cJ cZ lst2 ++ WX6 am bm cI cJ cZ mst2) (fun q : Nat => s.heap.size ≤ q) s.heap H locs → W p l e room_1 s m #[Value.ref bs] below meth c H locs (c0 + 6) (s0 + 12288) QQ (F0 m 1432 ls [])) : W p l e room_1 s m #[Value.ref bs] below meth c H locs c0 s0 QQ (F0 m 435 ls []) := by
  obtain ⟨hx, hb, hr, hml, hown, hts0, hX, hbl, hlocks, hgv⟩ := id C0
  have hts : ∀ w ∈ wsL_law, w.before #[Value.ref bs] s = true := fun w h => hts0 w (wsL_law_in w h)
  have hA : ∀ q : Nat, s.heap.size ≤ q → (fun q : Nat => s.heap.size ≤ q) q := fun _ h => h
  have hbA : ¬ (fun q : Nat => s.heap.size ≤ q) bs := Nat.not_le.mpr hbl
  obtain ⟨hP, hD, hS⟩ := hin
  refine lv_aload_n hx hb dL_law_435 rfl (lv_at hl 1 rfl) ?_
  refine lv_aload_n hx hb dL_law_436 rfl (lv_at hl 0 rfl) ?_
  refine lv_iload_n hx hb dL_law_437 rfl (lv_at hl 3 rfl) ?_
  refine lv_iconst (v := (1 : Int32)) hx hb dL_law_438 (by decide) ?_
  refine lv_iadd hx hb dL_law_439 ?_
  refine va_sld hx hb hX hbl hbA hS hi1 dL_law_440 ?_
  refine lv_aload_n hx hb dL_law_441 rfl (lv_at hl 0 rfl) ?_
  refine lv_iload_n hx hb dL_law_442 rfl (lv_at hl 3 rfl) ?_
  refine lv_iconst (v := (2 : Int32)) hx hb dL_law_443 (by decide) ?_
  refine lv_iadd hx hb dL_law_444 ?_
  refine va_sld hx hb hX hbl hbA hS hi2 dL_law_445 ?_
  refine lv_aload_n hx hb dL_law_446 rfl (lv_at hl 0 rfl) ?_
  refine lv_iload_n hx hb dL_law_447 rfl (lv_at hl 3 rfl) ?_
  refine lv_iconst (v := (3 : Int32)) hx hb dL_law_448 (by decide) ?_
  refine lv_iadd hx hb dL_law_449 ?_
  refine va_sld hx hb hX hbl hbA hS hi3 dL_law_450 ?_
  refine lv_aload_n hx hb dL_law_451 rfl (lv_at hl 0 rfl) ?_
  refine lv_iload_n hx hb dL_law_452 rfl (lv_at hl 3 rfl) ?_
  refine lv_iconst (v := (4 : Int32)) hx hb dL_law_453 (by decide) ?_
  refine lv_iadd hx hb dL_law_454 ?_
  refine va_sld hx hb hX hbl hbA hS hi4 dL_law_455 ?_
  refine cmV (wr := WX6 am bm cI cJ cZ mst) ⟨hx, hb, hml, hown, hts⟩ (ct_X5_factor l dC dI ax bx cI cJ cZ H.size lst (xs ((x3 + (1 : Int32))).toNatClampNeg) (xs ((x3 + (2 : Int32))).toNatClampNeg) (xs ((x3 + (3 : Int32))).toNatClampNeg) (xs ((x3 + (4 : Int32))).toNatClampNeg) _ h1) (cwV 4 hts gL_law_X5_factor rfl rfl rfl (by decide +kernel) ⟨(Nat.le_of_ble_eq_true rfl), (Nat.le_of_ble_eq_true rfl)⟩) hK hP hD hS hA [0, 1, 2, 3, 4, 5, 6, 7, 8, 9, 10, 11, 12, 13, 14, 15, 16, 17, 18, 19, 20, 21, 22, 23, 24, 25, 26, 27] [28, 29, 30, 31, 32, 33, 34, 35, 36, 37, 38, 39, 40, 41, 42, 43, 44, 45, 46, 47, 48] rfl rfl (by decide) rfl (by decide) (by decide) rfl rfl rfl hl.1 rfl (Nat.le_of_ble_eq_true rfl) (show c0 + 0 ≤ 600000 by omega) (show s0 + 0 ≤ 7302249 by omega) dL_law_456 (fun H locs hP hD hS => ?_)
  replace hP : va_P (dC, dI) vwCl (WX5 ax bx cI cJ cZ lst2 ++ WX6 am bm cI cJ cZ mst) H := hP.sub [21, 22, 23, 24, 25, 26, 27, 28, 29, 30, 31, 32, 33, 34, 35, 36, 37, 38, 39, 40, 41, 42, 43, 44, 45, 46, 47, 48, 0, 1, 2, 3, 4, 5, 6, 7, 8, 9, 10, 11, 12, 13, 14, 15, 16, 17, 18, 19, 20] rfl
  replace hD : va_D (fun q : Nat => s.heap.size ≤ q) (WX5 ax bx cI cJ cZ lst2 ++ WX6 am bm cI cJ cZ mst) := hD.sub [21, 22, 23, 24, 25, 26, 27, 28, 29, 30, 31, 32, 33, 34, 35, 36, 37, 38, 39, 40, 41, 42, 43, 44, 45, 46, 47, 48, 0, 1, 2, 3, 4, 5, 6, 7, 8, 9, 10, 11, 12, 13, 14, 15, 16, 17, 18, 19, 20] (by decide) rfl
  refine W.eq (g2 := F0 m 459 ls [.int r]) rfl ?_
  refine lv_aload_n hx hb dL_law_459 rfl (lv_at hl 2 rfl) ?_
  refine lv_aload_n hx hb dL_law_460 rfl (lv_at hl 0 rfl) ?_
  refine lv_iload_n hx hb dL_law_461 rfl (lv_at hl 3 rfl) ?_
  refine lv_iconst (v := (1 : Int32)) hx hb dL_law_462 (by decide) ?_
  refine lv_iadd hx hb dL_law_463 ?_
  refine va_sld hx hb hX hbl hbA hS hi1 dL_law_464 ?_
  refine lv_aload_n hx hb dL_law_465 rfl (lv_at hl 0 rfl) ?_
  refine lv_iload_n hx hb dL_law_466 rfl (lv_at hl 3 rfl) ?_
  refine lv_iconst (v := (2 : Int32)) hx hb dL_law_467 (by decide) ?_
  refine lv_iadd hx hb dL_law_468 ?_
  refine va_sld hx hb hX hbl hbA hS hi2 dL_law_469 ?_
  refine lv_aload_n hx hb dL_law_470 rfl (lv_at hl 0 rfl) ?_
  refine lv_iload_n hx hb dL_law_471 rfl (lv_at hl 3 rfl) ?_
  refine lv_iconst (v := (3 : Int32)) hx hb dL_law_472 (by decide) ?_
  refine lv_iadd hx hb dL_law_473 ?_
  refine va_sld hx hb hX hbl hbA hS hi3 dL_law_474 ?_
  refine lv_aload_n hx hb dL_law_475 rfl (lv_at hl 0 rfl) ?_
  refine lv_iload_n hx hb dL_law_476 rfl (lv_at hl 3 rfl) ?_
  refine lv_iconst (v := (4 : Int32)) hx hb dL_law_477 (by decide) ?_
  refine lv_iadd hx hb dL_law_478 ?_
  refine va_sld hx hb hX hbl hbA hS hi4 dL_law_479 ?_
  refine cmV (wr := WX5 ax bx cI cJ cZ lst2) ⟨hx, hb, hml, hown, hts⟩ (ct_X6_factor l dC dI am bm cI cJ cZ H.size mst (xs ((x3 + (1 : Int32))).toNatClampNeg) (xs ((x3 + (2 : Int32))).toNatClampNeg) (xs ((x3 + (3 : Int32))).toNatClampNeg) (xs ((x3 + (4 : Int32))).toNatClampNeg) _ h2) (cwV 4 hts gL_law_X6_factor rfl rfl rfl (by decide +kernel) ⟨(Nat.le_of_ble_eq_true rfl), (Nat.le_of_ble_eq_true rfl)⟩) hK hP hD hS hA [28, 29, 30, 31, 32, 33, 34, 35, 36, 37, 38, 39, 40, 41, 42, 43, 44, 45, 46, 47, 48] [0, 1, 2, 3, 4, 5, 6, 7, 8, 9, 10, 11, 12, 13, 14, 15, 16, 17, 18, 19, 20, 21, 22, 23, 24, 25, 26, 27] rfl rfl (by decide) rfl (by decide) (by decide) rfl rfl rfl hl.1 rfl (Nat.le_of_ble_eq_true rfl) (show (c0 + 0) + 0 ≤ 600000 by omega) (show (s0 + 0) + 0 ≤ 7302249 by omega) dL_law_480 (fun H locs hP hD hS => ?_)
  replace hP : va_P (dC, dI) vwCl (WX5 ax bx cI cJ cZ lst2 ++ WX6 am bm cI cJ cZ mst2) H := hP
  replace hD : va_D (fun q : Nat => s.heap.size ≤ q) (WX5 ax bx cI cJ cZ lst2 ++ WX6 am bm cI cJ cZ mst2) := hD
  refine W.eq (g2 := F0 m 483 ls [.int r, .int r]) rfl ?_
  refine lv_icmp_eq (tgt := 1432) hx hb dL_law_483 (by decide) (fun _ => ?_) (fun hne => absurd rfl hne)
  refine W.widen (k := c0 + 6) (n := s0 + 12288) (by omega) (by omega) ?_
  exact kk bx H locs ⟨hP, hD, hS⟩
set_option maxHeartbeats 4000000 in
set_option maxRecDepth 100000 in
theorem lawc_factorAs {p : Program} {l : Launch} {e : Env} {s : State} {m : MethodId} {below : List Frame} {meth : Method} {c : Code} {bs Ln : Nat} {xs : Nat → Int32} {dC : Nat → ClassId} {dI : Nat → Nat → Nat} {cI cJ cZ : ClassId} {QQ : State → Prop} {H : Heap} {locs : List Loc} {ls : Array Slot} {x3 : Int32} {c0 s0 : Nat} {ax bx am bm : Nat → Nat} (C0 : lw_At p s m meth c bs Ln xs) (hK : va_K (dC, dI) vwCl (tyT cI cJ cZ) s) (hi1 : vp_in (x3 + (1 : Int32)) Ln) (hi2 : vp_in (x3 + (2 : Int32)) Ln) (hi3 : vp_in (x3 + (3 : Int32)) Ln) (hi4 : vp_in (x3 + (4 : Int32)) Ln) (hi5 : vp_in (x3 + (5 : Int32)) Ln) (hi6 : vp_in (x3 + (6 : Int32)) Ln) (lst : LG) (mst : MS) (r : Int32) (mst2 : MS) (h1 : fX5_factorAs lst (xs ((x3 + (1 : Int32))).toNatClampNeg) (xs ((x3 + (2 : Int32))).toNatClampNeg) (xs ((x3 + (3 : Int32))).toNatClampNeg) (b2i (xs ((x3 + (4 : Int32))).toNatClampNeg)) = some r) (h2 : fX6_factorAs mst (xs ((x3 + (1 : Int32))).toNatClampNeg) (xs ((x3 + (2 : Int32))).toNatClampNeg) (xs ((x3 + (3 : Int32))).toNatClampNeg) (b2i (xs ((x3 + (4 : Int32))).toNatClampNeg)) = some (r, mst2)) (hc0 : c0 + 6 ≤ 600000) (hs0 : s0 + 12288 ≤ 7302249) (hl : lv_has ls 4 [(0, .ref bs), (1, .ref (ax 0)), (2, .ref (am 0)), (3, .int x3)]) (hin : IN (dC, dI) (WX5 ax bx cI cJ cZ lst ++ WX6 am bm cI cJ cZ mst) (fun q : Nat => s.heap.size ≤ q) s.heap H locs) (kk : ∀ (bx : Nat → Nat) (H : Heap) (locs : List Loc), IN (dC, dI) (WX5 ax bx cI cJ cZ lst ++ WX6 am bm cI cJ cZ mst2) (fun q : Nat => s.heap.size ≤ q) s.heap H locs → W p l e room_1 s m #[Value.ref bs] below meth c H locs (c0 + 6) (s0 + 12288) QQ (F0 m 1432 ls [])) : W p l e room_1 s m #[Value.ref bs] below meth c H locs c0 s0 QQ (F0 m 488 ls []) := by
  obtain ⟨hx, hb, hr, hml, hown, hts0, hX, hbl, hlocks, hgv⟩ := id C0
  have hts : ∀ w ∈ wsL_law, w.before #[Value.ref bs] s = true := fun w h => hts0 w (wsL_law_in w h)
  have hA : ∀ q : Nat, s.heap.size ≤ q → (fun q : Nat => s.heap.size ≤ q) q := fun _ h => h
  have hbA : ¬ (fun q : Nat => s.heap.size ≤ q) bs := Nat.not_le.mpr hbl
  obtain ⟨hP, hD, hS⟩ := hin
  refine lv_aload_n hx hb dL_law_488 rfl (lv_at hl 1 rfl) ?_
  refine lv_aload_n hx hb dL_law_489 rfl (lv_at hl 0 rfl) ?_
  refine lv_iload_n hx hb dL_law_490 rfl (lv_at hl 3 rfl) ?_
  refine lv_iconst (v := (1 : Int32)) hx hb dL_law_491 (by decide) ?_
  refine lv_iadd hx hb dL_law_492 ?_
  refine va_sld hx hb hX hbl hbA hS hi1 dL_law_493 ?_
  refine lv_aload_n hx hb dL_law_494 rfl (lv_at hl 0 rfl) ?_
  refine lv_iload_n hx hb dL_law_495 rfl (lv_at hl 3 rfl) ?_
  refine lv_iconst (v := (2 : Int32)) hx hb dL_law_496 (by decide) ?_
  refine lv_iadd hx hb dL_law_497 ?_
  refine va_sld hx hb hX hbl hbA hS hi2 dL_law_498 ?_
  refine lv_aload_n hx hb dL_law_499 rfl (lv_at hl 0 rfl) ?_
  refine lv_iload_n hx hb dL_law_500 rfl (lv_at hl 3 rfl) ?_
  refine lv_iconst (v := (3 : Int32)) hx hb dL_law_501 (by decide) ?_
  refine lv_iadd hx hb dL_law_502 ?_
  refine va_sld hx hb hX hbl hbA hS hi3 dL_law_503 ?_
  refine lv_aload_n hx hb dL_law_504 rfl (lv_at hl 0 rfl) ?_
  refine lv_iload_n hx hb dL_law_505 rfl (lv_at hl 3 rfl) ?_
  refine lv_iconst (v := (4 : Int32)) hx hb dL_law_506 (by decide) ?_
  refine lv_iadd hx hb dL_law_507 ?_
  refine va_sld hx hb hX hbl hbA hS hi4 dL_law_508 ?_
  suffices kz : W p l e room_1 s m #[Value.ref bs] below meth c H locs c0 s0 QQ (F0 m 517 ls [.int (b2i (xs ((x3 + (4 : Int32))).toNatClampNeg)), .int (xs ((x3 + (3 : Int32))).toNatClampNeg), .int (xs ((x3 + (2 : Int32))).toNatClampNeg), .int (xs ((x3 + (1 : Int32))).toNatClampNeg), .ref (ax 0)]) by
    refine lv_if_eq (tgt := 516) hx hb dL_law_509 (by decide) (fun cz => ?_) (fun cz => ?_)
    · refine lv_iconst (v := (0 : Int32)) hx hb dL_law_516 (by decide) ?_
      rw [b2i_0 cz] at kz
      exact kz
    · refine lv_iconst (v := (1 : Int32)) hx hb dL_law_512 (by decide) ?_
      refine lv_goto (tgt := 517) hx hb dL_law_513 (by decide) ?_
      rw [b2i_1 cz] at kz
      exact kz
  refine cpV (v := .int r) ⟨hx, hb, hml, hown, hts⟩ (ct_X5_factorAs l dC dI ax bx cI cJ cZ lst (xs ((x3 + (1 : Int32))).toNatClampNeg) (xs ((x3 + (2 : Int32))).toNatClampNeg) (xs ((x3 + (3 : Int32))).toNatClampNeg) (b2i (xs ((x3 + (4 : Int32))).toNatClampNeg)) r h1) (cwV 4 hts gL_law_X5_factorAs rfl rfl rfl (by decide +kernel) ⟨(Nat.le_of_ble_eq_true rfl), (Nat.le_of_ble_eq_true rfl)⟩) hK hP [0, 1, 2, 3, 4, 5, 6, 7, 8, 9, 10, 11, 12, 13, 14, 15, 16, 17, 18, 19, 20, 21, 22, 23, 24, 25, 26, 27] rfl rfl rfl rfl hl.1 rfl (Nat.le_of_ble_eq_true rfl) (show c0 ≤ 600000 by omega) (show s0 ≤ 7302249 by omega) dL_law_517 ?_
  refine W.eq (g2 := F0 m 520 ls [.int r]) rfl ?_
  refine lv_aload_n hx hb dL_law_520 rfl (lv_at hl 2 rfl) ?_
  refine lv_aload_n hx hb dL_law_521 rfl (lv_at hl 0 rfl) ?_
  refine lv_iload_n hx hb dL_law_522 rfl (lv_at hl 3 rfl) ?_
  refine lv_iconst (v := (1 : Int32)) hx hb dL_law_523 (by decide) ?_
  refine lv_iadd hx hb dL_law_524 ?_
  refine va_sld hx hb hX hbl hbA hS hi1 dL_law_525 ?_
  refine lv_aload_n hx hb dL_law_526 rfl (lv_at hl 0 rfl) ?_
  refine lv_iload_n hx hb dL_law_527 rfl (lv_at hl 3 rfl) ?_
  refine lv_iconst (v := (2 : Int32)) hx hb dL_law_528 (by decide) ?_
  refine lv_iadd hx hb dL_law_529 ?_
  refine va_sld hx hb hX hbl hbA hS hi2 dL_law_530 ?_
  refine lv_aload_n hx hb dL_law_531 rfl (lv_at hl 0 rfl) ?_
  refine lv_iload_n hx hb dL_law_532 rfl (lv_at hl 3 rfl) ?_
  refine lv_iconst (v := (3 : Int32)) hx hb dL_law_533 (by decide) ?_
  refine lv_iadd hx hb dL_law_534 ?_
  refine va_sld hx hb hX hbl hbA hS hi3 dL_law_535 ?_
  refine lv_aload_n hx hb dL_law_536 rfl (lv_at hl 0 rfl) ?_
  refine lv_iload_n hx hb dL_law_537 rfl (lv_at hl 3 rfl) ?_
  refine lv_iconst (v := (4 : Int32)) hx hb dL_law_538 (by decide) ?_
  refine lv_iadd hx hb dL_law_539 ?_
  refine va_sld hx hb hX hbl hbA hS hi4 dL_law_540 ?_
  suffices kz : W p l e room_1 s m #[Value.ref bs] below meth c H locs c0 s0 QQ (F0 m 549 ls [.int (b2i (xs ((x3 + (4 : Int32))).toNatClampNeg)), .int (xs ((x3 + (3 : Int32))).toNatClampNeg), .int (xs ((x3 + (2 : Int32))).toNatClampNeg), .int (xs ((x3 + (1 : Int32))).toNatClampNeg), .ref (am 0), .int r]) by
    refine lv_if_eq (tgt := 548) hx hb dL_law_541 (by decide) (fun cz => ?_) (fun cz => ?_)
    · refine lv_iconst (v := (0 : Int32)) hx hb dL_law_548 (by decide) ?_
      rw [b2i_0 cz] at kz
      exact kz
    · refine lv_iconst (v := (1 : Int32)) hx hb dL_law_544 (by decide) ?_
      refine lv_goto (tgt := 549) hx hb dL_law_545 (by decide) ?_
      rw [b2i_1 cz] at kz
      exact kz
  refine cmV (wr := WX5 ax bx cI cJ cZ lst) ⟨hx, hb, hml, hown, hts⟩ (ct_X6_factorAs l dC dI am bm cI cJ cZ H.size mst (xs ((x3 + (1 : Int32))).toNatClampNeg) (xs ((x3 + (2 : Int32))).toNatClampNeg) (xs ((x3 + (3 : Int32))).toNatClampNeg) (b2i (xs ((x3 + (4 : Int32))).toNatClampNeg)) _ h2) (cwV 4 hts gL_law_X6_factorAs rfl rfl rfl (by decide +kernel) ⟨(Nat.le_of_ble_eq_true rfl), (Nat.le_of_ble_eq_true rfl)⟩) hK hP hD hS hA [28, 29, 30, 31, 32, 33, 34, 35, 36, 37, 38, 39, 40, 41, 42, 43, 44, 45, 46, 47, 48] [0, 1, 2, 3, 4, 5, 6, 7, 8, 9, 10, 11, 12, 13, 14, 15, 16, 17, 18, 19, 20, 21, 22, 23, 24, 25, 26, 27] rfl rfl (by decide) rfl (by decide) (by decide) rfl rfl rfl hl.1 rfl (Nat.le_of_ble_eq_true rfl) (show c0 + 0 ≤ 600000 by omega) (show s0 + 0 ≤ 7302249 by omega) dL_law_549 (fun H locs hP hD hS => ?_)
  replace hP : va_P (dC, dI) vwCl (WX5 ax bx cI cJ cZ lst ++ WX6 am bm cI cJ cZ mst2) H := hP
  replace hD : va_D (fun q : Nat => s.heap.size ≤ q) (WX5 ax bx cI cJ cZ lst ++ WX6 am bm cI cJ cZ mst2) := hD
  refine W.eq (g2 := F0 m 552 ls [.int r, .int r]) rfl ?_
  refine lv_icmp_eq (tgt := 1432) hx hb dL_law_552 (by decide) (fun _ => ?_) (fun hne => absurd rfl hne)
  refine W.widen (k := c0 + 6) (n := s0 + 12288) (by omega) (by omega) ?_
  exact kk bx H locs ⟨hP, hD, hS⟩
set_option maxHeartbeats 4000000 in
set_option maxRecDepth 100000 in
theorem lawc_tons {p : Program} {l : Launch} {e : Env} {s : State} {m : MethodId} {below : List Frame} {meth : Method} {c : Code} {bs Ln : Nat} {xs : Nat → Int32} {dC : Nat → ClassId} {dI : Nat → Nat → Nat} {cI cJ cZ : ClassId} {QQ : State → Prop} {H : Heap} {locs : List Loc} {ls : Array Slot} {x3 : Int32} {c0 s0 : Nat} {ax bx am bm : Nat → Nat} (C0 : lw_At p s m meth c bs Ln xs) (hK : va_K (dC, dI) vwCl (tyT cI cJ cZ) s) (hi1 : vp_in (x3 + (1 : Int32)) Ln) (hi2 : vp_in (x3 + (2 : Int32)) Ln) (hi3 : vp_in (x3 + (3 : Int32)) Ln) (hi4 : vp_in (x3 + (4 : Int32)) Ln) (hi5 : vp_in (x3 + (5 : Int32)) Ln) (hi6 : vp_in (x3 + (6 : Int32)) Ln) (lst : LG) (mst : MS) (r : Int64) (lst2 : LG) (mst2 : MS) (h1 : fX5_tons lst (xs ((x3 + (1 : Int32))).toNatClampNeg) (xs ((x3 + (2 : Int32))).toNatClampNeg) (b2i (xs ((x3 + (3 : Int32))).toNatClampNeg)) (b2i (xs ((x3 + (4 : Int32))).toNatClampNeg)) = some (r, lst2)) (h2 : fX6_tons mst (xs ((x3 + (1 : Int32))).toNatClampNeg) (xs ((x3 + (2 : Int32))).toNatClampNeg) (b2i (xs ((x3 + (3 : Int32))).toNatClampNeg)) (b2i (xs ((x3 + (4 : Int32))).toNatClampNeg)) = some (r, mst2)) (hc0 : c0 + 6 ≤ 600000) (hs0 : s0 + 12288 ≤ 7302249) (hl : lv_has ls 4 [(0, .ref bs), (1, .ref (ax 0)), (2, .ref (am 0)), (3, .int x3)]) (hin : IN (dC, dI) (WX5 ax bx cI cJ cZ lst ++ WX6 am bm cI cJ cZ mst) (fun q : Nat => s.heap.size ≤ q) s.heap H locs) (kk : ∀ (bx : Nat → Nat) (H : Heap) (locs : List Loc), IN (dC, dI) (WX5 ax bx cI cJ cZ lst2 ++ WX6 am bm cI cJ cZ mst2) (fun q : Nat => s.heap.size ≤ q) s.heap H locs → W p l e room_1 s m #[Value.ref bs] below meth c H locs (c0 + 6) (s0 + 12288) QQ (F0 m 1432 ls [])) : W p l e room_1 s m #[Value.ref bs] below meth c H locs c0 s0 QQ (F0 m 557 ls []) := by
  obtain ⟨hx, hb, hr, hml, hown, hts0, hX, hbl, hlocks, hgv⟩ := id C0
  have hts : ∀ w ∈ wsL_law, w.before #[Value.ref bs] s = true := fun w h => hts0 w (wsL_law_in w h)
  have hA : ∀ q : Nat, s.heap.size ≤ q → (fun q : Nat => s.heap.size ≤ q) q := fun _ h => h
  have hbA : ¬ (fun q : Nat => s.heap.size ≤ q) bs := Nat.not_le.mpr hbl
  obtain ⟨hP, hD, hS⟩ := hin
  refine lv_aload_n hx hb dL_law_557 rfl (lv_at hl 1 rfl) ?_
  refine lv_aload_n hx hb dL_law_558 rfl (lv_at hl 0 rfl) ?_
  refine lv_iload_n hx hb dL_law_559 rfl (lv_at hl 3 rfl) ?_
  refine lv_iconst (v := (1 : Int32)) hx hb dL_law_560 (by decide) ?_
  refine lv_iadd hx hb dL_law_561 ?_
  refine va_sld hx hb hX hbl hbA hS hi1 dL_law_562 ?_
  refine lv_aload_n hx hb dL_law_563 rfl (lv_at hl 0 rfl) ?_
  refine lv_iload_n hx hb dL_law_564 rfl (lv_at hl 3 rfl) ?_
  refine lv_iconst (v := (2 : Int32)) hx hb dL_law_565 (by decide) ?_
  refine lv_iadd hx hb dL_law_566 ?_
  refine va_sld hx hb hX hbl hbA hS hi2 dL_law_567 ?_
  refine lv_aload_n hx hb dL_law_568 rfl (lv_at hl 0 rfl) ?_
  refine lv_iload_n hx hb dL_law_569 rfl (lv_at hl 3 rfl) ?_
  refine lv_iconst (v := (3 : Int32)) hx hb dL_law_570 (by decide) ?_
  refine lv_iadd hx hb dL_law_571 ?_
  refine va_sld hx hb hX hbl hbA hS hi3 dL_law_572 ?_
  suffices kz : W p l e room_1 s m #[Value.ref bs] below meth c H locs c0 s0 QQ (F0 m 581 ls [.int (b2i (xs ((x3 + (3 : Int32))).toNatClampNeg)), .int (xs ((x3 + (2 : Int32))).toNatClampNeg), .int (xs ((x3 + (1 : Int32))).toNatClampNeg), .ref (ax 0)]) by
    refine lv_if_eq (tgt := 580) hx hb dL_law_573 (by decide) (fun cz => ?_) (fun cz => ?_)
    · refine lv_iconst (v := (0 : Int32)) hx hb dL_law_580 (by decide) ?_
      rw [b2i_0 cz] at kz
      exact kz
    · refine lv_iconst (v := (1 : Int32)) hx hb dL_law_576 (by decide) ?_
      refine lv_goto (tgt := 581) hx hb dL_law_577 (by decide) ?_
      rw [b2i_1 cz] at kz
      exact kz
  refine lv_aload_n hx hb dL_law_581 rfl (lv_at hl 0 rfl) ?_
  refine lv_iload_n hx hb dL_law_582 rfl (lv_at hl 3 rfl) ?_
  refine lv_iconst (v := (4 : Int32)) hx hb dL_law_583 (by decide) ?_
  refine lv_iadd hx hb dL_law_584 ?_
  refine va_sld hx hb hX hbl hbA hS hi4 dL_law_585 ?_
  suffices kz : W p l e room_1 s m #[Value.ref bs] below meth c H locs c0 s0 QQ (F0 m 594 ls [.int (b2i (xs ((x3 + (4 : Int32))).toNatClampNeg)), .int (b2i (xs ((x3 + (3 : Int32))).toNatClampNeg)), .int (xs ((x3 + (2 : Int32))).toNatClampNeg), .int (xs ((x3 + (1 : Int32))).toNatClampNeg), .ref (ax 0)]) by
    refine lv_if_eq (tgt := 593) hx hb dL_law_586 (by decide) (fun cz => ?_) (fun cz => ?_)
    · refine lv_iconst (v := (0 : Int32)) hx hb dL_law_593 (by decide) ?_
      rw [b2i_0 cz] at kz
      exact kz
    · refine lv_iconst (v := (1 : Int32)) hx hb dL_law_589 (by decide) ?_
      refine lv_goto (tgt := 594) hx hb dL_law_590 (by decide) ?_
      rw [b2i_1 cz] at kz
      exact kz
  refine cmV (wr := WX6 am bm cI cJ cZ mst) ⟨hx, hb, hml, hown, hts⟩ (ct_X5_tons l dC dI ax bx cI cJ cZ H.size lst (xs ((x3 + (1 : Int32))).toNatClampNeg) (xs ((x3 + (2 : Int32))).toNatClampNeg) (b2i (xs ((x3 + (3 : Int32))).toNatClampNeg)) (b2i (xs ((x3 + (4 : Int32))).toNatClampNeg)) _ h1) (cwV 4 hts gL_law_X5_tons rfl rfl rfl (by decide +kernel) ⟨(Nat.le_of_ble_eq_true rfl), (Nat.le_of_ble_eq_true rfl)⟩) hK hP hD hS hA [0, 1, 2, 3, 4, 5, 6, 7, 8, 9, 10, 11, 12, 13, 14, 15, 16, 17, 18, 19, 20, 21, 22, 23, 24, 25, 26, 27] [28, 29, 30, 31, 32, 33, 34, 35, 36, 37, 38, 39, 40, 41, 42, 43, 44, 45, 46, 47, 48] rfl rfl (by decide) rfl (by decide) (by decide) rfl rfl rfl hl.1 rfl (Nat.le_of_ble_eq_true rfl) (show c0 + 1 ≤ 600000 by omega) (show s0 + 4 ≤ 7302249 by omega) dL_law_594 (fun H locs hP hD hS => ?_)
  replace hP : va_P (dC, dI) vwCl (WX5 ax bx cI cJ cZ lst2 ++ WX6 am bm cI cJ cZ mst) H := hP.sub [21, 22, 23, 24, 25, 26, 27, 28, 29, 30, 31, 32, 33, 34, 35, 36, 37, 38, 39, 40, 41, 42, 43, 44, 45, 46, 47, 48, 0, 1, 2, 3, 4, 5, 6, 7, 8, 9, 10, 11, 12, 13, 14, 15, 16, 17, 18, 19, 20] rfl
  replace hD : va_D (fun q : Nat => s.heap.size ≤ q) (WX5 ax bx cI cJ cZ lst2 ++ WX6 am bm cI cJ cZ mst) := hD.sub [21, 22, 23, 24, 25, 26, 27, 28, 29, 30, 31, 32, 33, 34, 35, 36, 37, 38, 39, 40, 41, 42, 43, 44, 45, 46, 47, 48, 0, 1, 2, 3, 4, 5, 6, 7, 8, 9, 10, 11, 12, 13, 14, 15, 16, 17, 18, 19, 20] (by decide) rfl
  refine W.eq (g2 := F0 m 597 ls [.long r]) rfl ?_
  refine lv_aload_n hx hb dL_law_597 rfl (lv_at hl 2 rfl) ?_
  refine lv_aload_n hx hb dL_law_598 rfl (lv_at hl 0 rfl) ?_
  refine lv_iload_n hx hb dL_law_599 rfl (lv_at hl 3 rfl) ?_
  refine lv_iconst (v := (1 : Int32)) hx hb dL_law_600 (by decide) ?_
  refine lv_iadd hx hb dL_law_601 ?_
  refine va_sld hx hb hX hbl hbA hS hi1 dL_law_602 ?_
  refine lv_aload_n hx hb dL_law_603 rfl (lv_at hl 0 rfl) ?_
  refine lv_iload_n hx hb dL_law_604 rfl (lv_at hl 3 rfl) ?_
  refine lv_iconst (v := (2 : Int32)) hx hb dL_law_605 (by decide) ?_
  refine lv_iadd hx hb dL_law_606 ?_
  refine va_sld hx hb hX hbl hbA hS hi2 dL_law_607 ?_
  refine lv_aload_n hx hb dL_law_608 rfl (lv_at hl 0 rfl) ?_
  refine lv_iload_n hx hb dL_law_609 rfl (lv_at hl 3 rfl) ?_
  refine lv_iconst (v := (3 : Int32)) hx hb dL_law_610 (by decide) ?_
  refine lv_iadd hx hb dL_law_611 ?_
  refine va_sld hx hb hX hbl hbA hS hi3 dL_law_612 ?_
  suffices kz : W p l e room_1 s m #[Value.ref bs] below meth c H locs (c0 + 1) (s0 + 4) QQ (F0 m 621 ls [.int (b2i (xs ((x3 + (3 : Int32))).toNatClampNeg)), .int (xs ((x3 + (2 : Int32))).toNatClampNeg), .int (xs ((x3 + (1 : Int32))).toNatClampNeg), .ref (am 0), .long r]) by
    refine lv_if_eq (tgt := 620) hx hb dL_law_613 (by decide) (fun cz => ?_) (fun cz => ?_)
    · refine lv_iconst (v := (0 : Int32)) hx hb dL_law_620 (by decide) ?_
      rw [b2i_0 cz] at kz
      exact kz
    · refine lv_iconst (v := (1 : Int32)) hx hb dL_law_616 (by decide) ?_
      refine lv_goto (tgt := 621) hx hb dL_law_617 (by decide) ?_
      rw [b2i_1 cz] at kz
      exact kz
  refine lv_aload_n hx hb dL_law_621 rfl (lv_at hl 0 rfl) ?_
  refine lv_iload_n hx hb dL_law_622 rfl (lv_at hl 3 rfl) ?_
  refine lv_iconst (v := (4 : Int32)) hx hb dL_law_623 (by decide) ?_
  refine lv_iadd hx hb dL_law_624 ?_
  refine va_sld hx hb hX hbl hbA hS hi4 dL_law_625 ?_
  suffices kz : W p l e room_1 s m #[Value.ref bs] below meth c H locs (c0 + 1) (s0 + 4) QQ (F0 m 634 ls [.int (b2i (xs ((x3 + (4 : Int32))).toNatClampNeg)), .int (b2i (xs ((x3 + (3 : Int32))).toNatClampNeg)), .int (xs ((x3 + (2 : Int32))).toNatClampNeg), .int (xs ((x3 + (1 : Int32))).toNatClampNeg), .ref (am 0), .long r]) by
    refine lv_if_eq (tgt := 633) hx hb dL_law_626 (by decide) (fun cz => ?_) (fun cz => ?_)
    · refine lv_iconst (v := (0 : Int32)) hx hb dL_law_633 (by decide) ?_
      rw [b2i_0 cz] at kz
      exact kz
    · refine lv_iconst (v := (1 : Int32)) hx hb dL_law_629 (by decide) ?_
      refine lv_goto (tgt := 634) hx hb dL_law_630 (by decide) ?_
      rw [b2i_1 cz] at kz
      exact kz
  refine cmV (wr := WX5 ax bx cI cJ cZ lst2) ⟨hx, hb, hml, hown, hts⟩ (ct_X6_tons l dC dI am bm cI cJ cZ H.size mst (xs ((x3 + (1 : Int32))).toNatClampNeg) (xs ((x3 + (2 : Int32))).toNatClampNeg) (b2i (xs ((x3 + (3 : Int32))).toNatClampNeg)) (b2i (xs ((x3 + (4 : Int32))).toNatClampNeg)) _ h2) (cwV 4 hts gL_law_X6_tons rfl rfl rfl (by decide +kernel) ⟨(Nat.le_of_ble_eq_true rfl), (Nat.le_of_ble_eq_true rfl)⟩) hK hP hD hS hA [28, 29, 30, 31, 32, 33, 34, 35, 36, 37, 38, 39, 40, 41, 42, 43, 44, 45, 46, 47, 48] [0, 1, 2, 3, 4, 5, 6, 7, 8, 9, 10, 11, 12, 13, 14, 15, 16, 17, 18, 19, 20, 21, 22, 23, 24, 25, 26, 27] rfl rfl (by decide) rfl (by decide) (by decide) rfl rfl rfl hl.1 rfl (Nat.le_of_ble_eq_true rfl) (show (c0 + 1) + 0 ≤ 600000 by omega) (show (s0 + 4) + 0 ≤ 7302249 by omega) dL_law_634 (fun H locs hP hD hS => ?_)
  replace hP : va_P (dC, dI) vwCl (WX5 ax bx cI cJ cZ lst2 ++ WX6 am bm cI cJ cZ mst2) H := hP
  replace hD : va_D (fun q : Nat => s.heap.size ≤ q) (WX5 ax bx cI cJ cZ lst2 ++ WX6 am bm cI cJ cZ mst2) := hD
  refine W.eq (g2 := F0 m 637 ls [.long r, .long r]) rfl ?_
  refine W.lcmp hx hb dL_law_637 ?_
  refine lv_if_eq (tgt := 1432) hx hb dL_law_638 (by decide) (fun _ => ?_) (fun hne => absurd (lg_cmp_s r) hne)
  refine W.widen (k := c0 + 6) (n := s0 + 12288) (by omega) (by omega) ?_
  exact kk bx H locs ⟨hP, hD, hS⟩
set_option maxHeartbeats 4000000 in
set_option maxRecDepth 100000 in
theorem lawc_changed {p : Program} {l : Launch} {e : Env} {s : State} {m : MethodId} {below : List Frame} {meth : Method} {c : Code} {bs Ln : Nat} {xs : Nat → Int32} {dC : Nat → ClassId} {dI : Nat → Nat → Nat} {cI cJ cZ : ClassId} {QQ : State → Prop} {H : Heap} {locs : List Loc} {ls : Array Slot} {x3 : Int32} {c0 s0 : Nat} {ax bx am bm : Nat → Nat} (C0 : lw_At p s m meth c bs Ln xs) (hK : va_K (dC, dI) vwCl (tyT cI cJ cZ) s) (hi1 : vp_in (x3 + (1 : Int32)) Ln) (hi2 : vp_in (x3 + (2 : Int32)) Ln) (hi3 : vp_in (x3 + (3 : Int32)) Ln) (hi4 : vp_in (x3 + (4 : Int32)) Ln) (hi5 : vp_in (x3 + (5 : Int32)) Ln) (hi6 : vp_in (x3 + (6 : Int32)) Ln) (lst : LG) (mst : MS) (r : Int32) (mst2 : MS) (h1 : fX5_changed lst (xs ((x3 + (1 : Int32))).toNatClampNeg) (xs ((x3 + (2 : Int32))).toNatClampNeg) (xs ((x3 + (3 : Int32))).toNatClampNeg) = some r) (h2 : fX6_changed mst (xs ((x3 + (1 : Int32))).toNatClampNeg) (xs ((x3 + (2 : Int32))).toNatClampNeg) (xs ((x3 + (3 : Int32))).toNatClampNeg) = some (r, mst2)) (hc0 : c0 + 6 ≤ 600000) (hs0 : s0 + 12288 ≤ 7302249) (hl : lv_has ls 4 [(0, .ref bs), (1, .ref (ax 0)), (2, .ref (am 0)), (3, .int x3)]) (hin : IN (dC, dI) (WX5 ax bx cI cJ cZ lst ++ WX6 am bm cI cJ cZ mst) (fun q : Nat => s.heap.size ≤ q) s.heap H locs) (kk : ∀ (bx : Nat → Nat) (H : Heap) (locs : List Loc), IN (dC, dI) (WX5 ax bx cI cJ cZ lst ++ WX6 am bm cI cJ cZ mst2) (fun q : Nat => s.heap.size ≤ q) s.heap H locs → W p l e room_1 s m #[Value.ref bs] below meth c H locs (c0 + 6) (s0 + 12288) QQ (F0 m 1432 ls [])) : W p l e room_1 s m #[Value.ref bs] below meth c H locs c0 s0 QQ (F0 m 643 ls []) := by
  obtain ⟨hx, hb, hr, hml, hown, hts0, hX, hbl, hlocks, hgv⟩ := id C0
  have hts : ∀ w ∈ wsL_law, w.before #[Value.ref bs] s = true := fun w h => hts0 w (wsL_law_in w h)
  have hA : ∀ q : Nat, s.heap.size ≤ q → (fun q : Nat => s.heap.size ≤ q) q := fun _ h => h
  have hbA : ¬ (fun q : Nat => s.heap.size ≤ q) bs := Nat.not_le.mpr hbl
  obtain ⟨hP, hD, hS⟩ := hin
  refine lv_aload_n hx hb dL_law_643 rfl (lv_at hl 1 rfl) ?_
  refine lv_aload_n hx hb dL_law_644 rfl (lv_at hl 0 rfl) ?_
  refine lv_iload_n hx hb dL_law_645 rfl (lv_at hl 3 rfl) ?_
  refine lv_iconst (v := (1 : Int32)) hx hb dL_law_646 (by decide) ?_
  refine lv_iadd hx hb dL_law_647 ?_
  refine va_sld hx hb hX hbl hbA hS hi1 dL_law_648 ?_
  refine lv_aload_n hx hb dL_law_649 rfl (lv_at hl 0 rfl) ?_
  refine lv_iload_n hx hb dL_law_650 rfl (lv_at hl 3 rfl) ?_
  refine lv_iconst (v := (2 : Int32)) hx hb dL_law_651 (by decide) ?_
  refine lv_iadd hx hb dL_law_652 ?_
  refine va_sld hx hb hX hbl hbA hS hi2 dL_law_653 ?_
  refine lv_aload_n hx hb dL_law_654 rfl (lv_at hl 0 rfl) ?_
  refine lv_iload_n hx hb dL_law_655 rfl (lv_at hl 3 rfl) ?_
  refine lv_iconst (v := (3 : Int32)) hx hb dL_law_656 (by decide) ?_
  refine lv_iadd hx hb dL_law_657 ?_
  refine va_sld hx hb hX hbl hbA hS hi3 dL_law_658 ?_
  refine cpV (v := .int r) ⟨hx, hb, hml, hown, hts⟩ (ct_X5_changed l dC dI ax bx cI cJ cZ lst (xs ((x3 + (1 : Int32))).toNatClampNeg) (xs ((x3 + (2 : Int32))).toNatClampNeg) (xs ((x3 + (3 : Int32))).toNatClampNeg) r h1) (cwV 3 hts gL_law_X5_changed rfl rfl rfl (by decide +kernel) ⟨(Nat.le_of_ble_eq_true rfl), (Nat.le_of_ble_eq_true rfl)⟩) hK hP [0, 1, 2, 3, 4, 5, 6, 7, 8, 9, 10, 11, 12, 13, 14, 15, 16, 17, 18, 19, 20, 21, 22, 23, 24, 25, 26, 27] rfl rfl rfl rfl hl.1 rfl (Nat.le_of_ble_eq_true rfl) (show c0 ≤ 600000 by omega) (show s0 ≤ 7302249 by omega) dL_law_659 ?_
  refine W.eq (g2 := F0 m 662 ls [.int r]) rfl ?_
  refine lv_aload_n hx hb dL_law_662 rfl (lv_at hl 2 rfl) ?_
  refine lv_aload_n hx hb dL_law_663 rfl (lv_at hl 0 rfl) ?_
  refine lv_iload_n hx hb dL_law_664 rfl (lv_at hl 3 rfl) ?_
  refine lv_iconst (v := (1 : Int32)) hx hb dL_law_665 (by decide) ?_
  refine lv_iadd hx hb dL_law_666 ?_
  refine va_sld hx hb hX hbl hbA hS hi1 dL_law_667 ?_
  refine lv_aload_n hx hb dL_law_668 rfl (lv_at hl 0 rfl) ?_
  refine lv_iload_n hx hb dL_law_669 rfl (lv_at hl 3 rfl) ?_
  refine lv_iconst (v := (2 : Int32)) hx hb dL_law_670 (by decide) ?_
  refine lv_iadd hx hb dL_law_671 ?_
  refine va_sld hx hb hX hbl hbA hS hi2 dL_law_672 ?_
  refine lv_aload_n hx hb dL_law_673 rfl (lv_at hl 0 rfl) ?_
  refine lv_iload_n hx hb dL_law_674 rfl (lv_at hl 3 rfl) ?_
  refine lv_iconst (v := (3 : Int32)) hx hb dL_law_675 (by decide) ?_
  refine lv_iadd hx hb dL_law_676 ?_
  refine va_sld hx hb hX hbl hbA hS hi3 dL_law_677 ?_
  refine cmV (wr := WX5 ax bx cI cJ cZ lst) ⟨hx, hb, hml, hown, hts⟩ (ct_X6_changed l dC dI am bm cI cJ cZ H.size mst (xs ((x3 + (1 : Int32))).toNatClampNeg) (xs ((x3 + (2 : Int32))).toNatClampNeg) (xs ((x3 + (3 : Int32))).toNatClampNeg) _ h2) (cwV 3 hts gL_law_X6_changed rfl rfl rfl (by decide +kernel) ⟨(Nat.le_of_ble_eq_true rfl), (Nat.le_of_ble_eq_true rfl)⟩) hK hP hD hS hA [28, 29, 30, 31, 32, 33, 34, 35, 36, 37, 38, 39, 40, 41, 42, 43, 44, 45, 46, 47, 48] [0, 1, 2, 3, 4, 5, 6, 7, 8, 9, 10, 11, 12, 13, 14, 15, 16, 17, 18, 19, 20, 21, 22, 23, 24, 25, 26, 27] rfl rfl (by decide) rfl (by decide) (by decide) rfl rfl rfl hl.1 rfl (Nat.le_of_ble_eq_true rfl) (show c0 + 0 ≤ 600000 by omega) (show s0 + 0 ≤ 7302249 by omega) dL_law_678 (fun H locs hP hD hS => ?_)
  replace hP : va_P (dC, dI) vwCl (WX5 ax bx cI cJ cZ lst ++ WX6 am bm cI cJ cZ mst2) H := hP
  replace hD : va_D (fun q : Nat => s.heap.size ≤ q) (WX5 ax bx cI cJ cZ lst ++ WX6 am bm cI cJ cZ mst2) := hD
  refine W.eq (g2 := F0 m 681 ls [.int r, .int r]) rfl ?_
  refine lv_icmp_eq (tgt := 1432) hx hb dL_law_681 (by decide) (fun _ => ?_) (fun hne => absurd rfl hne)
  refine W.widen (k := c0 + 6) (n := s0 + 12288) (by omega) (by omega) ?_
  exact kk bx H locs ⟨hP, hD, hS⟩
set_option maxHeartbeats 4000000 in
set_option maxRecDepth 100000 in
theorem lawc_change {p : Program} {l : Launch} {e : Env} {s : State} {m : MethodId} {below : List Frame} {meth : Method} {c : Code} {bs Ln : Nat} {xs : Nat → Int32} {dC : Nat → ClassId} {dI : Nat → Nat → Nat} {cI cJ cZ : ClassId} {QQ : State → Prop} {H : Heap} {locs : List Loc} {ls : Array Slot} {x3 : Int32} {c0 s0 : Nat} {ax bx am bm : Nat → Nat} (C0 : lw_At p s m meth c bs Ln xs) (hK : va_K (dC, dI) vwCl (tyT cI cJ cZ) s) (hi1 : vp_in (x3 + (1 : Int32)) Ln) (hi2 : vp_in (x3 + (2 : Int32)) Ln) (hi3 : vp_in (x3 + (3 : Int32)) Ln) (hi4 : vp_in (x3 + (4 : Int32)) Ln) (hi5 : vp_in (x3 + (5 : Int32)) Ln) (hi6 : vp_in (x3 + (6 : Int32)) Ln) (lst : LG) (mst : MS) (r : Int32) (mst2 : MS) (h1 : fX5_change lst (xs ((x3 + (1 : Int32))).toNatClampNeg) (xs ((x3 + (2 : Int32))).toNatClampNeg) (xs ((x3 + (3 : Int32))).toNatClampNeg) (xs ((x3 + (4 : Int32))).toNatClampNeg) = some r) (h2 : fX6_change mst (xs ((x3 + (1 : Int32))).toNatClampNeg) (xs ((x3 + (2 : Int32))).toNatClampNeg) (xs ((x3 + (3 : Int32))).toNatClampNeg) (xs ((x3 + (4 : Int32))).toNatClampNeg) = some (r, mst2)) (hc0 : c0 + 6 ≤ 600000) (hs0 : s0 + 12288 ≤ 7302249) (hl : lv_has ls 4 [(0, .ref bs), (1, .ref (ax 0)), (2, .ref (am 0)), (3, .int x3)]) (hin : IN (dC, dI) (WX5 ax bx cI cJ cZ lst ++ WX6 am bm cI cJ cZ mst) (fun q : Nat => s.heap.size ≤ q) s.heap H locs) (kk : ∀ (bx : Nat → Nat) (H : Heap) (locs : List Loc), IN (dC, dI) (WX5 ax bx cI cJ cZ lst ++ WX6 am bm cI cJ cZ mst2) (fun q : Nat => s.heap.size ≤ q) s.heap H locs → W p l e room_1 s m #[Value.ref bs] below meth c H locs (c0 + 6) (s0 + 12288) QQ (F0 m 1432 ls [])) : W p l e room_1 s m #[Value.ref bs] below meth c H locs c0 s0 QQ (F0 m 686 ls []) := by
  obtain ⟨hx, hb, hr, hml, hown, hts0, hX, hbl, hlocks, hgv⟩ := id C0
  have hts : ∀ w ∈ wsL_law, w.before #[Value.ref bs] s = true := fun w h => hts0 w (wsL_law_in w h)
  have hA : ∀ q : Nat, s.heap.size ≤ q → (fun q : Nat => s.heap.size ≤ q) q := fun _ h => h
  have hbA : ¬ (fun q : Nat => s.heap.size ≤ q) bs := Nat.not_le.mpr hbl
  obtain ⟨hP, hD, hS⟩ := hin
  refine lv_aload_n hx hb dL_law_686 rfl (lv_at hl 1 rfl) ?_
  refine lv_aload_n hx hb dL_law_687 rfl (lv_at hl 0 rfl) ?_
  refine lv_iload_n hx hb dL_law_688 rfl (lv_at hl 3 rfl) ?_
  refine lv_iconst (v := (1 : Int32)) hx hb dL_law_689 (by decide) ?_
  refine lv_iadd hx hb dL_law_690 ?_
  refine va_sld hx hb hX hbl hbA hS hi1 dL_law_691 ?_
  refine lv_aload_n hx hb dL_law_692 rfl (lv_at hl 0 rfl) ?_
  refine lv_iload_n hx hb dL_law_693 rfl (lv_at hl 3 rfl) ?_
  refine lv_iconst (v := (2 : Int32)) hx hb dL_law_694 (by decide) ?_
  refine lv_iadd hx hb dL_law_695 ?_
  refine va_sld hx hb hX hbl hbA hS hi2 dL_law_696 ?_
  refine lv_aload_n hx hb dL_law_697 rfl (lv_at hl 0 rfl) ?_
  refine lv_iload_n hx hb dL_law_698 rfl (lv_at hl 3 rfl) ?_
  refine lv_iconst (v := (3 : Int32)) hx hb dL_law_699 (by decide) ?_
  refine lv_iadd hx hb dL_law_700 ?_
  refine va_sld hx hb hX hbl hbA hS hi3 dL_law_701 ?_
  refine lv_aload_n hx hb dL_law_702 rfl (lv_at hl 0 rfl) ?_
  refine lv_iload_n hx hb dL_law_703 rfl (lv_at hl 3 rfl) ?_
  refine lv_iconst (v := (4 : Int32)) hx hb dL_law_704 (by decide) ?_
  refine lv_iadd hx hb dL_law_705 ?_
  refine va_sld hx hb hX hbl hbA hS hi4 dL_law_706 ?_
  refine cpV (v := .int r) ⟨hx, hb, hml, hown, hts⟩ (ct_X5_change l dC dI ax bx cI cJ cZ lst (xs ((x3 + (1 : Int32))).toNatClampNeg) (xs ((x3 + (2 : Int32))).toNatClampNeg) (xs ((x3 + (3 : Int32))).toNatClampNeg) (xs ((x3 + (4 : Int32))).toNatClampNeg) r h1) (cwV 4 hts gL_law_X5_change rfl rfl rfl (by decide +kernel) ⟨(Nat.le_of_ble_eq_true rfl), (Nat.le_of_ble_eq_true rfl)⟩) hK hP [0, 1, 2, 3, 4, 5, 6, 7, 8, 9, 10, 11, 12, 13, 14, 15, 16, 17, 18, 19, 20, 21, 22, 23, 24, 25, 26, 27] rfl rfl rfl rfl hl.1 rfl (Nat.le_of_ble_eq_true rfl) (show c0 ≤ 600000 by omega) (show s0 ≤ 7302249 by omega) dL_law_707 ?_
  refine W.eq (g2 := F0 m 710 ls [.int r]) rfl ?_
  refine lv_aload_n hx hb dL_law_710 rfl (lv_at hl 2 rfl) ?_
  refine lv_aload_n hx hb dL_law_711 rfl (lv_at hl 0 rfl) ?_
  refine lv_iload_n hx hb dL_law_712 rfl (lv_at hl 3 rfl) ?_
  refine lv_iconst (v := (1 : Int32)) hx hb dL_law_713 (by decide) ?_
  refine lv_iadd hx hb dL_law_714 ?_
  refine va_sld hx hb hX hbl hbA hS hi1 dL_law_715 ?_
  refine lv_aload_n hx hb dL_law_716 rfl (lv_at hl 0 rfl) ?_
  refine lv_iload_n hx hb dL_law_717 rfl (lv_at hl 3 rfl) ?_
  refine lv_iconst (v := (2 : Int32)) hx hb dL_law_718 (by decide) ?_
  refine lv_iadd hx hb dL_law_719 ?_
  refine va_sld hx hb hX hbl hbA hS hi2 dL_law_720 ?_
  refine lv_aload_n hx hb dL_law_721 rfl (lv_at hl 0 rfl) ?_
  refine lv_iload_n hx hb dL_law_722 rfl (lv_at hl 3 rfl) ?_
  refine lv_iconst (v := (3 : Int32)) hx hb dL_law_723 (by decide) ?_
  refine lv_iadd hx hb dL_law_724 ?_
  refine va_sld hx hb hX hbl hbA hS hi3 dL_law_725 ?_
  refine lv_aload_n hx hb dL_law_726 rfl (lv_at hl 0 rfl) ?_
  refine lv_iload_n hx hb dL_law_727 rfl (lv_at hl 3 rfl) ?_
  refine lv_iconst (v := (4 : Int32)) hx hb dL_law_728 (by decide) ?_
  refine lv_iadd hx hb dL_law_729 ?_
  refine va_sld hx hb hX hbl hbA hS hi4 dL_law_730 ?_
  refine cmV (wr := WX5 ax bx cI cJ cZ lst) ⟨hx, hb, hml, hown, hts⟩ (ct_X6_change l dC dI am bm cI cJ cZ H.size mst (xs ((x3 + (1 : Int32))).toNatClampNeg) (xs ((x3 + (2 : Int32))).toNatClampNeg) (xs ((x3 + (3 : Int32))).toNatClampNeg) (xs ((x3 + (4 : Int32))).toNatClampNeg) _ h2) (cwV 4 hts gL_law_X6_change rfl rfl rfl (by decide +kernel) ⟨(Nat.le_of_ble_eq_true rfl), (Nat.le_of_ble_eq_true rfl)⟩) hK hP hD hS hA [28, 29, 30, 31, 32, 33, 34, 35, 36, 37, 38, 39, 40, 41, 42, 43, 44, 45, 46, 47, 48] [0, 1, 2, 3, 4, 5, 6, 7, 8, 9, 10, 11, 12, 13, 14, 15, 16, 17, 18, 19, 20, 21, 22, 23, 24, 25, 26, 27] rfl rfl (by decide) rfl (by decide) (by decide) rfl rfl rfl hl.1 rfl (Nat.le_of_ble_eq_true rfl) (show c0 + 0 ≤ 600000 by omega) (show s0 + 0 ≤ 7302249 by omega) dL_law_731 (fun H locs hP hD hS => ?_)
  replace hP : va_P (dC, dI) vwCl (WX5 ax bx cI cJ cZ lst ++ WX6 am bm cI cJ cZ mst2) H := hP
  replace hD : va_D (fun q : Nat => s.heap.size ≤ q) (WX5 ax bx cI cJ cZ lst ++ WX6 am bm cI cJ cZ mst2) := hD
  refine W.eq (g2 := F0 m 734 ls [.int r, .int r]) rfl ?_
  refine lv_icmp_eq (tgt := 1432) hx hb dL_law_734 (by decide) (fun _ => ?_) (fun hne => absurd rfl hne)
  refine W.widen (k := c0 + 6) (n := s0 + 12288) (by omega) (by omega) ?_
  exact kk bx H locs ⟨hP, hD, hS⟩
set_option maxHeartbeats 4000000 in
set_option maxRecDepth 100000 in
theorem lawc_total {p : Program} {l : Launch} {e : Env} {s : State} {m : MethodId} {below : List Frame} {meth : Method} {c : Code} {bs Ln : Nat} {xs : Nat → Int32} {dC : Nat → ClassId} {dI : Nat → Nat → Nat} {cI cJ cZ : ClassId} {QQ : State → Prop} {H : Heap} {locs : List Loc} {ls : Array Slot} {x3 : Int32} {c0 s0 : Nat} {ax bx am bm : Nat → Nat} (C0 : lw_At p s m meth c bs Ln xs) (hK : va_K (dC, dI) vwCl (tyT cI cJ cZ) s) (hi1 : vp_in (x3 + (1 : Int32)) Ln) (hi2 : vp_in (x3 + (2 : Int32)) Ln) (hi3 : vp_in (x3 + (3 : Int32)) Ln) (hi4 : vp_in (x3 + (4 : Int32)) Ln) (hi5 : vp_in (x3 + (5 : Int32)) Ln) (hi6 : vp_in (x3 + (6 : Int32)) Ln) (lst : LG) (mst : MS) (r : Int64) (lst2 : LG) (mst2 : MS) (h1 : fX5_total lst (xs ((x3 + (1 : Int32))).toNatClampNeg) (xs ((x3 + (2 : Int32))).toNatClampNeg) (b2i (xs ((x3 + (3 : Int32))).toNatClampNeg)) (b2i (xs ((x3 + (4 : Int32))).toNatClampNeg)) (b2i (xs ((x3 + (5 : Int32))).toNatClampNeg)) = some (r, lst2)) (h2 : fX6_total mst (xs ((x3 + (1 : Int32))).toNatClampNeg) (xs ((x3 + (2 : Int32))).toNatClampNeg) (b2i (xs ((x3 + (3 : Int32))).toNatClampNeg)) (b2i (xs ((x3 + (4 : Int32))).toNatClampNeg)) (b2i (xs ((x3 + (5 : Int32))).toNatClampNeg)) = some (r, mst2)) (hc0 : c0 + 6 ≤ 600000) (hs0 : s0 + 12288 ≤ 7302249) (hl : lv_has ls 4 [(0, .ref bs), (1, .ref (ax 0)), (2, .ref (am 0)), (3, .int x3)]) (hin : IN (dC, dI) (WX5 ax bx cI cJ cZ lst ++ WX6 am bm cI cJ cZ mst) (fun q : Nat => s.heap.size ≤ q) s.heap H locs) (kk : ∀ (bx : Nat → Nat) (H : Heap) (locs : List Loc), IN (dC, dI) (WX5 ax bx cI cJ cZ lst2 ++ WX6 am bm cI cJ cZ mst2) (fun q : Nat => s.heap.size ≤ q) s.heap H locs → W p l e room_1 s m #[Value.ref bs] below meth c H locs (c0 + 6) (s0 + 12288) QQ (F0 m 1432 ls [])) : W p l e room_1 s m #[Value.ref bs] below meth c H locs c0 s0 QQ (F0 m 739 ls []) := by
  obtain ⟨hx, hb, hr, hml, hown, hts0, hX, hbl, hlocks, hgv⟩ := id C0
  have hts : ∀ w ∈ wsL_law, w.before #[Value.ref bs] s = true := fun w h => hts0 w (wsL_law_in w h)
  have hA : ∀ q : Nat, s.heap.size ≤ q → (fun q : Nat => s.heap.size ≤ q) q := fun _ h => h
  have hbA : ¬ (fun q : Nat => s.heap.size ≤ q) bs := Nat.not_le.mpr hbl
  obtain ⟨hP, hD, hS⟩ := hin
  refine lv_aload_n hx hb dL_law_739 rfl (lv_at hl 1 rfl) ?_
  refine lv_aload_n hx hb dL_law_740 rfl (lv_at hl 0 rfl) ?_
  refine lv_iload_n hx hb dL_law_741 rfl (lv_at hl 3 rfl) ?_
  refine lv_iconst (v := (1 : Int32)) hx hb dL_law_742 (by decide) ?_
  refine lv_iadd hx hb dL_law_743 ?_
  refine va_sld hx hb hX hbl hbA hS hi1 dL_law_744 ?_
  refine lv_aload_n hx hb dL_law_745 rfl (lv_at hl 0 rfl) ?_
  refine lv_iload_n hx hb dL_law_746 rfl (lv_at hl 3 rfl) ?_
  refine lv_iconst (v := (2 : Int32)) hx hb dL_law_747 (by decide) ?_
  refine lv_iadd hx hb dL_law_748 ?_
  refine va_sld hx hb hX hbl hbA hS hi2 dL_law_749 ?_
  refine lv_aload_n hx hb dL_law_750 rfl (lv_at hl 0 rfl) ?_
  refine lv_iload_n hx hb dL_law_751 rfl (lv_at hl 3 rfl) ?_
  refine lv_iconst (v := (3 : Int32)) hx hb dL_law_752 (by decide) ?_
  refine lv_iadd hx hb dL_law_753 ?_
  refine va_sld hx hb hX hbl hbA hS hi3 dL_law_754 ?_
  suffices kz : W p l e room_1 s m #[Value.ref bs] below meth c H locs c0 s0 QQ (F0 m 763 ls [.int (b2i (xs ((x3 + (3 : Int32))).toNatClampNeg)), .int (xs ((x3 + (2 : Int32))).toNatClampNeg), .int (xs ((x3 + (1 : Int32))).toNatClampNeg), .ref (ax 0)]) by
    refine lv_if_eq (tgt := 762) hx hb dL_law_755 (by decide) (fun cz => ?_) (fun cz => ?_)
    · refine lv_iconst (v := (0 : Int32)) hx hb dL_law_762 (by decide) ?_
      rw [b2i_0 cz] at kz
      exact kz
    · refine lv_iconst (v := (1 : Int32)) hx hb dL_law_758 (by decide) ?_
      refine lv_goto (tgt := 763) hx hb dL_law_759 (by decide) ?_
      rw [b2i_1 cz] at kz
      exact kz
  refine lv_aload_n hx hb dL_law_763 rfl (lv_at hl 0 rfl) ?_
  refine lv_iload_n hx hb dL_law_764 rfl (lv_at hl 3 rfl) ?_
  refine lv_iconst (v := (4 : Int32)) hx hb dL_law_765 (by decide) ?_
  refine lv_iadd hx hb dL_law_766 ?_
  refine va_sld hx hb hX hbl hbA hS hi4 dL_law_767 ?_
  suffices kz : W p l e room_1 s m #[Value.ref bs] below meth c H locs c0 s0 QQ (F0 m 776 ls [.int (b2i (xs ((x3 + (4 : Int32))).toNatClampNeg)), .int (b2i (xs ((x3 + (3 : Int32))).toNatClampNeg)), .int (xs ((x3 + (2 : Int32))).toNatClampNeg), .int (xs ((x3 + (1 : Int32))).toNatClampNeg), .ref (ax 0)]) by
    refine lv_if_eq (tgt := 775) hx hb dL_law_768 (by decide) (fun cz => ?_) (fun cz => ?_)
    · refine lv_iconst (v := (0 : Int32)) hx hb dL_law_775 (by decide) ?_
      rw [b2i_0 cz] at kz
      exact kz
    · refine lv_iconst (v := (1 : Int32)) hx hb dL_law_771 (by decide) ?_
      refine lv_goto (tgt := 776) hx hb dL_law_772 (by decide) ?_
      rw [b2i_1 cz] at kz
      exact kz
  refine lv_aload_n hx hb dL_law_776 rfl (lv_at hl 0 rfl) ?_
  refine lv_iload_n hx hb dL_law_777 rfl (lv_at hl 3 rfl) ?_
  refine lv_iconst (v := (5 : Int32)) hx hb dL_law_778 (by decide) ?_
  refine lv_iadd hx hb dL_law_779 ?_
  refine va_sld hx hb hX hbl hbA hS hi5 dL_law_780 ?_
  suffices kz : W p l e room_1 s m #[Value.ref bs] below meth c H locs c0 s0 QQ (F0 m 789 ls [.int (b2i (xs ((x3 + (5 : Int32))).toNatClampNeg)), .int (b2i (xs ((x3 + (4 : Int32))).toNatClampNeg)), .int (b2i (xs ((x3 + (3 : Int32))).toNatClampNeg)), .int (xs ((x3 + (2 : Int32))).toNatClampNeg), .int (xs ((x3 + (1 : Int32))).toNatClampNeg), .ref (ax 0)]) by
    refine lv_if_eq (tgt := 788) hx hb dL_law_781 (by decide) (fun cz => ?_) (fun cz => ?_)
    · refine lv_iconst (v := (0 : Int32)) hx hb dL_law_788 (by decide) ?_
      rw [b2i_0 cz] at kz
      exact kz
    · refine lv_iconst (v := (1 : Int32)) hx hb dL_law_784 (by decide) ?_
      refine lv_goto (tgt := 789) hx hb dL_law_785 (by decide) ?_
      rw [b2i_1 cz] at kz
      exact kz
  refine cmV (wr := WX6 am bm cI cJ cZ mst) ⟨hx, hb, hml, hown, hts⟩ (ct_X5_total l dC dI ax bx cI cJ cZ H.size lst (xs ((x3 + (1 : Int32))).toNatClampNeg) (xs ((x3 + (2 : Int32))).toNatClampNeg) (b2i (xs ((x3 + (3 : Int32))).toNatClampNeg)) (b2i (xs ((x3 + (4 : Int32))).toNatClampNeg)) (b2i (xs ((x3 + (5 : Int32))).toNatClampNeg)) _ h1) (cwV 5 hts gL_law_X5_total rfl rfl rfl (by decide +kernel) ⟨(Nat.le_of_ble_eq_true rfl), (Nat.le_of_ble_eq_true rfl)⟩) hK hP hD hS hA [0, 1, 2, 3, 4, 5, 6, 7, 8, 9, 10, 11, 12, 13, 14, 15, 16, 17, 18, 19, 20, 21, 22, 23, 24, 25, 26, 27] [28, 29, 30, 31, 32, 33, 34, 35, 36, 37, 38, 39, 40, 41, 42, 43, 44, 45, 46, 47, 48] rfl rfl (by decide) rfl (by decide) (by decide) rfl rfl rfl hl.1 rfl (Nat.le_of_ble_eq_true rfl) (show c0 + 1 ≤ 600000 by omega) (show s0 + 4 ≤ 7302249 by omega) dL_law_789 (fun H locs hP hD hS => ?_)
  replace hP : va_P (dC, dI) vwCl (WX5 ax bx cI cJ cZ lst2 ++ WX6 am bm cI cJ cZ mst) H := hP.sub [21, 22, 23, 24, 25, 26, 27, 28, 29, 30, 31, 32, 33, 34, 35, 36, 37, 38, 39, 40, 41, 42, 43, 44, 45, 46, 47, 48, 0, 1, 2, 3, 4, 5, 6, 7, 8, 9, 10, 11, 12, 13, 14, 15, 16, 17, 18, 19, 20] rfl
  replace hD : va_D (fun q : Nat => s.heap.size ≤ q) (WX5 ax bx cI cJ cZ lst2 ++ WX6 am bm cI cJ cZ mst) := hD.sub [21, 22, 23, 24, 25, 26, 27, 28, 29, 30, 31, 32, 33, 34, 35, 36, 37, 38, 39, 40, 41, 42, 43, 44, 45, 46, 47, 48, 0, 1, 2, 3, 4, 5, 6, 7, 8, 9, 10, 11, 12, 13, 14, 15, 16, 17, 18, 19, 20] (by decide) rfl
  refine W.eq (g2 := F0 m 792 ls [.long r]) rfl ?_
  refine lv_aload_n hx hb dL_law_792 rfl (lv_at hl 2 rfl) ?_
  refine lv_aload_n hx hb dL_law_793 rfl (lv_at hl 0 rfl) ?_
  refine lv_iload_n hx hb dL_law_794 rfl (lv_at hl 3 rfl) ?_
  refine lv_iconst (v := (1 : Int32)) hx hb dL_law_795 (by decide) ?_
  refine lv_iadd hx hb dL_law_796 ?_
  refine va_sld hx hb hX hbl hbA hS hi1 dL_law_797 ?_
  refine lv_aload_n hx hb dL_law_798 rfl (lv_at hl 0 rfl) ?_
  refine lv_iload_n hx hb dL_law_799 rfl (lv_at hl 3 rfl) ?_
  refine lv_iconst (v := (2 : Int32)) hx hb dL_law_800 (by decide) ?_
  refine lv_iadd hx hb dL_law_801 ?_
  refine va_sld hx hb hX hbl hbA hS hi2 dL_law_802 ?_
  refine lv_aload_n hx hb dL_law_803 rfl (lv_at hl 0 rfl) ?_
  refine lv_iload_n hx hb dL_law_804 rfl (lv_at hl 3 rfl) ?_
  refine lv_iconst (v := (3 : Int32)) hx hb dL_law_805 (by decide) ?_
  refine lv_iadd hx hb dL_law_806 ?_
  refine va_sld hx hb hX hbl hbA hS hi3 dL_law_807 ?_
  suffices kz : W p l e room_1 s m #[Value.ref bs] below meth c H locs (c0 + 1) (s0 + 4) QQ (F0 m 816 ls [.int (b2i (xs ((x3 + (3 : Int32))).toNatClampNeg)), .int (xs ((x3 + (2 : Int32))).toNatClampNeg), .int (xs ((x3 + (1 : Int32))).toNatClampNeg), .ref (am 0), .long r]) by
    refine lv_if_eq (tgt := 815) hx hb dL_law_808 (by decide) (fun cz => ?_) (fun cz => ?_)
    · refine lv_iconst (v := (0 : Int32)) hx hb dL_law_815 (by decide) ?_
      rw [b2i_0 cz] at kz
      exact kz
    · refine lv_iconst (v := (1 : Int32)) hx hb dL_law_811 (by decide) ?_
      refine lv_goto (tgt := 816) hx hb dL_law_812 (by decide) ?_
      rw [b2i_1 cz] at kz
      exact kz
  refine lv_aload_n hx hb dL_law_816 rfl (lv_at hl 0 rfl) ?_
  refine lv_iload_n hx hb dL_law_817 rfl (lv_at hl 3 rfl) ?_
  refine lv_iconst (v := (4 : Int32)) hx hb dL_law_818 (by decide) ?_
  refine lv_iadd hx hb dL_law_819 ?_
  refine va_sld hx hb hX hbl hbA hS hi4 dL_law_820 ?_
  suffices kz : W p l e room_1 s m #[Value.ref bs] below meth c H locs (c0 + 1) (s0 + 4) QQ (F0 m 829 ls [.int (b2i (xs ((x3 + (4 : Int32))).toNatClampNeg)), .int (b2i (xs ((x3 + (3 : Int32))).toNatClampNeg)), .int (xs ((x3 + (2 : Int32))).toNatClampNeg), .int (xs ((x3 + (1 : Int32))).toNatClampNeg), .ref (am 0), .long r]) by
    refine lv_if_eq (tgt := 828) hx hb dL_law_821 (by decide) (fun cz => ?_) (fun cz => ?_)
    · refine lv_iconst (v := (0 : Int32)) hx hb dL_law_828 (by decide) ?_
      rw [b2i_0 cz] at kz
      exact kz
    · refine lv_iconst (v := (1 : Int32)) hx hb dL_law_824 (by decide) ?_
      refine lv_goto (tgt := 829) hx hb dL_law_825 (by decide) ?_
      rw [b2i_1 cz] at kz
      exact kz
  refine lv_aload_n hx hb dL_law_829 rfl (lv_at hl 0 rfl) ?_
  refine lv_iload_n hx hb dL_law_830 rfl (lv_at hl 3 rfl) ?_
  refine lv_iconst (v := (5 : Int32)) hx hb dL_law_831 (by decide) ?_
  refine lv_iadd hx hb dL_law_832 ?_
  refine va_sld hx hb hX hbl hbA hS hi5 dL_law_833 ?_
  suffices kz : W p l e room_1 s m #[Value.ref bs] below meth c H locs (c0 + 1) (s0 + 4) QQ (F0 m 842 ls [.int (b2i (xs ((x3 + (5 : Int32))).toNatClampNeg)), .int (b2i (xs ((x3 + (4 : Int32))).toNatClampNeg)), .int (b2i (xs ((x3 + (3 : Int32))).toNatClampNeg)), .int (xs ((x3 + (2 : Int32))).toNatClampNeg), .int (xs ((x3 + (1 : Int32))).toNatClampNeg), .ref (am 0), .long r]) by
    refine lv_if_eq (tgt := 841) hx hb dL_law_834 (by decide) (fun cz => ?_) (fun cz => ?_)
    · refine lv_iconst (v := (0 : Int32)) hx hb dL_law_841 (by decide) ?_
      rw [b2i_0 cz] at kz
      exact kz
    · refine lv_iconst (v := (1 : Int32)) hx hb dL_law_837 (by decide) ?_
      refine lv_goto (tgt := 842) hx hb dL_law_838 (by decide) ?_
      rw [b2i_1 cz] at kz
      exact kz
  refine cmV (wr := WX5 ax bx cI cJ cZ lst2) ⟨hx, hb, hml, hown, hts⟩ (ct_X6_total l dC dI am bm cI cJ cZ H.size mst (xs ((x3 + (1 : Int32))).toNatClampNeg) (xs ((x3 + (2 : Int32))).toNatClampNeg) (b2i (xs ((x3 + (3 : Int32))).toNatClampNeg)) (b2i (xs ((x3 + (4 : Int32))).toNatClampNeg)) (b2i (xs ((x3 + (5 : Int32))).toNatClampNeg)) _ h2) (cwV 5 hts gL_law_X6_total rfl rfl rfl (by decide +kernel) ⟨(Nat.le_of_ble_eq_true rfl), (Nat.le_of_ble_eq_true rfl)⟩) hK hP hD hS hA [28, 29, 30, 31, 32, 33, 34, 35, 36, 37, 38, 39, 40, 41, 42, 43, 44, 45, 46, 47, 48] [0, 1, 2, 3, 4, 5, 6, 7, 8, 9, 10, 11, 12, 13, 14, 15, 16, 17, 18, 19, 20, 21, 22, 23, 24, 25, 26, 27] rfl rfl (by decide) rfl (by decide) (by decide) rfl rfl rfl hl.1 rfl (Nat.le_of_ble_eq_true rfl) (show (c0 + 1) + 0 ≤ 600000 by omega) (show (s0 + 4) + 0 ≤ 7302249 by omega) dL_law_842 (fun H locs hP hD hS => ?_)
  replace hP : va_P (dC, dI) vwCl (WX5 ax bx cI cJ cZ lst2 ++ WX6 am bm cI cJ cZ mst2) H := hP
  replace hD : va_D (fun q : Nat => s.heap.size ≤ q) (WX5 ax bx cI cJ cZ lst2 ++ WX6 am bm cI cJ cZ mst2) := hD
  refine W.eq (g2 := F0 m 845 ls [.long r, .long r]) rfl ?_
  refine W.lcmp hx hb dL_law_845 ?_
  refine lv_if_eq (tgt := 1432) hx hb dL_law_846 (by decide) (fun _ => ?_) (fun hne => absurd (lg_cmp_s r) hne)
  refine W.widen (k := c0 + 6) (n := s0 + 12288) (by omega) (by omega) ?_
  exact kk bx H locs ⟨hP, hD, hS⟩
set_option maxHeartbeats 4000000 in
set_option maxRecDepth 100000 in
theorem lawc_anew {p : Program} {l : Launch} {e : Env} {s : State} {m : MethodId} {below : List Frame} {meth : Method} {c : Code} {bs Ln : Nat} {xs : Nat → Int32} {dC : Nat → ClassId} {dI : Nat → Nat → Nat} {cI cJ cZ : ClassId} {QQ : State → Prop} {H : Heap} {locs : List Loc} {ls : Array Slot} {x3 : Int32} {c0 s0 : Nat} {ax bx am bm : Nat → Nat} (C0 : lw_At p s m meth c bs Ln xs) (hK : va_K (dC, dI) vwCl (tyT cI cJ cZ) s) (hi1 : vp_in (x3 + (1 : Int32)) Ln) (hi2 : vp_in (x3 + (2 : Int32)) Ln) (hi3 : vp_in (x3 + (3 : Int32)) Ln) (hi4 : vp_in (x3 + (4 : Int32)) Ln) (hi5 : vp_in (x3 + (5 : Int32)) Ln) (hi6 : vp_in (x3 + (6 : Int32)) Ln) (lst : LG) (mst : MS) (r : Int64) (lst2 : LG) (mst2 : MS) (h1 : fX5_anew lst (xs ((x3 + (1 : Int32))).toNatClampNeg) (xs ((x3 + (2 : Int32))).toNatClampNeg) (xs ((x3 + (3 : Int32))).toNatClampNeg) (b2i (xs ((x3 + (4 : Int32))).toNatClampNeg)) (b2i (xs ((x3 + (5 : Int32))).toNatClampNeg)) (b2i (xs ((x3 + (6 : Int32))).toNatClampNeg)) = some (r, lst2)) (h2 : fX6_anew mst (xs ((x3 + (1 : Int32))).toNatClampNeg) (xs ((x3 + (2 : Int32))).toNatClampNeg) (xs ((x3 + (3 : Int32))).toNatClampNeg) (b2i (xs ((x3 + (4 : Int32))).toNatClampNeg)) (b2i (xs ((x3 + (5 : Int32))).toNatClampNeg)) (b2i (xs ((x3 + (6 : Int32))).toNatClampNeg)) = some (r, mst2)) (hc0 : c0 + 6 ≤ 600000) (hs0 : s0 + 12288 ≤ 7302249) (hl : lv_has ls 4 [(0, .ref bs), (1, .ref (ax 0)), (2, .ref (am 0)), (3, .int x3)]) (hin : IN (dC, dI) (WX5 ax bx cI cJ cZ lst ++ WX6 am bm cI cJ cZ mst) (fun q : Nat => s.heap.size ≤ q) s.heap H locs) (kk : ∀ (bx : Nat → Nat) (H : Heap) (locs : List Loc), IN (dC, dI) (WX5 ax bx cI cJ cZ lst2 ++ WX6 am bm cI cJ cZ mst2) (fun q : Nat => s.heap.size ≤ q) s.heap H locs → W p l e room_1 s m #[Value.ref bs] below meth c H locs (c0 + 6) (s0 + 12288) QQ (F0 m 1432 ls [])) : W p l e room_1 s m #[Value.ref bs] below meth c H locs c0 s0 QQ (F0 m 851 ls []) := by
  obtain ⟨hx, hb, hr, hml, hown, hts0, hX, hbl, hlocks, hgv⟩ := id C0
  have hts : ∀ w ∈ wsL_law, w.before #[Value.ref bs] s = true := fun w h => hts0 w (wsL_law_in w h)
  have hA : ∀ q : Nat, s.heap.size ≤ q → (fun q : Nat => s.heap.size ≤ q) q := fun _ h => h
  have hbA : ¬ (fun q : Nat => s.heap.size ≤ q) bs := Nat.not_le.mpr hbl
  obtain ⟨hP, hD, hS⟩ := hin
  refine lv_aload_n hx hb dL_law_851 rfl (lv_at hl 1 rfl) ?_
  refine lv_aload_n hx hb dL_law_852 rfl (lv_at hl 0 rfl) ?_
  refine lv_iload_n hx hb dL_law_853 rfl (lv_at hl 3 rfl) ?_
  refine lv_iconst (v := (1 : Int32)) hx hb dL_law_854 (by decide) ?_
  refine lv_iadd hx hb dL_law_855 ?_
  refine va_sld hx hb hX hbl hbA hS hi1 dL_law_856 ?_
  refine lv_aload_n hx hb dL_law_857 rfl (lv_at hl 0 rfl) ?_
  refine lv_iload_n hx hb dL_law_858 rfl (lv_at hl 3 rfl) ?_
  refine lv_iconst (v := (2 : Int32)) hx hb dL_law_859 (by decide) ?_
  refine lv_iadd hx hb dL_law_860 ?_
  refine va_sld hx hb hX hbl hbA hS hi2 dL_law_861 ?_
  refine lv_aload_n hx hb dL_law_862 rfl (lv_at hl 0 rfl) ?_
  refine lv_iload_n hx hb dL_law_863 rfl (lv_at hl 3 rfl) ?_
  refine lv_iconst (v := (3 : Int32)) hx hb dL_law_864 (by decide) ?_
  refine lv_iadd hx hb dL_law_865 ?_
  refine va_sld hx hb hX hbl hbA hS hi3 dL_law_866 ?_
  refine lv_aload_n hx hb dL_law_867 rfl (lv_at hl 0 rfl) ?_
  refine lv_iload_n hx hb dL_law_868 rfl (lv_at hl 3 rfl) ?_
  refine lv_iconst (v := (4 : Int32)) hx hb dL_law_869 (by decide) ?_
  refine lv_iadd hx hb dL_law_870 ?_
  refine va_sld hx hb hX hbl hbA hS hi4 dL_law_871 ?_
  suffices kz : W p l e room_1 s m #[Value.ref bs] below meth c H locs c0 s0 QQ (F0 m 880 ls [.int (b2i (xs ((x3 + (4 : Int32))).toNatClampNeg)), .int (xs ((x3 + (3 : Int32))).toNatClampNeg), .int (xs ((x3 + (2 : Int32))).toNatClampNeg), .int (xs ((x3 + (1 : Int32))).toNatClampNeg), .ref (ax 0)]) by
    refine lv_if_eq (tgt := 879) hx hb dL_law_872 (by decide) (fun cz => ?_) (fun cz => ?_)
    · refine lv_iconst (v := (0 : Int32)) hx hb dL_law_879 (by decide) ?_
      rw [b2i_0 cz] at kz
      exact kz
    · refine lv_iconst (v := (1 : Int32)) hx hb dL_law_875 (by decide) ?_
      refine lv_goto (tgt := 880) hx hb dL_law_876 (by decide) ?_
      rw [b2i_1 cz] at kz
      exact kz
  refine lv_aload_n hx hb dL_law_880 rfl (lv_at hl 0 rfl) ?_
  refine lv_iload_n hx hb dL_law_881 rfl (lv_at hl 3 rfl) ?_
  refine lv_iconst (v := (5 : Int32)) hx hb dL_law_882 (by decide) ?_
  refine lv_iadd hx hb dL_law_883 ?_
  refine va_sld hx hb hX hbl hbA hS hi5 dL_law_884 ?_
  suffices kz : W p l e room_1 s m #[Value.ref bs] below meth c H locs c0 s0 QQ (F0 m 893 ls [.int (b2i (xs ((x3 + (5 : Int32))).toNatClampNeg)), .int (b2i (xs ((x3 + (4 : Int32))).toNatClampNeg)), .int (xs ((x3 + (3 : Int32))).toNatClampNeg), .int (xs ((x3 + (2 : Int32))).toNatClampNeg), .int (xs ((x3 + (1 : Int32))).toNatClampNeg), .ref (ax 0)]) by
    refine lv_if_eq (tgt := 892) hx hb dL_law_885 (by decide) (fun cz => ?_) (fun cz => ?_)
    · refine lv_iconst (v := (0 : Int32)) hx hb dL_law_892 (by decide) ?_
      rw [b2i_0 cz] at kz
      exact kz
    · refine lv_iconst (v := (1 : Int32)) hx hb dL_law_888 (by decide) ?_
      refine lv_goto (tgt := 893) hx hb dL_law_889 (by decide) ?_
      rw [b2i_1 cz] at kz
      exact kz
  refine lv_aload_n hx hb dL_law_893 rfl (lv_at hl 0 rfl) ?_
  refine lv_iload_n hx hb dL_law_894 rfl (lv_at hl 3 rfl) ?_
  refine lv_bipush (v := (6 : Int32)) hx hb dL_law_895 (by decide) ?_
  refine lv_iadd hx hb dL_law_897 ?_
  refine va_sld hx hb hX hbl hbA hS hi6 dL_law_898 ?_
  suffices kz : W p l e room_1 s m #[Value.ref bs] below meth c H locs c0 s0 QQ (F0 m 907 ls [.int (b2i (xs ((x3 + (6 : Int32))).toNatClampNeg)), .int (b2i (xs ((x3 + (5 : Int32))).toNatClampNeg)), .int (b2i (xs ((x3 + (4 : Int32))).toNatClampNeg)), .int (xs ((x3 + (3 : Int32))).toNatClampNeg), .int (xs ((x3 + (2 : Int32))).toNatClampNeg), .int (xs ((x3 + (1 : Int32))).toNatClampNeg), .ref (ax 0)]) by
    refine lv_if_eq (tgt := 906) hx hb dL_law_899 (by decide) (fun cz => ?_) (fun cz => ?_)
    · refine lv_iconst (v := (0 : Int32)) hx hb dL_law_906 (by decide) ?_
      rw [b2i_0 cz] at kz
      exact kz
    · refine lv_iconst (v := (1 : Int32)) hx hb dL_law_902 (by decide) ?_
      refine lv_goto (tgt := 907) hx hb dL_law_903 (by decide) ?_
      rw [b2i_1 cz] at kz
      exact kz
  refine cmV (wr := WX6 am bm cI cJ cZ mst) ⟨hx, hb, hml, hown, hts⟩ (ct_X5_anew l dC dI ax bx cI cJ cZ H.size lst (xs ((x3 + (1 : Int32))).toNatClampNeg) (xs ((x3 + (2 : Int32))).toNatClampNeg) (xs ((x3 + (3 : Int32))).toNatClampNeg) (b2i (xs ((x3 + (4 : Int32))).toNatClampNeg)) (b2i (xs ((x3 + (5 : Int32))).toNatClampNeg)) (b2i (xs ((x3 + (6 : Int32))).toNatClampNeg)) _ h1) (cwV 6 hts gL_law_X5_anew rfl rfl rfl (by decide +kernel) ⟨(Nat.le_of_ble_eq_true rfl), (Nat.le_of_ble_eq_true rfl)⟩) hK hP hD hS hA [0, 1, 2, 3, 4, 5, 6, 7, 8, 9, 10, 11, 12, 13, 14, 15, 16, 17, 18, 19, 20, 21, 22, 23, 24, 25, 26, 27] [28, 29, 30, 31, 32, 33, 34, 35, 36, 37, 38, 39, 40, 41, 42, 43, 44, 45, 46, 47, 48] rfl rfl (by decide) rfl (by decide) (by decide) rfl rfl rfl hl.1 rfl (Nat.le_of_ble_eq_true rfl) (show c0 + 1 ≤ 600000 by omega) (show s0 + 4 ≤ 7302249 by omega) dL_law_907 (fun H locs hP hD hS => ?_)
  replace hP : va_P (dC, dI) vwCl (WX5 ax bx cI cJ cZ lst2 ++ WX6 am bm cI cJ cZ mst) H := hP.sub [21, 22, 23, 24, 25, 26, 27, 28, 29, 30, 31, 32, 33, 34, 35, 36, 37, 38, 39, 40, 41, 42, 43, 44, 45, 46, 47, 48, 0, 1, 2, 3, 4, 5, 6, 7, 8, 9, 10, 11, 12, 13, 14, 15, 16, 17, 18, 19, 20] rfl
  replace hD : va_D (fun q : Nat => s.heap.size ≤ q) (WX5 ax bx cI cJ cZ lst2 ++ WX6 am bm cI cJ cZ mst) := hD.sub [21, 22, 23, 24, 25, 26, 27, 28, 29, 30, 31, 32, 33, 34, 35, 36, 37, 38, 39, 40, 41, 42, 43, 44, 45, 46, 47, 48, 0, 1, 2, 3, 4, 5, 6, 7, 8, 9, 10, 11, 12, 13, 14, 15, 16, 17, 18, 19, 20] (by decide) rfl
  refine W.eq (g2 := F0 m 910 ls [.long r]) rfl ?_
  refine lv_aload_n hx hb dL_law_910 rfl (lv_at hl 2 rfl) ?_
  refine lv_aload_n hx hb dL_law_911 rfl (lv_at hl 0 rfl) ?_
  refine lv_iload_n hx hb dL_law_912 rfl (lv_at hl 3 rfl) ?_
  refine lv_iconst (v := (1 : Int32)) hx hb dL_law_913 (by decide) ?_
  refine lv_iadd hx hb dL_law_914 ?_
  refine va_sld hx hb hX hbl hbA hS hi1 dL_law_915 ?_
  refine lv_aload_n hx hb dL_law_916 rfl (lv_at hl 0 rfl) ?_
  refine lv_iload_n hx hb dL_law_917 rfl (lv_at hl 3 rfl) ?_
  refine lv_iconst (v := (2 : Int32)) hx hb dL_law_918 (by decide) ?_
  refine lv_iadd hx hb dL_law_919 ?_
  refine va_sld hx hb hX hbl hbA hS hi2 dL_law_920 ?_
  refine lv_aload_n hx hb dL_law_921 rfl (lv_at hl 0 rfl) ?_
  refine lv_iload_n hx hb dL_law_922 rfl (lv_at hl 3 rfl) ?_
  refine lv_iconst (v := (3 : Int32)) hx hb dL_law_923 (by decide) ?_
  refine lv_iadd hx hb dL_law_924 ?_
  refine va_sld hx hb hX hbl hbA hS hi3 dL_law_925 ?_
  refine lv_aload_n hx hb dL_law_926 rfl (lv_at hl 0 rfl) ?_
  refine lv_iload_n hx hb dL_law_927 rfl (lv_at hl 3 rfl) ?_
  refine lv_iconst (v := (4 : Int32)) hx hb dL_law_928 (by decide) ?_
  refine lv_iadd hx hb dL_law_929 ?_
  refine va_sld hx hb hX hbl hbA hS hi4 dL_law_930 ?_
  suffices kz : W p l e room_1 s m #[Value.ref bs] below meth c H locs (c0 + 1) (s0 + 4) QQ (F0 m 939 ls [.int (b2i (xs ((x3 + (4 : Int32))).toNatClampNeg)), .int (xs ((x3 + (3 : Int32))).toNatClampNeg), .int (xs ((x3 + (2 : Int32))).toNatClampNeg), .int (xs ((x3 + (1 : Int32))).toNatClampNeg), .ref (am 0), .long r]) by
    refine lv_if_eq (tgt := 938) hx hb dL_law_931 (by decide) (fun cz => ?_) (fun cz => ?_)
    · refine lv_iconst (v := (0 : Int32)) hx hb dL_law_938 (by decide) ?_
      rw [b2i_0 cz] at kz
      exact kz
    · refine lv_iconst (v := (1 : Int32)) hx hb dL_law_934 (by decide) ?_
      refine lv_goto (tgt := 939) hx hb dL_law_935 (by decide) ?_
      rw [b2i_1 cz] at kz
      exact kz
  refine lv_aload_n hx hb dL_law_939 rfl (lv_at hl 0 rfl) ?_
  refine lv_iload_n hx hb dL_law_940 rfl (lv_at hl 3 rfl) ?_
  refine lv_iconst (v := (5 : Int32)) hx hb dL_law_941 (by decide) ?_
  refine lv_iadd hx hb dL_law_942 ?_
  refine va_sld hx hb hX hbl hbA hS hi5 dL_law_943 ?_
  suffices kz : W p l e room_1 s m #[Value.ref bs] below meth c H locs (c0 + 1) (s0 + 4) QQ (F0 m 952 ls [.int (b2i (xs ((x3 + (5 : Int32))).toNatClampNeg)), .int (b2i (xs ((x3 + (4 : Int32))).toNatClampNeg)), .int (xs ((x3 + (3 : Int32))).toNatClampNeg), .int (xs ((x3 + (2 : Int32))).toNatClampNeg), .int (xs ((x3 + (1 : Int32))).toNatClampNeg), .ref (am 0), .long r]) by
    refine lv_if_eq (tgt := 951) hx hb dL_law_944 (by decide) (fun cz => ?_) (fun cz => ?_)
    · refine lv_iconst (v := (0 : Int32)) hx hb dL_law_951 (by decide) ?_
      rw [b2i_0 cz] at kz
      exact kz
    · refine lv_iconst (v := (1 : Int32)) hx hb dL_law_947 (by decide) ?_
      refine lv_goto (tgt := 952) hx hb dL_law_948 (by decide) ?_
      rw [b2i_1 cz] at kz
      exact kz
  refine lv_aload_n hx hb dL_law_952 rfl (lv_at hl 0 rfl) ?_
  refine lv_iload_n hx hb dL_law_953 rfl (lv_at hl 3 rfl) ?_
  refine lv_bipush (v := (6 : Int32)) hx hb dL_law_954 (by decide) ?_
  refine lv_iadd hx hb dL_law_956 ?_
  refine va_sld hx hb hX hbl hbA hS hi6 dL_law_957 ?_
  suffices kz : W p l e room_1 s m #[Value.ref bs] below meth c H locs (c0 + 1) (s0 + 4) QQ (F0 m 966 ls [.int (b2i (xs ((x3 + (6 : Int32))).toNatClampNeg)), .int (b2i (xs ((x3 + (5 : Int32))).toNatClampNeg)), .int (b2i (xs ((x3 + (4 : Int32))).toNatClampNeg)), .int (xs ((x3 + (3 : Int32))).toNatClampNeg), .int (xs ((x3 + (2 : Int32))).toNatClampNeg), .int (xs ((x3 + (1 : Int32))).toNatClampNeg), .ref (am 0), .long r]) by
    refine lv_if_eq (tgt := 965) hx hb dL_law_958 (by decide) (fun cz => ?_) (fun cz => ?_)
    · refine lv_iconst (v := (0 : Int32)) hx hb dL_law_965 (by decide) ?_
      rw [b2i_0 cz] at kz
      exact kz
    · refine lv_iconst (v := (1 : Int32)) hx hb dL_law_961 (by decide) ?_
      refine lv_goto (tgt := 966) hx hb dL_law_962 (by decide) ?_
      rw [b2i_1 cz] at kz
      exact kz
  refine cmV (wr := WX5 ax bx cI cJ cZ lst2) ⟨hx, hb, hml, hown, hts⟩ (ct_X6_anew l dC dI am bm cI cJ cZ H.size mst (xs ((x3 + (1 : Int32))).toNatClampNeg) (xs ((x3 + (2 : Int32))).toNatClampNeg) (xs ((x3 + (3 : Int32))).toNatClampNeg) (b2i (xs ((x3 + (4 : Int32))).toNatClampNeg)) (b2i (xs ((x3 + (5 : Int32))).toNatClampNeg)) (b2i (xs ((x3 + (6 : Int32))).toNatClampNeg)) _ h2) (cwV 6 hts gL_law_X6_anew rfl rfl rfl (by decide +kernel) ⟨(Nat.le_of_ble_eq_true rfl), (Nat.le_of_ble_eq_true rfl)⟩) hK hP hD hS hA [28, 29, 30, 31, 32, 33, 34, 35, 36, 37, 38, 39, 40, 41, 42, 43, 44, 45, 46, 47, 48] [0, 1, 2, 3, 4, 5, 6, 7, 8, 9, 10, 11, 12, 13, 14, 15, 16, 17, 18, 19, 20, 21, 22, 23, 24, 25, 26, 27] rfl rfl (by decide) rfl (by decide) (by decide) rfl rfl rfl hl.1 rfl (Nat.le_of_ble_eq_true rfl) (show (c0 + 1) + 0 ≤ 600000 by omega) (show (s0 + 4) + 0 ≤ 7302249 by omega) dL_law_966 (fun H locs hP hD hS => ?_)
  replace hP : va_P (dC, dI) vwCl (WX5 ax bx cI cJ cZ lst2 ++ WX6 am bm cI cJ cZ mst2) H := hP
  replace hD : va_D (fun q : Nat => s.heap.size ≤ q) (WX5 ax bx cI cJ cZ lst2 ++ WX6 am bm cI cJ cZ mst2) := hD
  refine W.eq (g2 := F0 m 969 ls [.long r, .long r]) rfl ?_
  refine W.lcmp hx hb dL_law_969 ?_
  refine lv_if_eq (tgt := 1432) hx hb dL_law_970 (by decide) (fun _ => ?_) (fun hne => absurd (lg_cmp_s r) hne)
  refine W.widen (k := c0 + 6) (n := s0 + 12288) (by omega) (by omega) ?_
  exact kk bx H locs ⟨hP, hD, hS⟩
set_option maxHeartbeats 4000000 in
set_option maxRecDepth 100000 in
theorem lawc_part {p : Program} {l : Launch} {e : Env} {s : State} {m : MethodId} {below : List Frame} {meth : Method} {c : Code} {bs Ln : Nat} {xs : Nat → Int32} {dC : Nat → ClassId} {dI : Nat → Nat → Nat} {cI cJ cZ : ClassId} {QQ : State → Prop} {H : Heap} {locs : List Loc} {ls : Array Slot} {x3 : Int32} {c0 s0 : Nat} {ax bx am bm : Nat → Nat} (C0 : lw_At p s m meth c bs Ln xs) (hK : va_K (dC, dI) vwCl (tyT cI cJ cZ) s) (hi1 : vp_in (x3 + (1 : Int32)) Ln) (hi2 : vp_in (x3 + (2 : Int32)) Ln) (hi3 : vp_in (x3 + (3 : Int32)) Ln) (hi4 : vp_in (x3 + (4 : Int32)) Ln) (hi5 : vp_in (x3 + (5 : Int32)) Ln) (hi6 : vp_in (x3 + (6 : Int32)) Ln) (lst : LG) (mst : MS) (r : Int64) (lst2 : LG) (mst2 : MS) (h1 : fX5_part lst (xs ((x3 + (1 : Int32))).toNatClampNeg) (xs ((x3 + (2 : Int32))).toNatClampNeg) (xs ((x3 + (3 : Int32))).toNatClampNeg) (b2i (xs ((x3 + (4 : Int32))).toNatClampNeg)) (b2i (xs ((x3 + (5 : Int32))).toNatClampNeg)) (b2i (xs ((x3 + (6 : Int32))).toNatClampNeg)) = some (r, lst2)) (h2 : fX6_part mst (xs ((x3 + (1 : Int32))).toNatClampNeg) (xs ((x3 + (2 : Int32))).toNatClampNeg) (xs ((x3 + (3 : Int32))).toNatClampNeg) (b2i (xs ((x3 + (4 : Int32))).toNatClampNeg)) (b2i (xs ((x3 + (5 : Int32))).toNatClampNeg)) (b2i (xs ((x3 + (6 : Int32))).toNatClampNeg)) = some (r, mst2)) (hc0 : c0 + 6 ≤ 600000) (hs0 : s0 + 12288 ≤ 7302249) (hl : lv_has ls 4 [(0, .ref bs), (1, .ref (ax 0)), (2, .ref (am 0)), (3, .int x3)]) (hin : IN (dC, dI) (WX5 ax bx cI cJ cZ lst ++ WX6 am bm cI cJ cZ mst) (fun q : Nat => s.heap.size ≤ q) s.heap H locs) (kk : ∀ (bx : Nat → Nat) (H : Heap) (locs : List Loc), IN (dC, dI) (WX5 ax bx cI cJ cZ lst2 ++ WX6 am bm cI cJ cZ mst2) (fun q : Nat => s.heap.size ≤ q) s.heap H locs → W p l e room_1 s m #[Value.ref bs] below meth c H locs (c0 + 6) (s0 + 12288) QQ (F0 m 1432 ls [])) : W p l e room_1 s m #[Value.ref bs] below meth c H locs c0 s0 QQ (F0 m 975 ls []) := by
  obtain ⟨hx, hb, hr, hml, hown, hts0, hX, hbl, hlocks, hgv⟩ := id C0
  have hts : ∀ w ∈ wsL_law, w.before #[Value.ref bs] s = true := fun w h => hts0 w (wsL_law_in w h)
  have hA : ∀ q : Nat, s.heap.size ≤ q → (fun q : Nat => s.heap.size ≤ q) q := fun _ h => h
  have hbA : ¬ (fun q : Nat => s.heap.size ≤ q) bs := Nat.not_le.mpr hbl
  obtain ⟨hP, hD, hS⟩ := hin
  refine lv_aload_n hx hb dL_law_975 rfl (lv_at hl 1 rfl) ?_
  refine lv_aload_n hx hb dL_law_976 rfl (lv_at hl 0 rfl) ?_
  refine lv_iload_n hx hb dL_law_977 rfl (lv_at hl 3 rfl) ?_
  refine lv_iconst (v := (1 : Int32)) hx hb dL_law_978 (by decide) ?_
  refine lv_iadd hx hb dL_law_979 ?_
  refine va_sld hx hb hX hbl hbA hS hi1 dL_law_980 ?_
  refine lv_aload_n hx hb dL_law_981 rfl (lv_at hl 0 rfl) ?_
  refine lv_iload_n hx hb dL_law_982 rfl (lv_at hl 3 rfl) ?_
  refine lv_iconst (v := (2 : Int32)) hx hb dL_law_983 (by decide) ?_
  refine lv_iadd hx hb dL_law_984 ?_
  refine va_sld hx hb hX hbl hbA hS hi2 dL_law_985 ?_
  refine lv_aload_n hx hb dL_law_986 rfl (lv_at hl 0 rfl) ?_
  refine lv_iload_n hx hb dL_law_987 rfl (lv_at hl 3 rfl) ?_
  refine lv_iconst (v := (3 : Int32)) hx hb dL_law_988 (by decide) ?_
  refine lv_iadd hx hb dL_law_989 ?_
  refine va_sld hx hb hX hbl hbA hS hi3 dL_law_990 ?_
  refine lv_aload_n hx hb dL_law_991 rfl (lv_at hl 0 rfl) ?_
  refine lv_iload_n hx hb dL_law_992 rfl (lv_at hl 3 rfl) ?_
  refine lv_iconst (v := (4 : Int32)) hx hb dL_law_993 (by decide) ?_
  refine lv_iadd hx hb dL_law_994 ?_
  refine va_sld hx hb hX hbl hbA hS hi4 dL_law_995 ?_
  suffices kz : W p l e room_1 s m #[Value.ref bs] below meth c H locs c0 s0 QQ (F0 m 1004 ls [.int (b2i (xs ((x3 + (4 : Int32))).toNatClampNeg)), .int (xs ((x3 + (3 : Int32))).toNatClampNeg), .int (xs ((x3 + (2 : Int32))).toNatClampNeg), .int (xs ((x3 + (1 : Int32))).toNatClampNeg), .ref (ax 0)]) by
    refine lv_if_eq (tgt := 1003) hx hb dL_law_996 (by decide) (fun cz => ?_) (fun cz => ?_)
    · refine lv_iconst (v := (0 : Int32)) hx hb dL_law_1003 (by decide) ?_
      rw [b2i_0 cz] at kz
      exact kz
    · refine lv_iconst (v := (1 : Int32)) hx hb dL_law_999 (by decide) ?_
      refine lv_goto (tgt := 1004) hx hb dL_law_1000 (by decide) ?_
      rw [b2i_1 cz] at kz
      exact kz
  refine lv_aload_n hx hb dL_law_1004 rfl (lv_at hl 0 rfl) ?_
  refine lv_iload_n hx hb dL_law_1005 rfl (lv_at hl 3 rfl) ?_
  refine lv_iconst (v := (5 : Int32)) hx hb dL_law_1006 (by decide) ?_
  refine lv_iadd hx hb dL_law_1007 ?_
  refine va_sld hx hb hX hbl hbA hS hi5 dL_law_1008 ?_
  suffices kz : W p l e room_1 s m #[Value.ref bs] below meth c H locs c0 s0 QQ (F0 m 1017 ls [.int (b2i (xs ((x3 + (5 : Int32))).toNatClampNeg)), .int (b2i (xs ((x3 + (4 : Int32))).toNatClampNeg)), .int (xs ((x3 + (3 : Int32))).toNatClampNeg), .int (xs ((x3 + (2 : Int32))).toNatClampNeg), .int (xs ((x3 + (1 : Int32))).toNatClampNeg), .ref (ax 0)]) by
    refine lv_if_eq (tgt := 1016) hx hb dL_law_1009 (by decide) (fun cz => ?_) (fun cz => ?_)
    · refine lv_iconst (v := (0 : Int32)) hx hb dL_law_1016 (by decide) ?_
      rw [b2i_0 cz] at kz
      exact kz
    · refine lv_iconst (v := (1 : Int32)) hx hb dL_law_1012 (by decide) ?_
      refine lv_goto (tgt := 1017) hx hb dL_law_1013 (by decide) ?_
      rw [b2i_1 cz] at kz
      exact kz
  refine lv_aload_n hx hb dL_law_1017 rfl (lv_at hl 0 rfl) ?_
  refine lv_iload_n hx hb dL_law_1018 rfl (lv_at hl 3 rfl) ?_
  refine lv_bipush (v := (6 : Int32)) hx hb dL_law_1019 (by decide) ?_
  refine lv_iadd hx hb dL_law_1021 ?_
  refine va_sld hx hb hX hbl hbA hS hi6 dL_law_1022 ?_
  suffices kz : W p l e room_1 s m #[Value.ref bs] below meth c H locs c0 s0 QQ (F0 m 1031 ls [.int (b2i (xs ((x3 + (6 : Int32))).toNatClampNeg)), .int (b2i (xs ((x3 + (5 : Int32))).toNatClampNeg)), .int (b2i (xs ((x3 + (4 : Int32))).toNatClampNeg)), .int (xs ((x3 + (3 : Int32))).toNatClampNeg), .int (xs ((x3 + (2 : Int32))).toNatClampNeg), .int (xs ((x3 + (1 : Int32))).toNatClampNeg), .ref (ax 0)]) by
    refine lv_if_eq (tgt := 1030) hx hb dL_law_1023 (by decide) (fun cz => ?_) (fun cz => ?_)
    · refine lv_iconst (v := (0 : Int32)) hx hb dL_law_1030 (by decide) ?_
      rw [b2i_0 cz] at kz
      exact kz
    · refine lv_iconst (v := (1 : Int32)) hx hb dL_law_1026 (by decide) ?_
      refine lv_goto (tgt := 1031) hx hb dL_law_1027 (by decide) ?_
      rw [b2i_1 cz] at kz
      exact kz
  refine cmV (wr := WX6 am bm cI cJ cZ mst) ⟨hx, hb, hml, hown, hts⟩ (ct_X5_part l dC dI ax bx cI cJ cZ H.size lst (xs ((x3 + (1 : Int32))).toNatClampNeg) (xs ((x3 + (2 : Int32))).toNatClampNeg) (xs ((x3 + (3 : Int32))).toNatClampNeg) (b2i (xs ((x3 + (4 : Int32))).toNatClampNeg)) (b2i (xs ((x3 + (5 : Int32))).toNatClampNeg)) (b2i (xs ((x3 + (6 : Int32))).toNatClampNeg)) _ h1) (cwV 6 hts gL_law_X5_part rfl rfl rfl (by decide +kernel) ⟨(Nat.le_of_ble_eq_true rfl), (Nat.le_of_ble_eq_true rfl)⟩) hK hP hD hS hA [0, 1, 2, 3, 4, 5, 6, 7, 8, 9, 10, 11, 12, 13, 14, 15, 16, 17, 18, 19, 20, 21, 22, 23, 24, 25, 26, 27] [28, 29, 30, 31, 32, 33, 34, 35, 36, 37, 38, 39, 40, 41, 42, 43, 44, 45, 46, 47, 48] rfl rfl (by decide) rfl (by decide) (by decide) rfl rfl rfl hl.1 rfl (Nat.le_of_ble_eq_true rfl) (show c0 + 1 ≤ 600000 by omega) (show s0 + 4 ≤ 7302249 by omega) dL_law_1031 (fun H locs hP hD hS => ?_)
  replace hP : va_P (dC, dI) vwCl (WX5 ax bx cI cJ cZ lst2 ++ WX6 am bm cI cJ cZ mst) H := hP.sub [21, 22, 23, 24, 25, 26, 27, 28, 29, 30, 31, 32, 33, 34, 35, 36, 37, 38, 39, 40, 41, 42, 43, 44, 45, 46, 47, 48, 0, 1, 2, 3, 4, 5, 6, 7, 8, 9, 10, 11, 12, 13, 14, 15, 16, 17, 18, 19, 20] rfl
  replace hD : va_D (fun q : Nat => s.heap.size ≤ q) (WX5 ax bx cI cJ cZ lst2 ++ WX6 am bm cI cJ cZ mst) := hD.sub [21, 22, 23, 24, 25, 26, 27, 28, 29, 30, 31, 32, 33, 34, 35, 36, 37, 38, 39, 40, 41, 42, 43, 44, 45, 46, 47, 48, 0, 1, 2, 3, 4, 5, 6, 7, 8, 9, 10, 11, 12, 13, 14, 15, 16, 17, 18, 19, 20] (by decide) rfl
  refine W.eq (g2 := F0 m 1034 ls [.long r]) rfl ?_
  refine lv_aload_n hx hb dL_law_1034 rfl (lv_at hl 2 rfl) ?_
  refine lv_aload_n hx hb dL_law_1035 rfl (lv_at hl 0 rfl) ?_
  refine lv_iload_n hx hb dL_law_1036 rfl (lv_at hl 3 rfl) ?_
  refine lv_iconst (v := (1 : Int32)) hx hb dL_law_1037 (by decide) ?_
  refine lv_iadd hx hb dL_law_1038 ?_
  refine va_sld hx hb hX hbl hbA hS hi1 dL_law_1039 ?_
  refine lv_aload_n hx hb dL_law_1040 rfl (lv_at hl 0 rfl) ?_
  refine lv_iload_n hx hb dL_law_1041 rfl (lv_at hl 3 rfl) ?_
  refine lv_iconst (v := (2 : Int32)) hx hb dL_law_1042 (by decide) ?_
  refine lv_iadd hx hb dL_law_1043 ?_
  refine va_sld hx hb hX hbl hbA hS hi2 dL_law_1044 ?_
  refine lv_aload_n hx hb dL_law_1045 rfl (lv_at hl 0 rfl) ?_
  refine lv_iload_n hx hb dL_law_1046 rfl (lv_at hl 3 rfl) ?_
  refine lv_iconst (v := (3 : Int32)) hx hb dL_law_1047 (by decide) ?_
  refine lv_iadd hx hb dL_law_1048 ?_
  refine va_sld hx hb hX hbl hbA hS hi3 dL_law_1049 ?_
  refine lv_aload_n hx hb dL_law_1050 rfl (lv_at hl 0 rfl) ?_
  refine lv_iload_n hx hb dL_law_1051 rfl (lv_at hl 3 rfl) ?_
  refine lv_iconst (v := (4 : Int32)) hx hb dL_law_1052 (by decide) ?_
  refine lv_iadd hx hb dL_law_1053 ?_
  refine va_sld hx hb hX hbl hbA hS hi4 dL_law_1054 ?_
  suffices kz : W p l e room_1 s m #[Value.ref bs] below meth c H locs (c0 + 1) (s0 + 4) QQ (F0 m 1063 ls [.int (b2i (xs ((x3 + (4 : Int32))).toNatClampNeg)), .int (xs ((x3 + (3 : Int32))).toNatClampNeg), .int (xs ((x3 + (2 : Int32))).toNatClampNeg), .int (xs ((x3 + (1 : Int32))).toNatClampNeg), .ref (am 0), .long r]) by
    refine lv_if_eq (tgt := 1062) hx hb dL_law_1055 (by decide) (fun cz => ?_) (fun cz => ?_)
    · refine lv_iconst (v := (0 : Int32)) hx hb dL_law_1062 (by decide) ?_
      rw [b2i_0 cz] at kz
      exact kz
    · refine lv_iconst (v := (1 : Int32)) hx hb dL_law_1058 (by decide) ?_
      refine lv_goto (tgt := 1063) hx hb dL_law_1059 (by decide) ?_
      rw [b2i_1 cz] at kz
      exact kz
  refine lv_aload_n hx hb dL_law_1063 rfl (lv_at hl 0 rfl) ?_
  refine lv_iload_n hx hb dL_law_1064 rfl (lv_at hl 3 rfl) ?_
  refine lv_iconst (v := (5 : Int32)) hx hb dL_law_1065 (by decide) ?_
  refine lv_iadd hx hb dL_law_1066 ?_
  refine va_sld hx hb hX hbl hbA hS hi5 dL_law_1067 ?_
  suffices kz : W p l e room_1 s m #[Value.ref bs] below meth c H locs (c0 + 1) (s0 + 4) QQ (F0 m 1076 ls [.int (b2i (xs ((x3 + (5 : Int32))).toNatClampNeg)), .int (b2i (xs ((x3 + (4 : Int32))).toNatClampNeg)), .int (xs ((x3 + (3 : Int32))).toNatClampNeg), .int (xs ((x3 + (2 : Int32))).toNatClampNeg), .int (xs ((x3 + (1 : Int32))).toNatClampNeg), .ref (am 0), .long r]) by
    refine lv_if_eq (tgt := 1075) hx hb dL_law_1068 (by decide) (fun cz => ?_) (fun cz => ?_)
    · refine lv_iconst (v := (0 : Int32)) hx hb dL_law_1075 (by decide) ?_
      rw [b2i_0 cz] at kz
      exact kz
    · refine lv_iconst (v := (1 : Int32)) hx hb dL_law_1071 (by decide) ?_
      refine lv_goto (tgt := 1076) hx hb dL_law_1072 (by decide) ?_
      rw [b2i_1 cz] at kz
      exact kz
  refine lv_aload_n hx hb dL_law_1076 rfl (lv_at hl 0 rfl) ?_
  refine lv_iload_n hx hb dL_law_1077 rfl (lv_at hl 3 rfl) ?_
  refine lv_bipush (v := (6 : Int32)) hx hb dL_law_1078 (by decide) ?_
  refine lv_iadd hx hb dL_law_1080 ?_
  refine va_sld hx hb hX hbl hbA hS hi6 dL_law_1081 ?_
  suffices kz : W p l e room_1 s m #[Value.ref bs] below meth c H locs (c0 + 1) (s0 + 4) QQ (F0 m 1090 ls [.int (b2i (xs ((x3 + (6 : Int32))).toNatClampNeg)), .int (b2i (xs ((x3 + (5 : Int32))).toNatClampNeg)), .int (b2i (xs ((x3 + (4 : Int32))).toNatClampNeg)), .int (xs ((x3 + (3 : Int32))).toNatClampNeg), .int (xs ((x3 + (2 : Int32))).toNatClampNeg), .int (xs ((x3 + (1 : Int32))).toNatClampNeg), .ref (am 0), .long r]) by
    refine lv_if_eq (tgt := 1089) hx hb dL_law_1082 (by decide) (fun cz => ?_) (fun cz => ?_)
    · refine lv_iconst (v := (0 : Int32)) hx hb dL_law_1089 (by decide) ?_
      rw [b2i_0 cz] at kz
      exact kz
    · refine lv_iconst (v := (1 : Int32)) hx hb dL_law_1085 (by decide) ?_
      refine lv_goto (tgt := 1090) hx hb dL_law_1086 (by decide) ?_
      rw [b2i_1 cz] at kz
      exact kz
  refine cmV (wr := WX5 ax bx cI cJ cZ lst2) ⟨hx, hb, hml, hown, hts⟩ (ct_X6_part l dC dI am bm cI cJ cZ H.size mst (xs ((x3 + (1 : Int32))).toNatClampNeg) (xs ((x3 + (2 : Int32))).toNatClampNeg) (xs ((x3 + (3 : Int32))).toNatClampNeg) (b2i (xs ((x3 + (4 : Int32))).toNatClampNeg)) (b2i (xs ((x3 + (5 : Int32))).toNatClampNeg)) (b2i (xs ((x3 + (6 : Int32))).toNatClampNeg)) _ h2) (cwV 6 hts gL_law_X6_part rfl rfl rfl (by decide +kernel) ⟨(Nat.le_of_ble_eq_true rfl), (Nat.le_of_ble_eq_true rfl)⟩) hK hP hD hS hA [28, 29, 30, 31, 32, 33, 34, 35, 36, 37, 38, 39, 40, 41, 42, 43, 44, 45, 46, 47, 48] [0, 1, 2, 3, 4, 5, 6, 7, 8, 9, 10, 11, 12, 13, 14, 15, 16, 17, 18, 19, 20, 21, 22, 23, 24, 25, 26, 27] rfl rfl (by decide) rfl (by decide) (by decide) rfl rfl rfl hl.1 rfl (Nat.le_of_ble_eq_true rfl) (show (c0 + 1) + 0 ≤ 600000 by omega) (show (s0 + 4) + 0 ≤ 7302249 by omega) dL_law_1090 (fun H locs hP hD hS => ?_)
  replace hP : va_P (dC, dI) vwCl (WX5 ax bx cI cJ cZ lst2 ++ WX6 am bm cI cJ cZ mst2) H := hP
  replace hD : va_D (fun q : Nat => s.heap.size ≤ q) (WX5 ax bx cI cJ cZ lst2 ++ WX6 am bm cI cJ cZ mst2) := hD
  refine W.eq (g2 := F0 m 1093 ls [.long r, .long r]) rfl ?_
  refine W.lcmp hx hb dL_law_1093 ?_
  refine lv_if_eq (tgt := 1432) hx hb dL_law_1094 (by decide) (fun _ => ?_) (fun hne => absurd (lg_cmp_s r) hne)
  refine W.widen (k := c0 + 6) (n := s0 + 12288) (by omega) (by omega) ?_
  exact kk bx H locs ⟨hP, hD, hS⟩
set_option maxHeartbeats 4000000 in
set_option maxRecDepth 100000 in
theorem lawc_doubles {p : Program} {l : Launch} {e : Env} {s : State} {m : MethodId} {below : List Frame} {meth : Method} {c : Code} {bs Ln : Nat} {xs : Nat → Int32} {dC : Nat → ClassId} {dI : Nat → Nat → Nat} {cI cJ cZ : ClassId} {QQ : State → Prop} {H : Heap} {locs : List Loc} {ls : Array Slot} {x3 : Int32} {c0 s0 : Nat} {ax bx am bm : Nat → Nat} (C0 : lw_At p s m meth c bs Ln xs) (hK : va_K (dC, dI) vwCl (tyT cI cJ cZ) s) (hi1 : vp_in (x3 + (1 : Int32)) Ln) (hi2 : vp_in (x3 + (2 : Int32)) Ln) (hi3 : vp_in (x3 + (3 : Int32)) Ln) (hi4 : vp_in (x3 + (4 : Int32)) Ln) (hi5 : vp_in (x3 + (5 : Int32)) Ln) (hi6 : vp_in (x3 + (6 : Int32)) Ln) (lst : LG) (mst : MS) (r : Int32) (lst2 : LG) (mst2 : MS) (h1 : fX5_doubles lst (xs ((x3 + (1 : Int32))).toNatClampNeg) = some (r, lst2)) (h2 : fX6_doubles mst (xs ((x3 + (1 : Int32))).toNatClampNeg) = some (r, mst2)) (hc0 : c0 + 6 ≤ 600000) (hs0 : s0 + 12288 ≤ 7302249) (hl : lv_has ls 4 [(0, .ref bs), (1, .ref (ax 0)), (2, .ref (am 0)), (3, .int x3)]) (hin : IN (dC, dI) (WX5 ax bx cI cJ cZ lst ++ WX6 am bm cI cJ cZ mst) (fun q : Nat => s.heap.size ≤ q) s.heap H locs) (kk : ∀ (bx : Nat → Nat) (H : Heap) (locs : List Loc), IN (dC, dI) (WX5 ax bx cI cJ cZ lst2 ++ WX6 am bm cI cJ cZ mst2) (fun q : Nat => s.heap.size ≤ q) s.heap H locs → W p l e room_1 s m #[Value.ref bs] below meth c H locs (c0 + 6) (s0 + 12288) QQ (F0 m 1432 ls [])) : W p l e room_1 s m #[Value.ref bs] below meth c H locs c0 s0 QQ (F0 m 1099 ls []) := by
  obtain ⟨hx, hb, hr, hml, hown, hts0, hX, hbl, hlocks, hgv⟩ := id C0
  have hts : ∀ w ∈ wsL_law, w.before #[Value.ref bs] s = true := fun w h => hts0 w (wsL_law_in w h)
  have hA : ∀ q : Nat, s.heap.size ≤ q → (fun q : Nat => s.heap.size ≤ q) q := fun _ h => h
  have hbA : ¬ (fun q : Nat => s.heap.size ≤ q) bs := Nat.not_le.mpr hbl
  obtain ⟨hP, hD, hS⟩ := hin
  refine lv_aload_n hx hb dL_law_1099 rfl (lv_at hl 1 rfl) ?_
  refine lv_aload_n hx hb dL_law_1100 rfl (lv_at hl 0 rfl) ?_
  refine lv_iload_n hx hb dL_law_1101 rfl (lv_at hl 3 rfl) ?_
  refine lv_iconst (v := (1 : Int32)) hx hb dL_law_1102 (by decide) ?_
  refine lv_iadd hx hb dL_law_1103 ?_
  refine va_sld hx hb hX hbl hbA hS hi1 dL_law_1104 ?_
  refine cmV (wr := WX6 am bm cI cJ cZ mst) ⟨hx, hb, hml, hown, hts⟩ (ct_X5_doubles l dC dI ax bx cI cJ cZ H.size lst (xs ((x3 + (1 : Int32))).toNatClampNeg) _ h1) (cwV 1 hts gL_law_X5_doubles rfl rfl rfl (by decide +kernel) ⟨(Nat.le_of_ble_eq_true rfl), (Nat.le_of_ble_eq_true rfl)⟩) hK hP hD hS hA [0, 1, 2, 3, 4, 5, 6, 7, 8, 9, 10, 11, 12, 13, 14, 15, 16, 17, 18, 19, 20, 21, 22, 23, 24, 25, 26, 27] [28, 29, 30, 31, 32, 33, 34, 35, 36, 37, 38, 39, 40, 41, 42, 43, 44, 45, 46, 47, 48] rfl rfl (by decide) rfl (by decide) (by decide) rfl rfl rfl hl.1 rfl (Nat.le_of_ble_eq_true rfl) (show c0 + 0 ≤ 600000 by omega) (show s0 + 0 ≤ 7302249 by omega) dL_law_1105 (fun H locs hP hD hS => ?_)
  replace hP : va_P (dC, dI) vwCl (WX5 ax bx cI cJ cZ lst2 ++ WX6 am bm cI cJ cZ mst) H := hP.sub [21, 22, 23, 24, 25, 26, 27, 28, 29, 30, 31, 32, 33, 34, 35, 36, 37, 38, 39, 40, 41, 42, 43, 44, 45, 46, 47, 48, 0, 1, 2, 3, 4, 5, 6, 7, 8, 9, 10, 11, 12, 13, 14, 15, 16, 17, 18, 19, 20] rfl
  replace hD : va_D (fun q : Nat => s.heap.size ≤ q) (WX5 ax bx cI cJ cZ lst2 ++ WX6 am bm cI cJ cZ mst) := hD.sub [21, 22, 23, 24, 25, 26, 27, 28, 29, 30, 31, 32, 33, 34, 35, 36, 37, 38, 39, 40, 41, 42, 43, 44, 45, 46, 47, 48, 0, 1, 2, 3, 4, 5, 6, 7, 8, 9, 10, 11, 12, 13, 14, 15, 16, 17, 18, 19, 20] (by decide) rfl
  refine W.eq (g2 := F0 m 1108 ls [.int r]) rfl ?_
  refine lv_aload_n hx hb dL_law_1108 rfl (lv_at hl 2 rfl) ?_
  refine lv_aload_n hx hb dL_law_1109 rfl (lv_at hl 0 rfl) ?_
  refine lv_iload_n hx hb dL_law_1110 rfl (lv_at hl 3 rfl) ?_
  refine lv_iconst (v := (1 : Int32)) hx hb dL_law_1111 (by decide) ?_
  refine lv_iadd hx hb dL_law_1112 ?_
  refine va_sld hx hb hX hbl hbA hS hi1 dL_law_1113 ?_
  refine cmV (wr := WX5 ax bx cI cJ cZ lst2) ⟨hx, hb, hml, hown, hts⟩ (ct_X6_doubles l dC dI am bm cI cJ cZ H.size mst (xs ((x3 + (1 : Int32))).toNatClampNeg) _ h2) (cwV 1 hts gL_law_X6_doubles rfl rfl rfl (by decide +kernel) ⟨(Nat.le_of_ble_eq_true rfl), (Nat.le_of_ble_eq_true rfl)⟩) hK hP hD hS hA [28, 29, 30, 31, 32, 33, 34, 35, 36, 37, 38, 39, 40, 41, 42, 43, 44, 45, 46, 47, 48] [0, 1, 2, 3, 4, 5, 6, 7, 8, 9, 10, 11, 12, 13, 14, 15, 16, 17, 18, 19, 20, 21, 22, 23, 24, 25, 26, 27] rfl rfl (by decide) rfl (by decide) (by decide) rfl rfl rfl hl.1 rfl (Nat.le_of_ble_eq_true rfl) (show (c0 + 0) + 0 ≤ 600000 by omega) (show (s0 + 0) + 0 ≤ 7302249 by omega) dL_law_1114 (fun H locs hP hD hS => ?_)
  replace hP : va_P (dC, dI) vwCl (WX5 ax bx cI cJ cZ lst2 ++ WX6 am bm cI cJ cZ mst2) H := hP
  replace hD : va_D (fun q : Nat => s.heap.size ≤ q) (WX5 ax bx cI cJ cZ lst2 ++ WX6 am bm cI cJ cZ mst2) := hD
  refine W.eq (g2 := F0 m 1117 ls [.int r, .int r]) rfl ?_
  refine lv_icmp_eq (tgt := 1432) hx hb dL_law_1117 (by decide) (fun _ => ?_) (fun hne => absurd rfl hne)
  refine W.widen (k := c0 + 6) (n := s0 + 12288) (by omega) (by omega) ?_
  exact kk bx H locs ⟨hP, hD, hS⟩
set_option maxHeartbeats 4000000 in
set_option maxRecDepth 100000 in
theorem lawc_onPath {p : Program} {l : Launch} {e : Env} {s : State} {m : MethodId} {below : List Frame} {meth : Method} {c : Code} {bs Ln : Nat} {xs : Nat → Int32} {dC : Nat → ClassId} {dI : Nat → Nat → Nat} {cI cJ cZ : ClassId} {QQ : State → Prop} {H : Heap} {locs : List Loc} {ls : Array Slot} {x3 : Int32} {c0 s0 : Nat} {ax bx am bm : Nat → Nat} (C0 : lw_At p s m meth c bs Ln xs) (hK : va_K (dC, dI) vwCl (tyT cI cJ cZ) s) (hi1 : vp_in (x3 + (1 : Int32)) Ln) (hi2 : vp_in (x3 + (2 : Int32)) Ln) (hi3 : vp_in (x3 + (3 : Int32)) Ln) (hi4 : vp_in (x3 + (4 : Int32)) Ln) (hi5 : vp_in (x3 + (5 : Int32)) Ln) (hi6 : vp_in (x3 + (6 : Int32)) Ln) (lst : LG) (mst : MS) (r : Int32) (lst2 : LG) (mst2 : MS) (h1 : fX5_onPath lst (xs ((x3 + (1 : Int32))).toNatClampNeg) (xs ((x3 + (2 : Int32))).toNatClampNeg) (xs ((x3 + (3 : Int32))).toNatClampNeg) (xs ((x3 + (4 : Int32))).toNatClampNeg) = some (r, lst2)) (h2 : fX6_onPath mst (xs ((x3 + (1 : Int32))).toNatClampNeg) (xs ((x3 + (2 : Int32))).toNatClampNeg) (xs ((x3 + (3 : Int32))).toNatClampNeg) (xs ((x3 + (4 : Int32))).toNatClampNeg) = some (r, mst2)) (hc0 : c0 + 6 ≤ 600000) (hs0 : s0 + 12288 ≤ 7302249) (hl : lv_has ls 4 [(0, .ref bs), (1, .ref (ax 0)), (2, .ref (am 0)), (3, .int x3)]) (hin : IN (dC, dI) (WX5 ax bx cI cJ cZ lst ++ WX6 am bm cI cJ cZ mst) (fun q : Nat => s.heap.size ≤ q) s.heap H locs) (kk : ∀ (bx : Nat → Nat) (H : Heap) (locs : List Loc), IN (dC, dI) (WX5 ax bx cI cJ cZ lst2 ++ WX6 am bm cI cJ cZ mst2) (fun q : Nat => s.heap.size ≤ q) s.heap H locs → W p l e room_1 s m #[Value.ref bs] below meth c H locs (c0 + 6) (s0 + 12288) QQ (F0 m 1432 ls [])) : W p l e room_1 s m #[Value.ref bs] below meth c H locs c0 s0 QQ (F0 m 1122 ls []) := by
  obtain ⟨hx, hb, hr, hml, hown, hts0, hX, hbl, hlocks, hgv⟩ := id C0
  have hts : ∀ w ∈ wsL_law, w.before #[Value.ref bs] s = true := fun w h => hts0 w (wsL_law_in w h)
  have hA : ∀ q : Nat, s.heap.size ≤ q → (fun q : Nat => s.heap.size ≤ q) q := fun _ h => h
  have hbA : ¬ (fun q : Nat => s.heap.size ≤ q) bs := Nat.not_le.mpr hbl
  obtain ⟨hP, hD, hS⟩ := hin
  refine lv_aload_n hx hb dL_law_1122 rfl (lv_at hl 1 rfl) ?_
  refine lv_aload_n hx hb dL_law_1123 rfl (lv_at hl 0 rfl) ?_
  refine lv_iload_n hx hb dL_law_1124 rfl (lv_at hl 3 rfl) ?_
  refine lv_iconst (v := (1 : Int32)) hx hb dL_law_1125 (by decide) ?_
  refine lv_iadd hx hb dL_law_1126 ?_
  refine va_sld hx hb hX hbl hbA hS hi1 dL_law_1127 ?_
  refine lv_aload_n hx hb dL_law_1128 rfl (lv_at hl 0 rfl) ?_
  refine lv_iload_n hx hb dL_law_1129 rfl (lv_at hl 3 rfl) ?_
  refine lv_iconst (v := (2 : Int32)) hx hb dL_law_1130 (by decide) ?_
  refine lv_iadd hx hb dL_law_1131 ?_
  refine va_sld hx hb hX hbl hbA hS hi2 dL_law_1132 ?_
  refine lv_aload_n hx hb dL_law_1133 rfl (lv_at hl 0 rfl) ?_
  refine lv_iload_n hx hb dL_law_1134 rfl (lv_at hl 3 rfl) ?_
  refine lv_iconst (v := (3 : Int32)) hx hb dL_law_1135 (by decide) ?_
  refine lv_iadd hx hb dL_law_1136 ?_
  refine va_sld hx hb hX hbl hbA hS hi3 dL_law_1137 ?_
  refine lv_aload_n hx hb dL_law_1138 rfl (lv_at hl 0 rfl) ?_
  refine lv_iload_n hx hb dL_law_1139 rfl (lv_at hl 3 rfl) ?_
  refine lv_iconst (v := (4 : Int32)) hx hb dL_law_1140 (by decide) ?_
  refine lv_iadd hx hb dL_law_1141 ?_
  refine va_sld hx hb hX hbl hbA hS hi4 dL_law_1142 ?_
  refine cmV (wr := WX6 am bm cI cJ cZ mst) ⟨hx, hb, hml, hown, hts⟩ (ct_X5_onPath l dC dI ax bx cI cJ cZ H.size lst (xs ((x3 + (1 : Int32))).toNatClampNeg) (xs ((x3 + (2 : Int32))).toNatClampNeg) (xs ((x3 + (3 : Int32))).toNatClampNeg) (xs ((x3 + (4 : Int32))).toNatClampNeg) _ h1) (cwV 4 hts gL_law_X5_onPath rfl rfl rfl (by decide +kernel) ⟨(Nat.le_of_ble_eq_true rfl), (Nat.le_of_ble_eq_true rfl)⟩) hK hP hD hS hA [0, 1, 2, 3, 4, 5, 6, 7, 8, 9, 10, 11, 12, 13, 14, 15, 16, 17, 18, 19, 20, 21, 22, 23, 24, 25, 26, 27] [28, 29, 30, 31, 32, 33, 34, 35, 36, 37, 38, 39, 40, 41, 42, 43, 44, 45, 46, 47, 48] rfl rfl (by decide) rfl (by decide) (by decide) rfl rfl rfl hl.1 rfl (Nat.le_of_ble_eq_true rfl) (show c0 + 2 ≤ 600000 by omega) (show s0 + 8 ≤ 7302249 by omega) dL_law_1143 (fun H locs hP hD hS => ?_)
  replace hP : va_P (dC, dI) vwCl (WX5 ax bx cI cJ cZ lst2 ++ WX6 am bm cI cJ cZ mst) H := hP.sub [21, 22, 23, 24, 25, 26, 27, 28, 29, 30, 31, 32, 33, 34, 35, 36, 37, 38, 39, 40, 41, 42, 43, 44, 45, 46, 47, 48, 0, 1, 2, 3, 4, 5, 6, 7, 8, 9, 10, 11, 12, 13, 14, 15, 16, 17, 18, 19, 20] rfl
  replace hD : va_D (fun q : Nat => s.heap.size ≤ q) (WX5 ax bx cI cJ cZ lst2 ++ WX6 am bm cI cJ cZ mst) := hD.sub [21, 22, 23, 24, 25, 26, 27, 28, 29, 30, 31, 32, 33, 34, 35, 36, 37, 38, 39, 40, 41, 42, 43, 44, 45, 46, 47, 48, 0, 1, 2, 3, 4, 5, 6, 7, 8, 9, 10, 11, 12, 13, 14, 15, 16, 17, 18, 19, 20] (by decide) rfl
  refine W.eq (g2 := F0 m 1146 ls [.int r]) rfl ?_
  refine lv_aload_n hx hb dL_law_1146 rfl (lv_at hl 2 rfl) ?_
  refine lv_aload_n hx hb dL_law_1147 rfl (lv_at hl 0 rfl) ?_
  refine lv_iload_n hx hb dL_law_1148 rfl (lv_at hl 3 rfl) ?_
  refine lv_iconst (v := (1 : Int32)) hx hb dL_law_1149 (by decide) ?_
  refine lv_iadd hx hb dL_law_1150 ?_
  refine va_sld hx hb hX hbl hbA hS hi1 dL_law_1151 ?_
  refine lv_aload_n hx hb dL_law_1152 rfl (lv_at hl 0 rfl) ?_
  refine lv_iload_n hx hb dL_law_1153 rfl (lv_at hl 3 rfl) ?_
  refine lv_iconst (v := (2 : Int32)) hx hb dL_law_1154 (by decide) ?_
  refine lv_iadd hx hb dL_law_1155 ?_
  refine va_sld hx hb hX hbl hbA hS hi2 dL_law_1156 ?_
  refine lv_aload_n hx hb dL_law_1157 rfl (lv_at hl 0 rfl) ?_
  refine lv_iload_n hx hb dL_law_1158 rfl (lv_at hl 3 rfl) ?_
  refine lv_iconst (v := (3 : Int32)) hx hb dL_law_1159 (by decide) ?_
  refine lv_iadd hx hb dL_law_1160 ?_
  refine va_sld hx hb hX hbl hbA hS hi3 dL_law_1161 ?_
  refine lv_aload_n hx hb dL_law_1162 rfl (lv_at hl 0 rfl) ?_
  refine lv_iload_n hx hb dL_law_1163 rfl (lv_at hl 3 rfl) ?_
  refine lv_iconst (v := (4 : Int32)) hx hb dL_law_1164 (by decide) ?_
  refine lv_iadd hx hb dL_law_1165 ?_
  refine va_sld hx hb hX hbl hbA hS hi4 dL_law_1166 ?_
  refine cmV (wr := WX5 ax bx cI cJ cZ lst2) ⟨hx, hb, hml, hown, hts⟩ (ct_X6_onPath l dC dI am bm cI cJ cZ H.size mst (xs ((x3 + (1 : Int32))).toNatClampNeg) (xs ((x3 + (2 : Int32))).toNatClampNeg) (xs ((x3 + (3 : Int32))).toNatClampNeg) (xs ((x3 + (4 : Int32))).toNatClampNeg) _ h2) (cwV 4 hts gL_law_X6_onPath rfl rfl rfl (by decide +kernel) ⟨(Nat.le_of_ble_eq_true rfl), (Nat.le_of_ble_eq_true rfl)⟩) hK hP hD hS hA [28, 29, 30, 31, 32, 33, 34, 35, 36, 37, 38, 39, 40, 41, 42, 43, 44, 45, 46, 47, 48] [0, 1, 2, 3, 4, 5, 6, 7, 8, 9, 10, 11, 12, 13, 14, 15, 16, 17, 18, 19, 20, 21, 22, 23, 24, 25, 26, 27] rfl rfl (by decide) rfl (by decide) (by decide) rfl rfl rfl hl.1 rfl (Nat.le_of_ble_eq_true rfl) (show (c0 + 2) + 0 ≤ 600000 by omega) (show (s0 + 8) + 0 ≤ 7302249 by omega) dL_law_1167 (fun H locs hP hD hS => ?_)
  replace hP : va_P (dC, dI) vwCl (WX5 ax bx cI cJ cZ lst2 ++ WX6 am bm cI cJ cZ mst2) H := hP
  replace hD : va_D (fun q : Nat => s.heap.size ≤ q) (WX5 ax bx cI cJ cZ lst2 ++ WX6 am bm cI cJ cZ mst2) := hD
  refine W.eq (g2 := F0 m 1170 ls [.int r, .int r]) rfl ?_
  refine lv_icmp_eq (tgt := 1432) hx hb dL_law_1170 (by decide) (fun _ => ?_) (fun hne => absurd rfl hne)
  refine W.widen (k := c0 + 6) (n := s0 + 12288) (by omega) (by omega) ?_
  exact kk bx H locs ⟨hP, hD, hS⟩
set_option maxHeartbeats 4000000 in
set_option maxRecDepth 100000 in
theorem lawc_issue {p : Program} {l : Launch} {e : Env} {s : State} {m : MethodId} {below : List Frame} {meth : Method} {c : Code} {bs Ln : Nat} {xs : Nat → Int32} {dC : Nat → ClassId} {dI : Nat → Nat → Nat} {cI cJ cZ : ClassId} {QQ : State → Prop} {H : Heap} {locs : List Loc} {ls : Array Slot} {x3 : Int32} {c0 s0 : Nat} {ax bx am bm : Nat → Nat} (C0 : lw_At p s m meth c bs Ln xs) (hK : va_K (dC, dI) vwCl (tyT cI cJ cZ) s) (hi1 : vp_in (x3 + (1 : Int32)) Ln) (hi2 : vp_in (x3 + (2 : Int32)) Ln) (hi3 : vp_in (x3 + (3 : Int32)) Ln) (hi4 : vp_in (x3 + (4 : Int32)) Ln) (hi5 : vp_in (x3 + (5 : Int32)) Ln) (hi6 : vp_in (x3 + (6 : Int32)) Ln) (lst : LG) (mst : MS) (r : Int32) (lst2 : LG) (mst2 : MS) (h1 : fX5_issue lst (xs ((x3 + (1 : Int32))).toNatClampNeg) (xs ((x3 + (2 : Int32))).toNatClampNeg) = some (r, lst2)) (h2 : fX6_issue mst (xs ((x3 + (1 : Int32))).toNatClampNeg) (xs ((x3 + (2 : Int32))).toNatClampNeg) = some (r, mst2)) (hc0 : c0 + 6 ≤ 600000) (hs0 : s0 + 12288 ≤ 7302249) (hl : lv_has ls 4 [(0, .ref bs), (1, .ref (ax 0)), (2, .ref (am 0)), (3, .int x3)]) (hin : IN (dC, dI) (WX5 ax bx cI cJ cZ lst ++ WX6 am bm cI cJ cZ mst) (fun q : Nat => s.heap.size ≤ q) s.heap H locs) (kk : ∀ (bx : Nat → Nat) (H : Heap) (locs : List Loc), IN (dC, dI) (WX5 ax bx cI cJ cZ lst2 ++ WX6 am bm cI cJ cZ mst2) (fun q : Nat => s.heap.size ≤ q) s.heap H locs → W p l e room_1 s m #[Value.ref bs] below meth c H locs (c0 + 6) (s0 + 12288) QQ (F0 m 1432 ls [])) : W p l e room_1 s m #[Value.ref bs] below meth c H locs c0 s0 QQ (F0 m 1175 ls []) := by
  obtain ⟨hx, hb, hr, hml, hown, hts0, hX, hbl, hlocks, hgv⟩ := id C0
  have hts : ∀ w ∈ wsL_law, w.before #[Value.ref bs] s = true := fun w h => hts0 w (wsL_law_in w h)
  have hA : ∀ q : Nat, s.heap.size ≤ q → (fun q : Nat => s.heap.size ≤ q) q := fun _ h => h
  have hbA : ¬ (fun q : Nat => s.heap.size ≤ q) bs := Nat.not_le.mpr hbl
  obtain ⟨hP, hD, hS⟩ := hin
  refine lv_aload_n hx hb dL_law_1175 rfl (lv_at hl 1 rfl) ?_
  refine lv_aload_n hx hb dL_law_1176 rfl (lv_at hl 0 rfl) ?_
  refine lv_iload_n hx hb dL_law_1177 rfl (lv_at hl 3 rfl) ?_
  refine lv_iconst (v := (1 : Int32)) hx hb dL_law_1178 (by decide) ?_
  refine lv_iadd hx hb dL_law_1179 ?_
  refine va_sld hx hb hX hbl hbA hS hi1 dL_law_1180 ?_
  refine lv_aload_n hx hb dL_law_1181 rfl (lv_at hl 0 rfl) ?_
  refine lv_iload_n hx hb dL_law_1182 rfl (lv_at hl 3 rfl) ?_
  refine lv_iconst (v := (2 : Int32)) hx hb dL_law_1183 (by decide) ?_
  refine lv_iadd hx hb dL_law_1184 ?_
  refine va_sld hx hb hX hbl hbA hS hi2 dL_law_1185 ?_
  refine cmE (wr := WX6 am bm cI cJ cZ mst) ⟨hx, hb, hml, hown, hts⟩ (ct_X5_issue l dC dI ax bx cI cJ cZ H.size lst (xs ((x3 + (1 : Int32))).toNatClampNeg) (xs ((x3 + (2 : Int32))).toNatClampNeg) _ h1) (cwV 2 hts gL_law_X5_issue rfl rfl rfl (by decide +kernel) ⟨(Nat.le_of_ble_eq_true rfl), (Nat.le_of_ble_eq_true rfl)⟩) hK hP hD hS hA [0, 1, 2, 3, 4, 5, 6, 7, 8, 9, 10, 11, 12, 13, 14, 15, 16, 17, 18, 19, 20, 21, 22, 23, 24, 25, 26, 27] [28, 29, 30, 31, 32, 33, 34, 35, 36, 37, 38, 39, 40, 41, 42, 43, 44, 45, 46, 47, 48] rfl rfl (by decide) rfl (by decide) (by decide) rfl rfl rfl hl.1 rfl (Nat.le_of_ble_eq_true rfl) (show c0 + 3 ≤ 600000 by omega) (show s0 + 6144 ≤ 7302249 by omega) dL_law_1186 (fun bx H locs hP hD hS => ?_)
  replace hP : va_P (dC, dI) vwCl (WX5 ax bx cI cJ cZ lst2 ++ WX6 am bm cI cJ cZ mst) H := hP.sub [21, 22, 23, 24, 25, 26, 27, 28, 29, 30, 31, 32, 33, 34, 35, 36, 37, 38, 39, 40, 41, 42, 43, 44, 45, 46, 47, 48, 0, 1, 2, 3, 4, 5, 6, 7, 8, 9, 10, 11, 12, 13, 14, 15, 16, 17, 18, 19, 20] rfl
  replace hD : va_D (fun q : Nat => s.heap.size ≤ q) (WX5 ax bx cI cJ cZ lst2 ++ WX6 am bm cI cJ cZ mst) := hD.sub [21, 22, 23, 24, 25, 26, 27, 28, 29, 30, 31, 32, 33, 34, 35, 36, 37, 38, 39, 40, 41, 42, 43, 44, 45, 46, 47, 48, 0, 1, 2, 3, 4, 5, 6, 7, 8, 9, 10, 11, 12, 13, 14, 15, 16, 17, 18, 19, 20] (by decide) rfl
  refine W.eq (g2 := F0 m 1189 ls [.int r]) rfl ?_
  refine lv_aload_n hx hb dL_law_1189 rfl (lv_at hl 2 rfl) ?_
  refine lv_aload_n hx hb dL_law_1190 rfl (lv_at hl 0 rfl) ?_
  refine lv_iload_n hx hb dL_law_1191 rfl (lv_at hl 3 rfl) ?_
  refine lv_iconst (v := (1 : Int32)) hx hb dL_law_1192 (by decide) ?_
  refine lv_iadd hx hb dL_law_1193 ?_
  refine va_sld hx hb hX hbl hbA hS hi1 dL_law_1194 ?_
  refine lv_aload_n hx hb dL_law_1195 rfl (lv_at hl 0 rfl) ?_
  refine lv_iload_n hx hb dL_law_1196 rfl (lv_at hl 3 rfl) ?_
  refine lv_iconst (v := (2 : Int32)) hx hb dL_law_1197 (by decide) ?_
  refine lv_iadd hx hb dL_law_1198 ?_
  refine va_sld hx hb hX hbl hbA hS hi2 dL_law_1199 ?_
  refine cmV (wr := WX5 ax bx cI cJ cZ lst2) ⟨hx, hb, hml, hown, hts⟩ (ct_X6_issue l dC dI am bm cI cJ cZ H.size mst (xs ((x3 + (1 : Int32))).toNatClampNeg) (xs ((x3 + (2 : Int32))).toNatClampNeg) _ h2) (cwV 2 hts gL_law_X6_issue rfl rfl rfl (by decide +kernel) ⟨(Nat.le_of_ble_eq_true rfl), (Nat.le_of_ble_eq_true rfl)⟩) hK hP hD hS hA [28, 29, 30, 31, 32, 33, 34, 35, 36, 37, 38, 39, 40, 41, 42, 43, 44, 45, 46, 47, 48] [0, 1, 2, 3, 4, 5, 6, 7, 8, 9, 10, 11, 12, 13, 14, 15, 16, 17, 18, 19, 20, 21, 22, 23, 24, 25, 26, 27] rfl rfl (by decide) rfl (by decide) (by decide) rfl rfl rfl hl.1 rfl (Nat.le_of_ble_eq_true rfl) (show (c0 + 3) + 0 ≤ 600000 by omega) (show (s0 + 6144) + 0 ≤ 7302249 by omega) dL_law_1200 (fun H locs hP hD hS => ?_)
  replace hP : va_P (dC, dI) vwCl (WX5 ax bx cI cJ cZ lst2 ++ WX6 am bm cI cJ cZ mst2) H := hP
  replace hD : va_D (fun q : Nat => s.heap.size ≤ q) (WX5 ax bx cI cJ cZ lst2 ++ WX6 am bm cI cJ cZ mst2) := hD
  refine W.eq (g2 := F0 m 1203 ls [.int r, .int r]) rfl ?_
  refine lv_icmp_eq (tgt := 1432) hx hb dL_law_1203 (by decide) (fun _ => ?_) (fun hne => absurd rfl hne)
  refine W.widen (k := c0 + 6) (n := s0 + 12288) (by omega) (by omega) ?_
  exact kk bx H locs ⟨hP, hD, hS⟩
set_option maxHeartbeats 4000000 in
set_option maxRecDepth 100000 in
theorem lawc_move {p : Program} {l : Launch} {e : Env} {s : State} {m : MethodId} {below : List Frame} {meth : Method} {c : Code} {bs Ln : Nat} {xs : Nat → Int32} {dC : Nat → ClassId} {dI : Nat → Nat → Nat} {cI cJ cZ : ClassId} {QQ : State → Prop} {H : Heap} {locs : List Loc} {ls : Array Slot} {x3 : Int32} {c0 s0 : Nat} {ax bx am bm : Nat → Nat} (C0 : lw_At p s m meth c bs Ln xs) (hK : va_K (dC, dI) vwCl (tyT cI cJ cZ) s) (hi1 : vp_in (x3 + (1 : Int32)) Ln) (hi2 : vp_in (x3 + (2 : Int32)) Ln) (hi3 : vp_in (x3 + (3 : Int32)) Ln) (hi4 : vp_in (x3 + (4 : Int32)) Ln) (hi5 : vp_in (x3 + (5 : Int32)) Ln) (hi6 : vp_in (x3 + (6 : Int32)) Ln) (lst : LG) (mst : MS) (r : Int32) (lst2 : LG) (mst2 : MS) (h1 : fX5_move lst (xs ((x3 + (1 : Int32))).toNatClampNeg) (xs ((x3 + (2 : Int32))).toNatClampNeg) (xs ((x3 + (3 : Int32))).toNatClampNeg) = some (r, lst2)) (h2 : fX6_move mst (xs ((x3 + (1 : Int32))).toNatClampNeg) (xs ((x3 + (2 : Int32))).toNatClampNeg) (xs ((x3 + (3 : Int32))).toNatClampNeg) = some (r, mst2)) (hc0 : c0 + 6 ≤ 600000) (hs0 : s0 + 12288 ≤ 7302249) (hl : lv_has ls 4 [(0, .ref bs), (1, .ref (ax 0)), (2, .ref (am 0)), (3, .int x3)]) (hin : IN (dC, dI) (WX5 ax bx cI cJ cZ lst ++ WX6 am bm cI cJ cZ mst) (fun q : Nat => s.heap.size ≤ q) s.heap H locs) (kk : ∀ (bx : Nat → Nat) (H : Heap) (locs : List Loc), IN (dC, dI) (WX5 ax bx cI cJ cZ lst2 ++ WX6 am bm cI cJ cZ mst2) (fun q : Nat => s.heap.size ≤ q) s.heap H locs → W p l e room_1 s m #[Value.ref bs] below meth c H locs (c0 + 6) (s0 + 12288) QQ (F0 m 1432 ls [])) : W p l e room_1 s m #[Value.ref bs] below meth c H locs c0 s0 QQ (F0 m 1208 ls []) := by
  obtain ⟨hx, hb, hr, hml, hown, hts0, hX, hbl, hlocks, hgv⟩ := id C0
  have hts : ∀ w ∈ wsL_law, w.before #[Value.ref bs] s = true := fun w h => hts0 w (wsL_law_in w h)
  have hA : ∀ q : Nat, s.heap.size ≤ q → (fun q : Nat => s.heap.size ≤ q) q := fun _ h => h
  have hbA : ¬ (fun q : Nat => s.heap.size ≤ q) bs := Nat.not_le.mpr hbl
  obtain ⟨hP, hD, hS⟩ := hin
  refine lv_aload_n hx hb dL_law_1208 rfl (lv_at hl 1 rfl) ?_
  refine lv_aload_n hx hb dL_law_1209 rfl (lv_at hl 0 rfl) ?_
  refine lv_iload_n hx hb dL_law_1210 rfl (lv_at hl 3 rfl) ?_
  refine lv_iconst (v := (1 : Int32)) hx hb dL_law_1211 (by decide) ?_
  refine lv_iadd hx hb dL_law_1212 ?_
  refine va_sld hx hb hX hbl hbA hS hi1 dL_law_1213 ?_
  refine lv_aload_n hx hb dL_law_1214 rfl (lv_at hl 0 rfl) ?_
  refine lv_iload_n hx hb dL_law_1215 rfl (lv_at hl 3 rfl) ?_
  refine lv_iconst (v := (2 : Int32)) hx hb dL_law_1216 (by decide) ?_
  refine lv_iadd hx hb dL_law_1217 ?_
  refine va_sld hx hb hX hbl hbA hS hi2 dL_law_1218 ?_
  refine lv_aload_n hx hb dL_law_1219 rfl (lv_at hl 0 rfl) ?_
  refine lv_iload_n hx hb dL_law_1220 rfl (lv_at hl 3 rfl) ?_
  refine lv_iconst (v := (3 : Int32)) hx hb dL_law_1221 (by decide) ?_
  refine lv_iadd hx hb dL_law_1222 ?_
  refine va_sld hx hb hX hbl hbA hS hi3 dL_law_1223 ?_
  refine cmE (wr := WX6 am bm cI cJ cZ mst) ⟨hx, hb, hml, hown, hts⟩ (ct_X5_move l dC dI ax bx cI cJ cZ H.size lst (xs ((x3 + (1 : Int32))).toNatClampNeg) (xs ((x3 + (2 : Int32))).toNatClampNeg) (xs ((x3 + (3 : Int32))).toNatClampNeg) _ h1) (cwV 3 hts gL_law_X5_move rfl rfl rfl (by decide +kernel) ⟨(Nat.le_of_ble_eq_true rfl), (Nat.le_of_ble_eq_true rfl)⟩) hK hP hD hS hA [0, 1, 2, 3, 4, 5, 6, 7, 8, 9, 10, 11, 12, 13, 14, 15, 16, 17, 18, 19, 20, 21, 22, 23, 24, 25, 26, 27] [28, 29, 30, 31, 32, 33, 34, 35, 36, 37, 38, 39, 40, 41, 42, 43, 44, 45, 46, 47, 48] rfl rfl (by decide) rfl (by decide) (by decide) rfl rfl rfl hl.1 rfl (Nat.le_of_ble_eq_true rfl) (show c0 + 6 ≤ 600000 by omega) (show s0 + 12288 ≤ 7302249 by omega) dL_law_1224 (fun bx H locs hP hD hS => ?_)
  replace hP : va_P (dC, dI) vwCl (WX5 ax bx cI cJ cZ lst2 ++ WX6 am bm cI cJ cZ mst) H := hP.sub [21, 22, 23, 24, 25, 26, 27, 28, 29, 30, 31, 32, 33, 34, 35, 36, 37, 38, 39, 40, 41, 42, 43, 44, 45, 46, 47, 48, 0, 1, 2, 3, 4, 5, 6, 7, 8, 9, 10, 11, 12, 13, 14, 15, 16, 17, 18, 19, 20] rfl
  replace hD : va_D (fun q : Nat => s.heap.size ≤ q) (WX5 ax bx cI cJ cZ lst2 ++ WX6 am bm cI cJ cZ mst) := hD.sub [21, 22, 23, 24, 25, 26, 27, 28, 29, 30, 31, 32, 33, 34, 35, 36, 37, 38, 39, 40, 41, 42, 43, 44, 45, 46, 47, 48, 0, 1, 2, 3, 4, 5, 6, 7, 8, 9, 10, 11, 12, 13, 14, 15, 16, 17, 18, 19, 20] (by decide) rfl
  refine W.eq (g2 := F0 m 1227 ls [.int r]) rfl ?_
  refine lv_aload_n hx hb dL_law_1227 rfl (lv_at hl 2 rfl) ?_
  refine lv_aload_n hx hb dL_law_1228 rfl (lv_at hl 0 rfl) ?_
  refine lv_iload_n hx hb dL_law_1229 rfl (lv_at hl 3 rfl) ?_
  refine lv_iconst (v := (1 : Int32)) hx hb dL_law_1230 (by decide) ?_
  refine lv_iadd hx hb dL_law_1231 ?_
  refine va_sld hx hb hX hbl hbA hS hi1 dL_law_1232 ?_
  refine lv_aload_n hx hb dL_law_1233 rfl (lv_at hl 0 rfl) ?_
  refine lv_iload_n hx hb dL_law_1234 rfl (lv_at hl 3 rfl) ?_
  refine lv_iconst (v := (2 : Int32)) hx hb dL_law_1235 (by decide) ?_
  refine lv_iadd hx hb dL_law_1236 ?_
  refine va_sld hx hb hX hbl hbA hS hi2 dL_law_1237 ?_
  refine lv_aload_n hx hb dL_law_1238 rfl (lv_at hl 0 rfl) ?_
  refine lv_iload_n hx hb dL_law_1239 rfl (lv_at hl 3 rfl) ?_
  refine lv_iconst (v := (3 : Int32)) hx hb dL_law_1240 (by decide) ?_
  refine lv_iadd hx hb dL_law_1241 ?_
  refine va_sld hx hb hX hbl hbA hS hi3 dL_law_1242 ?_
  refine cmV (wr := WX5 ax bx cI cJ cZ lst2) ⟨hx, hb, hml, hown, hts⟩ (ct_X6_move l dC dI am bm cI cJ cZ H.size mst (xs ((x3 + (1 : Int32))).toNatClampNeg) (xs ((x3 + (2 : Int32))).toNatClampNeg) (xs ((x3 + (3 : Int32))).toNatClampNeg) _ h2) (cwV 3 hts gL_law_X6_move rfl rfl rfl (by decide +kernel) ⟨(Nat.le_of_ble_eq_true rfl), (Nat.le_of_ble_eq_true rfl)⟩) hK hP hD hS hA [28, 29, 30, 31, 32, 33, 34, 35, 36, 37, 38, 39, 40, 41, 42, 43, 44, 45, 46, 47, 48] [0, 1, 2, 3, 4, 5, 6, 7, 8, 9, 10, 11, 12, 13, 14, 15, 16, 17, 18, 19, 20, 21, 22, 23, 24, 25, 26, 27] rfl rfl (by decide) rfl (by decide) (by decide) rfl rfl rfl hl.1 rfl (Nat.le_of_ble_eq_true rfl) (show (c0 + 6) + 0 ≤ 600000 by omega) (show (s0 + 12288) + 0 ≤ 7302249 by omega) dL_law_1243 (fun H locs hP hD hS => ?_)
  replace hP : va_P (dC, dI) vwCl (WX5 ax bx cI cJ cZ lst2 ++ WX6 am bm cI cJ cZ mst2) H := hP
  replace hD : va_D (fun q : Nat => s.heap.size ≤ q) (WX5 ax bx cI cJ cZ lst2 ++ WX6 am bm cI cJ cZ mst2) := hD
  refine W.eq (g2 := F0 m 1246 ls [.int r, .int r]) rfl ?_
  refine lv_icmp_eq (tgt := 1432) hx hb dL_law_1246 (by decide) (fun _ => ?_) (fun hne => absurd rfl hne)
  refine W.widen (k := c0 + 6) (n := s0 + 12288) (by omega) (by omega) ?_
  exact kk bx H locs ⟨hP, hD, hS⟩
set_option maxHeartbeats 4000000 in
set_option maxRecDepth 100000 in
theorem lawc_use {p : Program} {l : Launch} {e : Env} {s : State} {m : MethodId} {below : List Frame} {meth : Method} {c : Code} {bs Ln : Nat} {xs : Nat → Int32} {dC : Nat → ClassId} {dI : Nat → Nat → Nat} {cI cJ cZ : ClassId} {QQ : State → Prop} {H : Heap} {locs : List Loc} {ls : Array Slot} {x3 : Int32} {c0 s0 : Nat} {ax bx am bm : Nat → Nat} (C0 : lw_At p s m meth c bs Ln xs) (hK : va_K (dC, dI) vwCl (tyT cI cJ cZ) s) (hi1 : vp_in (x3 + (1 : Int32)) Ln) (hi2 : vp_in (x3 + (2 : Int32)) Ln) (hi3 : vp_in (x3 + (3 : Int32)) Ln) (hi4 : vp_in (x3 + (4 : Int32)) Ln) (hi5 : vp_in (x3 + (5 : Int32)) Ln) (hi6 : vp_in (x3 + (6 : Int32)) Ln) (lst : LG) (mst : MS) (r : Int32) (lst2 : LG) (mst2 : MS) (h1 : fX5_use lst (xs ((x3 + (1 : Int32))).toNatClampNeg) (xs ((x3 + (2 : Int32))).toNatClampNeg) (xs ((x3 + (3 : Int32))).toNatClampNeg) = some (r, lst2)) (h2 : fX6_use mst (xs ((x3 + (1 : Int32))).toNatClampNeg) (xs ((x3 + (2 : Int32))).toNatClampNeg) (xs ((x3 + (3 : Int32))).toNatClampNeg) = some (r, mst2)) (hc0 : c0 + 6 ≤ 600000) (hs0 : s0 + 12288 ≤ 7302249) (hl : lv_has ls 4 [(0, .ref bs), (1, .ref (ax 0)), (2, .ref (am 0)), (3, .int x3)]) (hin : IN (dC, dI) (WX5 ax bx cI cJ cZ lst ++ WX6 am bm cI cJ cZ mst) (fun q : Nat => s.heap.size ≤ q) s.heap H locs) (kk : ∀ (bx : Nat → Nat) (H : Heap) (locs : List Loc), IN (dC, dI) (WX5 ax bx cI cJ cZ lst2 ++ WX6 am bm cI cJ cZ mst2) (fun q : Nat => s.heap.size ≤ q) s.heap H locs → W p l e room_1 s m #[Value.ref bs] below meth c H locs (c0 + 6) (s0 + 12288) QQ (F0 m 1432 ls [])) : W p l e room_1 s m #[Value.ref bs] below meth c H locs c0 s0 QQ (F0 m 1251 ls []) := by
  obtain ⟨hx, hb, hr, hml, hown, hts0, hX, hbl, hlocks, hgv⟩ := id C0
  have hts : ∀ w ∈ wsL_law, w.before #[Value.ref bs] s = true := fun w h => hts0 w (wsL_law_in w h)
  have hA : ∀ q : Nat, s.heap.size ≤ q → (fun q : Nat => s.heap.size ≤ q) q := fun _ h => h
  have hbA : ¬ (fun q : Nat => s.heap.size ≤ q) bs := Nat.not_le.mpr hbl
  obtain ⟨hP, hD, hS⟩ := hin
  refine lv_aload_n hx hb dL_law_1251 rfl (lv_at hl 1 rfl) ?_
  refine lv_aload_n hx hb dL_law_1252 rfl (lv_at hl 0 rfl) ?_
  refine lv_iload_n hx hb dL_law_1253 rfl (lv_at hl 3 rfl) ?_
  refine lv_iconst (v := (1 : Int32)) hx hb dL_law_1254 (by decide) ?_
  refine lv_iadd hx hb dL_law_1255 ?_
  refine va_sld hx hb hX hbl hbA hS hi1 dL_law_1256 ?_
  refine lv_aload_n hx hb dL_law_1257 rfl (lv_at hl 0 rfl) ?_
  refine lv_iload_n hx hb dL_law_1258 rfl (lv_at hl 3 rfl) ?_
  refine lv_iconst (v := (2 : Int32)) hx hb dL_law_1259 (by decide) ?_
  refine lv_iadd hx hb dL_law_1260 ?_
  refine va_sld hx hb hX hbl hbA hS hi2 dL_law_1261 ?_
  refine lv_aload_n hx hb dL_law_1262 rfl (lv_at hl 0 rfl) ?_
  refine lv_iload_n hx hb dL_law_1263 rfl (lv_at hl 3 rfl) ?_
  refine lv_iconst (v := (3 : Int32)) hx hb dL_law_1264 (by decide) ?_
  refine lv_iadd hx hb dL_law_1265 ?_
  refine va_sld hx hb hX hbl hbA hS hi3 dL_law_1266 ?_
  refine cmE (wr := WX6 am bm cI cJ cZ mst) ⟨hx, hb, hml, hown, hts⟩ (ct_X5_use l dC dI ax bx cI cJ cZ H.size lst (xs ((x3 + (1 : Int32))).toNatClampNeg) (xs ((x3 + (2 : Int32))).toNatClampNeg) (xs ((x3 + (3 : Int32))).toNatClampNeg) _ h1) (cwV 3 hts gL_law_X5_use rfl rfl rfl (by decide +kernel) ⟨(Nat.le_of_ble_eq_true rfl), (Nat.le_of_ble_eq_true rfl)⟩) hK hP hD hS hA [0, 1, 2, 3, 4, 5, 6, 7, 8, 9, 10, 11, 12, 13, 14, 15, 16, 17, 18, 19, 20, 21, 22, 23, 24, 25, 26, 27] [28, 29, 30, 31, 32, 33, 34, 35, 36, 37, 38, 39, 40, 41, 42, 43, 44, 45, 46, 47, 48] rfl rfl (by decide) rfl (by decide) (by decide) rfl rfl rfl hl.1 rfl (Nat.le_of_ble_eq_true rfl) (show c0 + 6 ≤ 600000 by omega) (show s0 + 12288 ≤ 7302249 by omega) dL_law_1267 (fun bx H locs hP hD hS => ?_)
  replace hP : va_P (dC, dI) vwCl (WX5 ax bx cI cJ cZ lst2 ++ WX6 am bm cI cJ cZ mst) H := hP.sub [21, 22, 23, 24, 25, 26, 27, 28, 29, 30, 31, 32, 33, 34, 35, 36, 37, 38, 39, 40, 41, 42, 43, 44, 45, 46, 47, 48, 0, 1, 2, 3, 4, 5, 6, 7, 8, 9, 10, 11, 12, 13, 14, 15, 16, 17, 18, 19, 20] rfl
  replace hD : va_D (fun q : Nat => s.heap.size ≤ q) (WX5 ax bx cI cJ cZ lst2 ++ WX6 am bm cI cJ cZ mst) := hD.sub [21, 22, 23, 24, 25, 26, 27, 28, 29, 30, 31, 32, 33, 34, 35, 36, 37, 38, 39, 40, 41, 42, 43, 44, 45, 46, 47, 48, 0, 1, 2, 3, 4, 5, 6, 7, 8, 9, 10, 11, 12, 13, 14, 15, 16, 17, 18, 19, 20] (by decide) rfl
  refine W.eq (g2 := F0 m 1270 ls [.int r]) rfl ?_
  refine lv_aload_n hx hb dL_law_1270 rfl (lv_at hl 2 rfl) ?_
  refine lv_aload_n hx hb dL_law_1271 rfl (lv_at hl 0 rfl) ?_
  refine lv_iload_n hx hb dL_law_1272 rfl (lv_at hl 3 rfl) ?_
  refine lv_iconst (v := (1 : Int32)) hx hb dL_law_1273 (by decide) ?_
  refine lv_iadd hx hb dL_law_1274 ?_
  refine va_sld hx hb hX hbl hbA hS hi1 dL_law_1275 ?_
  refine lv_aload_n hx hb dL_law_1276 rfl (lv_at hl 0 rfl) ?_
  refine lv_iload_n hx hb dL_law_1277 rfl (lv_at hl 3 rfl) ?_
  refine lv_iconst (v := (2 : Int32)) hx hb dL_law_1278 (by decide) ?_
  refine lv_iadd hx hb dL_law_1279 ?_
  refine va_sld hx hb hX hbl hbA hS hi2 dL_law_1280 ?_
  refine lv_aload_n hx hb dL_law_1281 rfl (lv_at hl 0 rfl) ?_
  refine lv_iload_n hx hb dL_law_1282 rfl (lv_at hl 3 rfl) ?_
  refine lv_iconst (v := (3 : Int32)) hx hb dL_law_1283 (by decide) ?_
  refine lv_iadd hx hb dL_law_1284 ?_
  refine va_sld hx hb hX hbl hbA hS hi3 dL_law_1285 ?_
  refine cmV (wr := WX5 ax bx cI cJ cZ lst2) ⟨hx, hb, hml, hown, hts⟩ (ct_X6_use l dC dI am bm cI cJ cZ H.size mst (xs ((x3 + (1 : Int32))).toNatClampNeg) (xs ((x3 + (2 : Int32))).toNatClampNeg) (xs ((x3 + (3 : Int32))).toNatClampNeg) _ h2) (cwV 3 hts gL_law_X6_use rfl rfl rfl (by decide +kernel) ⟨(Nat.le_of_ble_eq_true rfl), (Nat.le_of_ble_eq_true rfl)⟩) hK hP hD hS hA [28, 29, 30, 31, 32, 33, 34, 35, 36, 37, 38, 39, 40, 41, 42, 43, 44, 45, 46, 47, 48] [0, 1, 2, 3, 4, 5, 6, 7, 8, 9, 10, 11, 12, 13, 14, 15, 16, 17, 18, 19, 20, 21, 22, 23, 24, 25, 26, 27] rfl rfl (by decide) rfl (by decide) (by decide) rfl rfl rfl hl.1 rfl (Nat.le_of_ble_eq_true rfl) (show (c0 + 6) + 0 ≤ 600000 by omega) (show (s0 + 12288) + 0 ≤ 7302249 by omega) dL_law_1286 (fun H locs hP hD hS => ?_)
  replace hP : va_P (dC, dI) vwCl (WX5 ax bx cI cJ cZ lst2 ++ WX6 am bm cI cJ cZ mst2) H := hP
  replace hD : va_D (fun q : Nat => s.heap.size ≤ q) (WX5 ax bx cI cJ cZ lst2 ++ WX6 am bm cI cJ cZ mst2) := hD
  refine W.eq (g2 := F0 m 1289 ls [.int r, .int r]) rfl ?_
  refine lv_icmp_eq (tgt := 1432) hx hb dL_law_1289 (by decide) (fun _ => ?_) (fun hne => absurd rfl hne)
  refine W.widen (k := c0 + 6) (n := s0 + 12288) (by omega) (by omega) ?_
  exact kk bx H locs ⟨hP, hD, hS⟩
set_option maxHeartbeats 4000000 in
set_option maxRecDepth 100000 in
theorem lawc_owner {p : Program} {l : Launch} {e : Env} {s : State} {m : MethodId} {below : List Frame} {meth : Method} {c : Code} {bs Ln : Nat} {xs : Nat → Int32} {dC : Nat → ClassId} {dI : Nat → Nat → Nat} {cI cJ cZ : ClassId} {QQ : State → Prop} {H : Heap} {locs : List Loc} {ls : Array Slot} {x3 : Int32} {c0 s0 : Nat} {ax bx am bm : Nat → Nat} (C0 : lw_At p s m meth c bs Ln xs) (hK : va_K (dC, dI) vwCl (tyT cI cJ cZ) s) (hi1 : vp_in (x3 + (1 : Int32)) Ln) (hi2 : vp_in (x3 + (2 : Int32)) Ln) (hi3 : vp_in (x3 + (3 : Int32)) Ln) (hi4 : vp_in (x3 + (4 : Int32)) Ln) (hi5 : vp_in (x3 + (5 : Int32)) Ln) (hi6 : vp_in (x3 + (6 : Int32)) Ln) (lst : LG) (mst : MS) (r : Int32) (mst2 : MS) (h1 : fX5_owner lst (xs ((x3 + (1 : Int32))).toNatClampNeg) = some r) (h2 : fX6_owner mst (xs ((x3 + (1 : Int32))).toNatClampNeg) = some (r, mst2)) (hc0 : c0 + 6 ≤ 600000) (hs0 : s0 + 12288 ≤ 7302249) (hl : lv_has ls 4 [(0, .ref bs), (1, .ref (ax 0)), (2, .ref (am 0)), (3, .int x3)]) (hin : IN (dC, dI) (WX5 ax bx cI cJ cZ lst ++ WX6 am bm cI cJ cZ mst) (fun q : Nat => s.heap.size ≤ q) s.heap H locs) (kk : ∀ (bx : Nat → Nat) (H : Heap) (locs : List Loc), IN (dC, dI) (WX5 ax bx cI cJ cZ lst ++ WX6 am bm cI cJ cZ mst2) (fun q : Nat => s.heap.size ≤ q) s.heap H locs → W p l e room_1 s m #[Value.ref bs] below meth c H locs (c0 + 6) (s0 + 12288) QQ (F0 m 1432 ls [])) : W p l e room_1 s m #[Value.ref bs] below meth c H locs c0 s0 QQ (F0 m 1294 ls []) := by
  obtain ⟨hx, hb, hr, hml, hown, hts0, hX, hbl, hlocks, hgv⟩ := id C0
  have hts : ∀ w ∈ wsL_law, w.before #[Value.ref bs] s = true := fun w h => hts0 w (wsL_law_in w h)
  have hA : ∀ q : Nat, s.heap.size ≤ q → (fun q : Nat => s.heap.size ≤ q) q := fun _ h => h
  have hbA : ¬ (fun q : Nat => s.heap.size ≤ q) bs := Nat.not_le.mpr hbl
  obtain ⟨hP, hD, hS⟩ := hin
  refine lv_aload_n hx hb dL_law_1294 rfl (lv_at hl 1 rfl) ?_
  refine lv_aload_n hx hb dL_law_1295 rfl (lv_at hl 0 rfl) ?_
  refine lv_iload_n hx hb dL_law_1296 rfl (lv_at hl 3 rfl) ?_
  refine lv_iconst (v := (1 : Int32)) hx hb dL_law_1297 (by decide) ?_
  refine lv_iadd hx hb dL_law_1298 ?_
  refine va_sld hx hb hX hbl hbA hS hi1 dL_law_1299 ?_
  refine cpV (v := .int r) ⟨hx, hb, hml, hown, hts⟩ (ct_X5_owner l dC dI ax bx cI cJ cZ lst (xs ((x3 + (1 : Int32))).toNatClampNeg) r h1) (cwV 1 hts gL_law_X5_owner rfl rfl rfl (by decide +kernel) ⟨(Nat.le_of_ble_eq_true rfl), (Nat.le_of_ble_eq_true rfl)⟩) hK hP [0, 1, 2, 3, 4, 5, 6, 7, 8, 9, 10, 11, 12, 13, 14, 15, 16, 17, 18, 19, 20, 21, 22, 23, 24, 25, 26, 27] rfl rfl rfl rfl hl.1 rfl (Nat.le_of_ble_eq_true rfl) (show c0 ≤ 600000 by omega) (show s0 ≤ 7302249 by omega) dL_law_1300 ?_
  refine W.eq (g2 := F0 m 1303 ls [.int r]) rfl ?_
  refine lv_aload_n hx hb dL_law_1303 rfl (lv_at hl 2 rfl) ?_
  refine lv_aload_n hx hb dL_law_1304 rfl (lv_at hl 0 rfl) ?_
  refine lv_iload_n hx hb dL_law_1305 rfl (lv_at hl 3 rfl) ?_
  refine lv_iconst (v := (1 : Int32)) hx hb dL_law_1306 (by decide) ?_
  refine lv_iadd hx hb dL_law_1307 ?_
  refine va_sld hx hb hX hbl hbA hS hi1 dL_law_1308 ?_
  refine cmV (wr := WX5 ax bx cI cJ cZ lst) ⟨hx, hb, hml, hown, hts⟩ (ct_X6_owner l dC dI am bm cI cJ cZ H.size mst (xs ((x3 + (1 : Int32))).toNatClampNeg) _ h2) (cwV 1 hts gL_law_X6_owner rfl rfl rfl (by decide +kernel) ⟨(Nat.le_of_ble_eq_true rfl), (Nat.le_of_ble_eq_true rfl)⟩) hK hP hD hS hA [28, 29, 30, 31, 32, 33, 34, 35, 36, 37, 38, 39, 40, 41, 42, 43, 44, 45, 46, 47, 48] [0, 1, 2, 3, 4, 5, 6, 7, 8, 9, 10, 11, 12, 13, 14, 15, 16, 17, 18, 19, 20, 21, 22, 23, 24, 25, 26, 27] rfl rfl (by decide) rfl (by decide) (by decide) rfl rfl rfl hl.1 rfl (Nat.le_of_ble_eq_true rfl) (show c0 + 0 ≤ 600000 by omega) (show s0 + 0 ≤ 7302249 by omega) dL_law_1309 (fun H locs hP hD hS => ?_)
  replace hP : va_P (dC, dI) vwCl (WX5 ax bx cI cJ cZ lst ++ WX6 am bm cI cJ cZ mst2) H := hP
  replace hD : va_D (fun q : Nat => s.heap.size ≤ q) (WX5 ax bx cI cJ cZ lst ++ WX6 am bm cI cJ cZ mst2) := hD
  refine W.eq (g2 := F0 m 1312 ls [.int r, .int r]) rfl ?_
  refine lv_icmp_eq (tgt := 1432) hx hb dL_law_1312 (by decide) (fun _ => ?_) (fun hne => absurd rfl hne)
  refine W.widen (k := c0 + 6) (n := s0 + 12288) (by omega) (by omega) ?_
  exact kk bx H locs ⟨hP, hD, hS⟩
set_option maxHeartbeats 4000000 in
set_option maxRecDepth 100000 in
theorem lawc_usedFor {p : Program} {l : Launch} {e : Env} {s : State} {m : MethodId} {below : List Frame} {meth : Method} {c : Code} {bs Ln : Nat} {xs : Nat → Int32} {dC : Nat → ClassId} {dI : Nat → Nat → Nat} {cI cJ cZ : ClassId} {QQ : State → Prop} {H : Heap} {locs : List Loc} {ls : Array Slot} {x3 : Int32} {c0 s0 : Nat} {ax bx am bm : Nat → Nat} (C0 : lw_At p s m meth c bs Ln xs) (hK : va_K (dC, dI) vwCl (tyT cI cJ cZ) s) (hi1 : vp_in (x3 + (1 : Int32)) Ln) (hi2 : vp_in (x3 + (2 : Int32)) Ln) (hi3 : vp_in (x3 + (3 : Int32)) Ln) (hi4 : vp_in (x3 + (4 : Int32)) Ln) (hi5 : vp_in (x3 + (5 : Int32)) Ln) (hi6 : vp_in (x3 + (6 : Int32)) Ln) (lst : LG) (mst : MS) (r : Int32) (mst2 : MS) (h1 : fX5_usedFor lst (xs ((x3 + (1 : Int32))).toNatClampNeg) = some r) (h2 : fX6_usedFor mst (xs ((x3 + (1 : Int32))).toNatClampNeg) = some (r, mst2)) (hc0 : c0 + 6 ≤ 600000) (hs0 : s0 + 12288 ≤ 7302249) (hl : lv_has ls 4 [(0, .ref bs), (1, .ref (ax 0)), (2, .ref (am 0)), (3, .int x3)]) (hin : IN (dC, dI) (WX5 ax bx cI cJ cZ lst ++ WX6 am bm cI cJ cZ mst) (fun q : Nat => s.heap.size ≤ q) s.heap H locs) (kk : ∀ (bx : Nat → Nat) (H : Heap) (locs : List Loc), IN (dC, dI) (WX5 ax bx cI cJ cZ lst ++ WX6 am bm cI cJ cZ mst2) (fun q : Nat => s.heap.size ≤ q) s.heap H locs → W p l e room_1 s m #[Value.ref bs] below meth c H locs (c0 + 6) (s0 + 12288) QQ (F0 m 1432 ls [])) : W p l e room_1 s m #[Value.ref bs] below meth c H locs c0 s0 QQ (F0 m 1317 ls []) := by
  obtain ⟨hx, hb, hr, hml, hown, hts0, hX, hbl, hlocks, hgv⟩ := id C0
  have hts : ∀ w ∈ wsL_law, w.before #[Value.ref bs] s = true := fun w h => hts0 w (wsL_law_in w h)
  have hA : ∀ q : Nat, s.heap.size ≤ q → (fun q : Nat => s.heap.size ≤ q) q := fun _ h => h
  have hbA : ¬ (fun q : Nat => s.heap.size ≤ q) bs := Nat.not_le.mpr hbl
  obtain ⟨hP, hD, hS⟩ := hin
  refine lv_aload_n hx hb dL_law_1317 rfl (lv_at hl 1 rfl) ?_
  refine lv_aload_n hx hb dL_law_1318 rfl (lv_at hl 0 rfl) ?_
  refine lv_iload_n hx hb dL_law_1319 rfl (lv_at hl 3 rfl) ?_
  refine lv_iconst (v := (1 : Int32)) hx hb dL_law_1320 (by decide) ?_
  refine lv_iadd hx hb dL_law_1321 ?_
  refine va_sld hx hb hX hbl hbA hS hi1 dL_law_1322 ?_
  refine cpV (v := .int r) ⟨hx, hb, hml, hown, hts⟩ (ct_X5_usedFor l dC dI ax bx cI cJ cZ lst (xs ((x3 + (1 : Int32))).toNatClampNeg) r h1) (cwV 1 hts gL_law_X5_usedFor rfl rfl rfl (by decide +kernel) ⟨(Nat.le_of_ble_eq_true rfl), (Nat.le_of_ble_eq_true rfl)⟩) hK hP [0, 1, 2, 3, 4, 5, 6, 7, 8, 9, 10, 11, 12, 13, 14, 15, 16, 17, 18, 19, 20, 21, 22, 23, 24, 25, 26, 27] rfl rfl rfl rfl hl.1 rfl (Nat.le_of_ble_eq_true rfl) (show c0 ≤ 600000 by omega) (show s0 ≤ 7302249 by omega) dL_law_1323 ?_
  refine W.eq (g2 := F0 m 1326 ls [.int r]) rfl ?_
  refine lv_aload_n hx hb dL_law_1326 rfl (lv_at hl 2 rfl) ?_
  refine lv_aload_n hx hb dL_law_1327 rfl (lv_at hl 0 rfl) ?_
  refine lv_iload_n hx hb dL_law_1328 rfl (lv_at hl 3 rfl) ?_
  refine lv_iconst (v := (1 : Int32)) hx hb dL_law_1329 (by decide) ?_
  refine lv_iadd hx hb dL_law_1330 ?_
  refine va_sld hx hb hX hbl hbA hS hi1 dL_law_1331 ?_
  refine cmV (wr := WX5 ax bx cI cJ cZ lst) ⟨hx, hb, hml, hown, hts⟩ (ct_X6_usedFor l dC dI am bm cI cJ cZ H.size mst (xs ((x3 + (1 : Int32))).toNatClampNeg) _ h2) (cwV 1 hts gL_law_X6_usedFor rfl rfl rfl (by decide +kernel) ⟨(Nat.le_of_ble_eq_true rfl), (Nat.le_of_ble_eq_true rfl)⟩) hK hP hD hS hA [28, 29, 30, 31, 32, 33, 34, 35, 36, 37, 38, 39, 40, 41, 42, 43, 44, 45, 46, 47, 48] [0, 1, 2, 3, 4, 5, 6, 7, 8, 9, 10, 11, 12, 13, 14, 15, 16, 17, 18, 19, 20, 21, 22, 23, 24, 25, 26, 27] rfl rfl (by decide) rfl (by decide) (by decide) rfl rfl rfl hl.1 rfl (Nat.le_of_ble_eq_true rfl) (show c0 + 0 ≤ 600000 by omega) (show s0 + 0 ≤ 7302249 by omega) dL_law_1332 (fun H locs hP hD hS => ?_)
  replace hP : va_P (dC, dI) vwCl (WX5 ax bx cI cJ cZ lst ++ WX6 am bm cI cJ cZ mst2) H := hP
  replace hD : va_D (fun q : Nat => s.heap.size ≤ q) (WX5 ax bx cI cJ cZ lst ++ WX6 am bm cI cJ cZ mst2) := hD
  refine W.eq (g2 := F0 m 1335 ls [.int r, .int r]) rfl ?_
  refine lv_icmp_eq (tgt := 1432) hx hb dL_law_1335 (by decide) (fun _ => ?_) (fun hne => absurd rfl hne)
  refine W.widen (k := c0 + 6) (n := s0 + 12288) (by omega) (by omega) ?_
  exact kk bx H locs ⟨hP, hD, hS⟩
set_option maxHeartbeats 4000000 in
set_option maxRecDepth 100000 in
theorem lawc_free {p : Program} {l : Launch} {e : Env} {s : State} {m : MethodId} {below : List Frame} {meth : Method} {c : Code} {bs Ln : Nat} {xs : Nat → Int32} {dC : Nat → ClassId} {dI : Nat → Nat → Nat} {cI cJ cZ : ClassId} {QQ : State → Prop} {H : Heap} {locs : List Loc} {ls : Array Slot} {x3 : Int32} {c0 s0 : Nat} {ax bx am bm : Nat → Nat} (C0 : lw_At p s m meth c bs Ln xs) (hK : va_K (dC, dI) vwCl (tyT cI cJ cZ) s) (hi1 : vp_in (x3 + (1 : Int32)) Ln) (hi2 : vp_in (x3 + (2 : Int32)) Ln) (hi3 : vp_in (x3 + (3 : Int32)) Ln) (hi4 : vp_in (x3 + (4 : Int32)) Ln) (hi5 : vp_in (x3 + (5 : Int32)) Ln) (hi6 : vp_in (x3 + (6 : Int32)) Ln) (lst : LG) (mst : MS) (r : Int32) (mst2 : MS) (h1 : fX5_free lst (xs ((x3 + (1 : Int32))).toNatClampNeg) = some r) (h2 : fX6_free mst (xs ((x3 + (1 : Int32))).toNatClampNeg) = some (r, mst2)) (hc0 : c0 + 6 ≤ 600000) (hs0 : s0 + 12288 ≤ 7302249) (hl : lv_has ls 4 [(0, .ref bs), (1, .ref (ax 0)), (2, .ref (am 0)), (3, .int x3)]) (hin : IN (dC, dI) (WX5 ax bx cI cJ cZ lst ++ WX6 am bm cI cJ cZ mst) (fun q : Nat => s.heap.size ≤ q) s.heap H locs) (kk : ∀ (bx : Nat → Nat) (H : Heap) (locs : List Loc), IN (dC, dI) (WX5 ax bx cI cJ cZ lst ++ WX6 am bm cI cJ cZ mst2) (fun q : Nat => s.heap.size ≤ q) s.heap H locs → W p l e room_1 s m #[Value.ref bs] below meth c H locs (c0 + 6) (s0 + 12288) QQ (F0 m 1432 ls [])) : W p l e room_1 s m #[Value.ref bs] below meth c H locs c0 s0 QQ (F0 m 1340 ls []) := by
  obtain ⟨hx, hb, hr, hml, hown, hts0, hX, hbl, hlocks, hgv⟩ := id C0
  have hts : ∀ w ∈ wsL_law, w.before #[Value.ref bs] s = true := fun w h => hts0 w (wsL_law_in w h)
  have hA : ∀ q : Nat, s.heap.size ≤ q → (fun q : Nat => s.heap.size ≤ q) q := fun _ h => h
  have hbA : ¬ (fun q : Nat => s.heap.size ≤ q) bs := Nat.not_le.mpr hbl
  obtain ⟨hP, hD, hS⟩ := hin
  refine lv_aload_n hx hb dL_law_1340 rfl (lv_at hl 1 rfl) ?_
  refine lv_aload_n hx hb dL_law_1341 rfl (lv_at hl 0 rfl) ?_
  refine lv_iload_n hx hb dL_law_1342 rfl (lv_at hl 3 rfl) ?_
  refine lv_iconst (v := (1 : Int32)) hx hb dL_law_1343 (by decide) ?_
  refine lv_iadd hx hb dL_law_1344 ?_
  refine va_sld hx hb hX hbl hbA hS hi1 dL_law_1345 ?_
  refine cpV (v := .int r) ⟨hx, hb, hml, hown, hts⟩ (ct_X5_free l dC dI ax bx cI cJ cZ lst (xs ((x3 + (1 : Int32))).toNatClampNeg) r h1) (cwV 1 hts gL_law_X5_free rfl rfl rfl (by decide +kernel) ⟨(Nat.le_of_ble_eq_true rfl), (Nat.le_of_ble_eq_true rfl)⟩) hK hP [0, 1, 2, 3, 4, 5, 6, 7, 8, 9, 10, 11, 12, 13, 14, 15, 16, 17, 18, 19, 20, 21, 22, 23, 24, 25, 26, 27] rfl rfl rfl rfl hl.1 rfl (Nat.le_of_ble_eq_true rfl) (show c0 ≤ 600000 by omega) (show s0 ≤ 7302249 by omega) dL_law_1346 ?_
  refine W.eq (g2 := F0 m 1349 ls [.int r]) rfl ?_
  refine lv_aload_n hx hb dL_law_1349 rfl (lv_at hl 2 rfl) ?_
  refine lv_aload_n hx hb dL_law_1350 rfl (lv_at hl 0 rfl) ?_
  refine lv_iload_n hx hb dL_law_1351 rfl (lv_at hl 3 rfl) ?_
  refine lv_iconst (v := (1 : Int32)) hx hb dL_law_1352 (by decide) ?_
  refine lv_iadd hx hb dL_law_1353 ?_
  refine va_sld hx hb hX hbl hbA hS hi1 dL_law_1354 ?_
  refine cmV (wr := WX5 ax bx cI cJ cZ lst) ⟨hx, hb, hml, hown, hts⟩ (ct_X6_free l dC dI am bm cI cJ cZ H.size mst (xs ((x3 + (1 : Int32))).toNatClampNeg) _ h2) (cwV 1 hts gL_law_X6_free rfl rfl rfl (by decide +kernel) ⟨(Nat.le_of_ble_eq_true rfl), (Nat.le_of_ble_eq_true rfl)⟩) hK hP hD hS hA [28, 29, 30, 31, 32, 33, 34, 35, 36, 37, 38, 39, 40, 41, 42, 43, 44, 45, 46, 47, 48] [0, 1, 2, 3, 4, 5, 6, 7, 8, 9, 10, 11, 12, 13, 14, 15, 16, 17, 18, 19, 20, 21, 22, 23, 24, 25, 26, 27] rfl rfl (by decide) rfl (by decide) (by decide) rfl rfl rfl hl.1 rfl (Nat.le_of_ble_eq_true rfl) (show c0 + 0 ≤ 600000 by omega) (show s0 + 0 ≤ 7302249 by omega) dL_law_1355 (fun H locs hP hD hS => ?_)
  replace hP : va_P (dC, dI) vwCl (WX5 ax bx cI cJ cZ lst ++ WX6 am bm cI cJ cZ mst2) H := hP
  replace hD : va_D (fun q : Nat => s.heap.size ≤ q) (WX5 ax bx cI cJ cZ lst ++ WX6 am bm cI cJ cZ mst2) := hD
  refine W.eq (g2 := F0 m 1358 ls [.int r, .int r]) rfl ?_
  refine lv_icmp_eq (tgt := 1432) hx hb dL_law_1358 (by decide) (fun _ => ?_) (fun hne => absurd rfl hne)
  refine W.widen (k := c0 + 6) (n := s0 + 12288) (by omega) (by omega) ?_
  exact kk bx H locs ⟨hP, hD, hS⟩
set_option maxHeartbeats 4000000 in
set_option maxRecDepth 100000 in
theorem lawc_runs {p : Program} {l : Launch} {e : Env} {s : State} {m : MethodId} {below : List Frame} {meth : Method} {c : Code} {bs Ln : Nat} {xs : Nat → Int32} {dC : Nat → ClassId} {dI : Nat → Nat → Nat} {cI cJ cZ : ClassId} {QQ : State → Prop} {H : Heap} {locs : List Loc} {ls : Array Slot} {x3 : Int32} {c0 s0 : Nat} {ax bx am bm : Nat → Nat} (C0 : lw_At p s m meth c bs Ln xs) (hK : va_K (dC, dI) vwCl (tyT cI cJ cZ) s) (hi1 : vp_in (x3 + (1 : Int32)) Ln) (hi2 : vp_in (x3 + (2 : Int32)) Ln) (hi3 : vp_in (x3 + (3 : Int32)) Ln) (hi4 : vp_in (x3 + (4 : Int32)) Ln) (hi5 : vp_in (x3 + (5 : Int32)) Ln) (hi6 : vp_in (x3 + (6 : Int32)) Ln) (lst : LG) (mst : MS) (r : Int32) (mst2 : MS) (h1 : fX5_runs lst  = some r) (h2 : fX6_runs mst  = some (r, mst2)) (hc0 : c0 + 6 ≤ 600000) (hs0 : s0 + 12288 ≤ 7302249) (hl : lv_has ls 4 [(0, .ref bs), (1, .ref (ax 0)), (2, .ref (am 0)), (3, .int x3)]) (hin : IN (dC, dI) (WX5 ax bx cI cJ cZ lst ++ WX6 am bm cI cJ cZ mst) (fun q : Nat => s.heap.size ≤ q) s.heap H locs) (kk : ∀ (bx : Nat → Nat) (H : Heap) (locs : List Loc), IN (dC, dI) (WX5 ax bx cI cJ cZ lst ++ WX6 am bm cI cJ cZ mst2) (fun q : Nat => s.heap.size ≤ q) s.heap H locs → W p l e room_1 s m #[Value.ref bs] below meth c H locs (c0 + 6) (s0 + 12288) QQ (F0 m 1432 ls [])) : W p l e room_1 s m #[Value.ref bs] below meth c H locs c0 s0 QQ (F0 m 1363 ls []) := by
  obtain ⟨hx, hb, hr, hml, hown, hts0, hX, hbl, hlocks, hgv⟩ := id C0
  have hts : ∀ w ∈ wsL_law, w.before #[Value.ref bs] s = true := fun w h => hts0 w (wsL_law_in w h)
  have hA : ∀ q : Nat, s.heap.size ≤ q → (fun q : Nat => s.heap.size ≤ q) q := fun _ h => h
  have hbA : ¬ (fun q : Nat => s.heap.size ≤ q) bs := Nat.not_le.mpr hbl
  obtain ⟨hP, hD, hS⟩ := hin
  refine lv_aload_n hx hb dL_law_1363 rfl (lv_at hl 1 rfl) ?_
  refine cpV (v := .int r) ⟨hx, hb, hml, hown, hts⟩ (ct_X5_runs l dC dI ax bx cI cJ cZ lst  r h1) (cwV 0 hts gL_law_X5_runs rfl rfl rfl (by decide +kernel) ⟨(Nat.le_of_ble_eq_true rfl), (Nat.le_of_ble_eq_true rfl)⟩) hK hP [0, 1, 2, 3, 4, 5, 6, 7, 8, 9, 10, 11, 12, 13, 14, 15, 16, 17, 18, 19, 20, 21, 22, 23, 24, 25, 26, 27] rfl rfl rfl rfl hl.1 rfl (Nat.le_of_ble_eq_true rfl) (show c0 ≤ 600000 by omega) (show s0 ≤ 7302249 by omega) dL_law_1364 ?_
  refine W.eq (g2 := F0 m 1367 ls [.int r]) rfl ?_
  refine lv_aload_n hx hb dL_law_1367 rfl (lv_at hl 2 rfl) ?_
  refine cmV (wr := WX5 ax bx cI cJ cZ lst) ⟨hx, hb, hml, hown, hts⟩ (ct_X6_runs l dC dI am bm cI cJ cZ H.size mst  _ h2) (cwV 0 hts gL_law_X6_runs rfl rfl rfl (by decide +kernel) ⟨(Nat.le_of_ble_eq_true rfl), (Nat.le_of_ble_eq_true rfl)⟩) hK hP hD hS hA [28, 29, 30, 31, 32, 33, 34, 35, 36, 37, 38, 39, 40, 41, 42, 43, 44, 45, 46, 47, 48] [0, 1, 2, 3, 4, 5, 6, 7, 8, 9, 10, 11, 12, 13, 14, 15, 16, 17, 18, 19, 20, 21, 22, 23, 24, 25, 26, 27] rfl rfl (by decide) rfl (by decide) (by decide) rfl rfl rfl hl.1 rfl (Nat.le_of_ble_eq_true rfl) (show c0 + 0 ≤ 600000 by omega) (show s0 + 0 ≤ 7302249 by omega) dL_law_1368 (fun H locs hP hD hS => ?_)
  replace hP : va_P (dC, dI) vwCl (WX5 ax bx cI cJ cZ lst ++ WX6 am bm cI cJ cZ mst2) H := hP
  replace hD : va_D (fun q : Nat => s.heap.size ≤ q) (WX5 ax bx cI cJ cZ lst ++ WX6 am bm cI cJ cZ mst2) := hD
  refine W.eq (g2 := F0 m 1371 ls [.int r, .int r]) rfl ?_
  refine lv_icmp_eq (tgt := 1432) hx hb dL_law_1371 (by decide) (fun _ => ?_) (fun hne => absurd rfl hne)
  refine W.widen (k := c0 + 6) (n := s0 + 12288) (by omega) (by omega) ?_
  exact kk bx H locs ⟨hP, hD, hS⟩
set_option maxHeartbeats 4000000 in
set_option maxRecDepth 100000 in
theorem lawc_run {p : Program} {l : Launch} {e : Env} {s : State} {m : MethodId} {below : List Frame} {meth : Method} {c : Code} {bs Ln : Nat} {xs : Nat → Int32} {dC : Nat → ClassId} {dI : Nat → Nat → Nat} {cI cJ cZ : ClassId} {QQ : State → Prop} {H : Heap} {locs : List Loc} {ls : Array Slot} {x3 : Int32} {c0 s0 : Nat} {ax bx am bm : Nat → Nat} (C0 : lw_At p s m meth c bs Ln xs) (hK : va_K (dC, dI) vwCl (tyT cI cJ cZ) s) (hi1 : vp_in (x3 + (1 : Int32)) Ln) (hi2 : vp_in (x3 + (2 : Int32)) Ln) (hi3 : vp_in (x3 + (3 : Int32)) Ln) (hi4 : vp_in (x3 + (4 : Int32)) Ln) (hi5 : vp_in (x3 + (5 : Int32)) Ln) (hi6 : vp_in (x3 + (6 : Int32)) Ln) (lst : LG) (mst : MS) (r : Int32) (mst2 : MS) (h1 : fX5_run lst (xs ((x3 + (1 : Int32))).toNatClampNeg) (xs ((x3 + (2 : Int32))).toNatClampNeg) = some r) (h2 : fX6_run mst (xs ((x3 + (1 : Int32))).toNatClampNeg) (xs ((x3 + (2 : Int32))).toNatClampNeg) = some (r, mst2)) (hc0 : c0 + 6 ≤ 600000) (hs0 : s0 + 12288 ≤ 7302249) (hl : lv_has ls 4 [(0, .ref bs), (1, .ref (ax 0)), (2, .ref (am 0)), (3, .int x3)]) (hin : IN (dC, dI) (WX5 ax bx cI cJ cZ lst ++ WX6 am bm cI cJ cZ mst) (fun q : Nat => s.heap.size ≤ q) s.heap H locs) (kk : ∀ (bx : Nat → Nat) (H : Heap) (locs : List Loc), IN (dC, dI) (WX5 ax bx cI cJ cZ lst ++ WX6 am bm cI cJ cZ mst2) (fun q : Nat => s.heap.size ≤ q) s.heap H locs → W p l e room_1 s m #[Value.ref bs] below meth c H locs (c0 + 6) (s0 + 12288) QQ (F0 m 1432 ls [])) : W p l e room_1 s m #[Value.ref bs] below meth c H locs c0 s0 QQ (F0 m 1376 ls []) := by
  obtain ⟨hx, hb, hr, hml, hown, hts0, hX, hbl, hlocks, hgv⟩ := id C0
  have hts : ∀ w ∈ wsL_law, w.before #[Value.ref bs] s = true := fun w h => hts0 w (wsL_law_in w h)
  have hA : ∀ q : Nat, s.heap.size ≤ q → (fun q : Nat => s.heap.size ≤ q) q := fun _ h => h
  have hbA : ¬ (fun q : Nat => s.heap.size ≤ q) bs := Nat.not_le.mpr hbl
  obtain ⟨hP, hD, hS⟩ := hin
  refine lv_aload_n hx hb dL_law_1376 rfl (lv_at hl 1 rfl) ?_
  refine lv_aload_n hx hb dL_law_1377 rfl (lv_at hl 0 rfl) ?_
  refine lv_iload_n hx hb dL_law_1378 rfl (lv_at hl 3 rfl) ?_
  refine lv_iconst (v := (1 : Int32)) hx hb dL_law_1379 (by decide) ?_
  refine lv_iadd hx hb dL_law_1380 ?_
  refine va_sld hx hb hX hbl hbA hS hi1 dL_law_1381 ?_
  refine lv_aload_n hx hb dL_law_1382 rfl (lv_at hl 0 rfl) ?_
  refine lv_iload_n hx hb dL_law_1383 rfl (lv_at hl 3 rfl) ?_
  refine lv_iconst (v := (2 : Int32)) hx hb dL_law_1384 (by decide) ?_
  refine lv_iadd hx hb dL_law_1385 ?_
  refine va_sld hx hb hX hbl hbA hS hi2 dL_law_1386 ?_
  refine cpV (v := .int r) ⟨hx, hb, hml, hown, hts⟩ (ct_X5_run l dC dI ax bx cI cJ cZ lst (xs ((x3 + (1 : Int32))).toNatClampNeg) (xs ((x3 + (2 : Int32))).toNatClampNeg) r h1) (cwV 2 hts gL_law_X5_run rfl rfl rfl (by decide +kernel) ⟨(Nat.le_of_ble_eq_true rfl), (Nat.le_of_ble_eq_true rfl)⟩) hK hP [0, 1, 2, 3, 4, 5, 6, 7, 8, 9, 10, 11, 12, 13, 14, 15, 16, 17, 18, 19, 20, 21, 22, 23, 24, 25, 26, 27] rfl rfl rfl rfl hl.1 rfl (Nat.le_of_ble_eq_true rfl) (show c0 ≤ 600000 by omega) (show s0 ≤ 7302249 by omega) dL_law_1387 ?_
  refine W.eq (g2 := F0 m 1390 ls [.int r]) rfl ?_
  refine lv_aload_n hx hb dL_law_1390 rfl (lv_at hl 2 rfl) ?_
  refine lv_aload_n hx hb dL_law_1391 rfl (lv_at hl 0 rfl) ?_
  refine lv_iload_n hx hb dL_law_1392 rfl (lv_at hl 3 rfl) ?_
  refine lv_iconst (v := (1 : Int32)) hx hb dL_law_1393 (by decide) ?_
  refine lv_iadd hx hb dL_law_1394 ?_
  refine va_sld hx hb hX hbl hbA hS hi1 dL_law_1395 ?_
  refine lv_aload_n hx hb dL_law_1396 rfl (lv_at hl 0 rfl) ?_
  refine lv_iload_n hx hb dL_law_1397 rfl (lv_at hl 3 rfl) ?_
  refine lv_iconst (v := (2 : Int32)) hx hb dL_law_1398 (by decide) ?_
  refine lv_iadd hx hb dL_law_1399 ?_
  refine va_sld hx hb hX hbl hbA hS hi2 dL_law_1400 ?_
  refine cmV (wr := WX5 ax bx cI cJ cZ lst) ⟨hx, hb, hml, hown, hts⟩ (ct_X6_run l dC dI am bm cI cJ cZ H.size mst (xs ((x3 + (1 : Int32))).toNatClampNeg) (xs ((x3 + (2 : Int32))).toNatClampNeg) _ h2) (cwV 2 hts gL_law_X6_run rfl rfl rfl (by decide +kernel) ⟨(Nat.le_of_ble_eq_true rfl), (Nat.le_of_ble_eq_true rfl)⟩) hK hP hD hS hA [28, 29, 30, 31, 32, 33, 34, 35, 36, 37, 38, 39, 40, 41, 42, 43, 44, 45, 46, 47, 48] [0, 1, 2, 3, 4, 5, 6, 7, 8, 9, 10, 11, 12, 13, 14, 15, 16, 17, 18, 19, 20, 21, 22, 23, 24, 25, 26, 27] rfl rfl (by decide) rfl (by decide) (by decide) rfl rfl rfl hl.1 rfl (Nat.le_of_ble_eq_true rfl) (show c0 + 0 ≤ 600000 by omega) (show s0 + 0 ≤ 7302249 by omega) dL_law_1401 (fun H locs hP hD hS => ?_)
  replace hP : va_P (dC, dI) vwCl (WX5 ax bx cI cJ cZ lst ++ WX6 am bm cI cJ cZ mst2) H := hP
  replace hD : va_D (fun q : Nat => s.heap.size ≤ q) (WX5 ax bx cI cJ cZ lst ++ WX6 am bm cI cJ cZ mst2) := hD
  refine W.eq (g2 := F0 m 1404 ls [.int r, .int r]) rfl ?_
  refine lv_icmp_eq (tgt := 1432) hx hb dL_law_1404 (by decide) (fun _ => ?_) (fun hne => absurd rfl hne)
  refine W.widen (k := c0 + 6) (n := s0 + 12288) (by omega) (by omega) ?_
  exact kk bx H locs ⟨hP, hD, hS⟩
set_option maxHeartbeats 4000000 in
set_option maxRecDepth 100000 in
theorem lawc_count {p : Program} {l : Launch} {e : Env} {s : State} {m : MethodId} {below : List Frame} {meth : Method} {c : Code} {bs Ln : Nat} {xs : Nat → Int32} {dC : Nat → ClassId} {dI : Nat → Nat → Nat} {cI cJ cZ : ClassId} {QQ : State → Prop} {H : Heap} {locs : List Loc} {ls : Array Slot} {x3 : Int32} {c0 s0 : Nat} {ax bx am bm : Nat → Nat} (C0 : lw_At p s m meth c bs Ln xs) (hK : va_K (dC, dI) vwCl (tyT cI cJ cZ) s) (hi1 : vp_in (x3 + (1 : Int32)) Ln) (hi2 : vp_in (x3 + (2 : Int32)) Ln) (hi3 : vp_in (x3 + (3 : Int32)) Ln) (hi4 : vp_in (x3 + (4 : Int32)) Ln) (hi5 : vp_in (x3 + (5 : Int32)) Ln) (hi6 : vp_in (x3 + (6 : Int32)) Ln) (lst : LG) (mst : MS) (r : Int32) (mst2 : MS) (h1 : fX5_count lst (xs ((x3 + (1 : Int32))).toNatClampNeg) = some r) (h2 : fX6_count mst (xs ((x3 + (1 : Int32))).toNatClampNeg) = some (r, mst2)) (hc0 : c0 + 6 ≤ 600000) (hs0 : s0 + 12288 ≤ 7302249) (hl : lv_has ls 4 [(0, .ref bs), (1, .ref (ax 0)), (2, .ref (am 0)), (3, .int x3)]) (hin : IN (dC, dI) (WX5 ax bx cI cJ cZ lst ++ WX6 am bm cI cJ cZ mst) (fun q : Nat => s.heap.size ≤ q) s.heap H locs) (kk : ∀ (bx : Nat → Nat) (H : Heap) (locs : List Loc), IN (dC, dI) (WX5 ax bx cI cJ cZ lst ++ WX6 am bm cI cJ cZ mst2) (fun q : Nat => s.heap.size ≤ q) s.heap H locs → W p l e room_1 s m #[Value.ref bs] below meth c H locs (c0 + 6) (s0 + 12288) QQ (F0 m 1432 ls [])) : W p l e room_1 s m #[Value.ref bs] below meth c H locs c0 s0 QQ (F0 m 1409 ls []) := by
  obtain ⟨hx, hb, hr, hml, hown, hts0, hX, hbl, hlocks, hgv⟩ := id C0
  have hts : ∀ w ∈ wsL_law, w.before #[Value.ref bs] s = true := fun w h => hts0 w (wsL_law_in w h)
  have hA : ∀ q : Nat, s.heap.size ≤ q → (fun q : Nat => s.heap.size ≤ q) q := fun _ h => h
  have hbA : ¬ (fun q : Nat => s.heap.size ≤ q) bs := Nat.not_le.mpr hbl
  obtain ⟨hP, hD, hS⟩ := hin
  refine lv_aload_n hx hb dL_law_1409 rfl (lv_at hl 1 rfl) ?_
  refine lv_aload_n hx hb dL_law_1410 rfl (lv_at hl 0 rfl) ?_
  refine lv_iload_n hx hb dL_law_1411 rfl (lv_at hl 3 rfl) ?_
  refine lv_iconst (v := (1 : Int32)) hx hb dL_law_1412 (by decide) ?_
  refine lv_iadd hx hb dL_law_1413 ?_
  refine va_sld hx hb hX hbl hbA hS hi1 dL_law_1414 ?_
  refine cpV (v := .int r) ⟨hx, hb, hml, hown, hts⟩ (ct_X5_count l dC dI ax bx cI cJ cZ lst (xs ((x3 + (1 : Int32))).toNatClampNeg) r h1) (cwV 1 hts gL_law_X5_count rfl rfl rfl (by decide +kernel) ⟨(Nat.le_of_ble_eq_true rfl), (Nat.le_of_ble_eq_true rfl)⟩) hK hP [0, 1, 2, 3, 4, 5, 6, 7, 8, 9, 10, 11, 12, 13, 14, 15, 16, 17, 18, 19, 20, 21, 22, 23, 24, 25, 26, 27] rfl rfl rfl rfl hl.1 rfl (Nat.le_of_ble_eq_true rfl) (show c0 ≤ 600000 by omega) (show s0 ≤ 7302249 by omega) dL_law_1415 ?_
  refine W.eq (g2 := F0 m 1418 ls [.int r]) rfl ?_
  refine lv_aload_n hx hb dL_law_1418 rfl (lv_at hl 2 rfl) ?_
  refine lv_aload_n hx hb dL_law_1419 rfl (lv_at hl 0 rfl) ?_
  refine lv_iload_n hx hb dL_law_1420 rfl (lv_at hl 3 rfl) ?_
  refine lv_iconst (v := (1 : Int32)) hx hb dL_law_1421 (by decide) ?_
  refine lv_iadd hx hb dL_law_1422 ?_
  refine va_sld hx hb hX hbl hbA hS hi1 dL_law_1423 ?_
  refine cmV (wr := WX5 ax bx cI cJ cZ lst) ⟨hx, hb, hml, hown, hts⟩ (ct_X6_count l dC dI am bm cI cJ cZ H.size mst (xs ((x3 + (1 : Int32))).toNatClampNeg) _ h2) (cwV 1 hts gL_law_X6_count rfl rfl rfl (by decide +kernel) ⟨(Nat.le_of_ble_eq_true rfl), (Nat.le_of_ble_eq_true rfl)⟩) hK hP hD hS hA [28, 29, 30, 31, 32, 33, 34, 35, 36, 37, 38, 39, 40, 41, 42, 43, 44, 45, 46, 47, 48] [0, 1, 2, 3, 4, 5, 6, 7, 8, 9, 10, 11, 12, 13, 14, 15, 16, 17, 18, 19, 20, 21, 22, 23, 24, 25, 26, 27] rfl rfl (by decide) rfl (by decide) (by decide) rfl rfl rfl hl.1 rfl (Nat.le_of_ble_eq_true rfl) (show c0 + 0 ≤ 600000 by omega) (show s0 + 0 ≤ 7302249 by omega) dL_law_1424 (fun H locs hP hD hS => ?_)
  replace hP : va_P (dC, dI) vwCl (WX5 ax bx cI cJ cZ lst ++ WX6 am bm cI cJ cZ mst2) H := hP
  replace hD : va_D (fun q : Nat => s.heap.size ≤ q) (WX5 ax bx cI cJ cZ lst ++ WX6 am bm cI cJ cZ mst2) := hD
  refine W.eq (g2 := F0 m 1427 ls [.int r, .int r]) rfl ?_
  refine lv_icmp_eq (tgt := 1432) hx hb dL_law_1427 (by decide) (fun _ => ?_) (fun hne => absurd rfl hne)
  refine W.widen (k := c0 + 6) (n := s0 + 12288) (by omega) (by omega) ?_
  exact kk bx H locs ⟨hP, hD, hS⟩
