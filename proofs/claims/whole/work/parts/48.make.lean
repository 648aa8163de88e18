/-! the ledger's shares of a span -/
theorem rS_1 (X : Nat → Nat → Nat) (v : Nat) : rS X 1 v = 10000 * X 0 v := by
  show sum10 (fun a => rS X 0 a * X a v) 10 / 100 = _
  have e : sum10 (fun a => rS X 0 a * X a v) 10 = 1000000 * X 0 v := by
    rw [sum10_first _ 9, sum10_zero (f := fun i => rS X 0 (1 + i) * X (1 + i) v) 9 (fun i _ => by
      show (if 1 + i = 0 then 1000000 else 0) * X (1 + i) v = 0
      rw [if_neg (by omega), Nat.zero_mul])]
    show (if 0 = 0 then 1000000 else 0) * X 0 v + 0 = _
    rw [if_pos rfl, Nat.add_zero]
  rw [e]; omega
theorem rS_2 (X : Nat → Nat → Nat) (v : Nat) : rS X 2 v = 100 * sum10 (fun a => X 0 a * X a v) 10 := by
  show sum10 (fun a => rS X 1 a * X a v) 10 / 100 = _
  have e : sum10 (fun a => rS X 1 a * X a v) 10 = 10000 * sum10 (fun a => X 0 a * X a v) 10 := by
    rw [← sum10_mul]
    exact sum10_congr 10 (fun i _ => by rw [rS_1, Nat.mul_assoc])
  rw [e]; omega
theorem rS_3 (X : Nat → Nat → Nat) (v : Nat) : rS X 3 v = sum10 (fun b => sum10 (fun a => X 0 a * X a b) 10 * X b v) 10 := by
  show sum10 (fun a => rS X 2 a * X a v) 10 / 100 = _
  have e : sum10 (fun a => rS X 2 a * X a v) 10 = 100 * sum10 (fun b => sum10 (fun a => X 0 a * X a b) 10 * X b v) 10 := by
    rw [← sum10_mul]
    exact sum10_congr 10 (fun i _ => by rw [rS_2, Nat.mul_assoc])
  rw [e]; omega
theorem rT_3 {X : Nat → Nat → Nat} (h0 : X 0 0 = 0) (h1 : ∀ a, X 0 a * X a 0 = 0) (h2 : ∀ a b, X 0 a * X a b * X b 0 = 0) (v : Nat) : rT X 3 v = shrN X v := by
  have e : rT X 3 v = 0 + rS X 0 v + rS X 1 v + rS X 2 v + rS X 3 v := rfl
  have e0 : rS X 0 v = if v = 0 then 1000000 else 0 := rfl
  rw [e, e0, rS_1, rS_2, rS_3]
  unfold shrN
  by_cases g : v = 0
  · subst g
    have z2 : sum10 (fun b => sum10 (fun a => X 0 a * X a b) 10 * X b 0) 10 = 0 := sum10_zero 10 (fun b _ => by
      rw [← sum10_mulr]; exact sum10_zero 10 (fun a _ => h2 a b))
    rw [if_pos rfl, if_pos rfl, h0, sum10_zero (f := fun a => X 0 a * X a 0) 10 (fun i _ => h1 i), z2]
  · rw [if_neg g, if_neg g]; omega
theorem make_eq {u n s : Nat} {C M : Nat → Ent} {H : HS} (hC : HoldC n C H) (hE : EntRel u n C M) (hu : u ≤ 10) (hS : SpanOk n C H) (hs : s ≤ n) : ∃ T, fX1_makeSpan H (nI s) = some T ∧ FrH T H ∧ SpanOk n C T ∧ ∀ v, v < 10 → HS_spanShares T (s * 10 + v) = lN (shrN (matN C s) v) := by
  have bC := (entB hE hu).1
  have hn := hE.1
  obtain ⟨rk, hrk⟩ := hE.2.2.2.2.2.2.2
  obtain ⟨g, g1, g2⟩ := fillI 100 (HS_matrix H) 0 (by omega)
  have hC1 : HoldC n C (HS_matrix_s H g) := hC
  obtain ⟨y, y1, y2, y3, y4, y5, y6⟩ := mat_loop hC1 hn hs (fun i hi => ⟨(bC i hi).1, (bC i hi).2.1⟩) g2
  obtain ⟨p, p1, p2⟩ := fillJ 10 (HS_reached y.1) 0 (by omega)
  have i0 : inb (0 : Int32) 10 = true := by decide
  have e0 : (0 : Int32).toNatClampNeg = 0 := rfl
  have e10 : (10 : Int32).toNatClampNeg = 10 := rfl
  have es : nI s * (10 : Int32) = nI (s * 10) := by rw [ten_nI, pk_mul]
  have ok : okc (0 : Int32) (nI (s * 10)) (10 : Int32) 10 1010 = true := okc_nI (a := 0) (n := 10) (by omega) (by omega) (by omega) (by omega) (by omega)
  have es' : (nI (s * 10)).toNatClampNeg = s * 10 := nI_clamp (by omega)
  obtain ⟨q, hq⟩ : ∃ q, q = vp_updL p 0 1000000 := ⟨_, rfl⟩
  have q0 : ∀ v, v < 10 → q v = lN (rS (matN C s) 0 v) := by
    intro v hv
    rw [hq]
    show _ = lN (if v = 0 then 1000000 else 0)
    by_cases w : v = 0
    · subst w; rw [updL_s, if_pos rfl]; rfl
    · rw [updL_n _ _ w, if_neg w]; exact p2 v hv
  obtain ⟨Z, hZ⟩ : ∃ Z, Z = HS_reached_s (HS_spanShares_s y.1 (va_cpy q (HS_spanShares y.1) 0 (s * 10) 10)) q := ⟨_, rfl⟩
  have zF : FrH Z H := by rw [hZ]; exact FrH_tr y2 (FrH_rf H)
  have zX : ∀ a b, a < 10 → b < 10 → HS_matrix Z (10 * a + b) = nI (matN C s a b) := by rw [hZ]; exact y6
  have zr : ∀ v, v < 10 → HS_reached Z v = lN (rS (matN C s) 0 v) := by rw [hZ]; exact q0
  have zc : HS_spanShares Z = va_cpy q (HS_spanShares y.1) 0 (s * 10) 10 := by rw [hZ]; rfl
  have zm : HS_spanIsMade Z = HS_spanIsMade H := by rw [hZ]; exact y4
  have zp : ∀ v, v < 10 → HS_spanShares Z (s * 10 + v) = lN (rT (matN C s) 0 v) := by
    intro v hv
    rw [zc, pk_cpy_in (by omega) (by omega), show 0 + (s * 10 + v - s * 10) = v by omega, q0 v hv]
    show _ = lN (0 + rS (matN C s) 0 v)
    rw [Nat.zero_add]
  have zo : ∀ k, (k < s * 10 ∨ s * 10 + 10 ≤ k) → HS_spanShares Z k = HS_spanShares H k := by
    intro k hk
    rw [zc, pk_cpy_out (by omega), y3]; rfl
  obtain ⟨w, w1, w2, w3, w4, w5⟩ := steps_loop (H := Z) (X := matN C s) (nI s) (by omega : s ≤ 100) (matN_le (n := n) (fun i hi => (bC i hi).2.2.2.1) s hs) zX zr zp
  have is : inb (nI s) 101 = true := inb_nI (by omega) (by omega)
  have ds : (nI s).toNatClampNeg = s := nI_clamp (by omega)
  have sh : ∀ v, v < 10 → HS_spanShares w.1 (s * 10 + v) = lN (shrN (matN C s) v) := by
    intro v hv
    rw [w4 v hv, rT_3 (matN_00 hrk hs 0) (fun a => matN_2 hrk hs 0 a) (fun a b => matN_3 hrk hs 0 a b)]
  refine ⟨HS_spanIsMade_s w.1 (upd (HS_spanIsMade w.1) s 1), ?_, FrH_tr w2 zF, ?_, sh⟩
  · simp only [fX1_makeSpan, g1, Option.bind_some, y1, p1, i0, e0, e10, es, ok, es', ← hq, ← hZ, w1, is, ds, nar1, if_true]
  · intro r hr
    by_cases gr : r = s
    · subst gr; exact Or.inr sh
    · rcases hS r hr with a | a
      · left
        show upd (HS_spanIsMade w.1) s 1 r = 0
        rw [upd_n _ _ gr, w3, zm]; exact a
      · right
        intro v hv
        show HS_spanShares w.1 (r * 10 + v) = _
        rw [w5 _ (by omega), zo _ (by omega)]; exact a v hv
theorem shareIn_eq {u n s : Nat} {C M : Nat → Ent} {H : HS} (hC : HoldC n C H) (hE : EntRel u n C M) (hu : u ≤ 10) (hS : SpanOk n C H) (hs : s ≤ n) {v : Nat} (hv : v < 10) : ∃ T, fX1_shareIn H (nI s) (nI v) = some (lN (shrN (matN C s) v), T) ∧ FrH T H ∧ SpanOk n C T := by
  have hn := hE.1
  have is : inb (nI s) 101 = true := inb_nI (by omega) (by omega)
  have ds : (nI s).toNatClampNeg = s := nI_clamp (by omega)
  have ea : nI s * (10 : Int32) + nI v = nI (s * 10 + v) := by rw [ten_nI, pk_mul, nI_add]
  have ia : inb (nI (s * 10 + v)) 1010 = true := inb_nI (by omega) (by omega)
  have da : (nI (s * 10 + v)).toNatClampNeg = s * 10 + v := nI_clamp (by omega)
  by_cases g : HS_spanIsMade H s = 0
  · obtain ⟨T, t1, t2, t3, t4⟩ := make_eq hC hE hu hS hs
    exact ⟨T, by simp only [fX1_shareIn, fX1_shareIn_b14, is, ds, g, t1, Option.bind_some, ea, ia, da, t4 v hv, if_true], t2, t3⟩
  · rcases hS s hs with a | a
    · exact absurd a g
    · exact ⟨H, by simp only [fX1_shareIn, fX1_shareIn_b14, is, ds, g, ea, ia, da, a v hv, if_true, if_false], FrH_rf H, hS⟩
theorem shareOn_eq {u n s d : Nat} {C M : Nat → Ent} {H : HS} (hC : HoldC n C H) (hE : EntRel u n C M) (hu : u ≤ 10) (hS : SpanOk n C H) (hs : s ≤ n) (hd : fX1_spanOn H (nI d) = some (nI s)) {v : Nat} (hv : v < 10) : ∃ T, fX1_shareOn H (nI v) (nI d) = some (lN (shrN (matN C s) v), T) ∧ FrH T H ∧ SpanOk n C T := by
  obtain ⟨T, t1, t2, t3⟩ := shareIn_eq hC hE hu hS hs hv
  exact ⟨T, by simp only [fX1_shareOn, hd, Option.bind_some, t1], t2, t3⟩
/-- the ledger with other scratch in its holdings -/
def FrL (n : Nat) (C : Nat → Ent) (A B : LG) : Prop := LG_units A = LG_units B ∧ LG_R A = LG_R B ∧ LG_F A = LG_F B ∧ LG_S A = LG_S B ∧ HoldC n C (LG_H A) ∧ SpanOk n C (LG_H A)
theorem Rel_frL {k u n : Nat} {C M : Nat → Ent} {A B : LG} {m : MS} (h : Rel k B m) (hM : HoldM n M m) (hu : LG_units B = nI u) (hu2 : u ≤ 10) (hE : EntRel u n C M) (g : FrL n C A B) : Rel k A m := by
  obtain ⟨u', h1, h2, h3, h4, h5, h6, h7, h8⟩ := h
  obtain ⟨g1, g2, g3, g4, g5, g6⟩ := g
  have : u' = u := by rw [hu, nI_eq (by omega) (by omega)] at h3; exact h3.symm
  subst this
  exact ⟨u', h1, h2, g1.trans h3, h4, by rw [g2]; exact h5, by rw [g3]; exact h6, ⟨n, C, M, g5, hM, hE, g6⟩, by rw [g4]; exact h8⟩
theorem st_share {k : Nat} {lst : LG} {mst : MS} (hR : Rel k lst mst) (hk : k < 512) (z1 z2 : Int32) : ∃ (r : Int64) (lst2 : LG) (mst2 : MS), fX5_share lst z1 z2 = some (r, lst2) ∧ fX6_share mst z1 z2 = some (r, mst2) ∧ Rel (k + 1) lst2 mst2 := by
  have hR0 := hR
  obtain ⟨u, hu1, hu2, hl, hm, hRow, hF, h7, h8⟩ := hR
  have hm' : MS_units (MS_thrown_s mst 0) = nI u := hm
  have good : ∀ v : Int64, fX5_share lst z1 z2 = some (v, lst) → fX6_share mst z1 z2 = some (v, MS_thrown_s mst 0) → ∃ (r : Int64) (lst2 : LG) (mst2 : MS), fX5_share lst z1 z2 = some (r, lst2) ∧ fX6_share mst z1 z2 = some (r, mst2) ∧ Rel (k + 1) lst2 mst2 := fun v h1 h2 => ⟨v, _, _, h1, h2, Rel_up (Rel_thr hR0)⟩
  by_cases c1 : inb z1 u = true
  case neg => exact good (-1) (by simp [fX5_share, isUnit_eq hl hu2, c1]) (by simp [fX6_share, bnd, noUnit_eq hm' hu1 hu2, c1])
  by_cases c2 : inb z2 3650 = true
  case neg => exact good (-2) (by simp [fX5_share, isUnit_eq hl hu2, c1, isDay_eq, c2]) (by simp [fX6_share, bnd, noUnit_eq hm' hu1 hu2, c1, noDay_eq, c2])
  obtain ⟨n, C, M, hC, hM, hE, hSp⟩ := h7
  obtain ⟨a, ha, rfl⟩ := inb_of c1 (by omega)
  obtain ⟨d, hd, rfl⟩ := inb_of c2 (by omega)
  have hM' : HoldM n M (MS_thrown_s mst 0) := hM
  obtain ⟨s, T, s1, s2, s3, s4, s5, s6, s7⟩ := sharesM hC hM' hE hu2 hd
  obtain ⟨H', t1, t2, t3⟩ := shareOn_eq hC hE hu2 hSp s1 s2 (v := a) (by omega)
  have c4 : inb (nI a) 10 = true := inb_nI (by omega) (by omega)
  have c5 : (nI a).toNatClampNeg = a := nI_clamp (by omega)
  refine ⟨lN (shrN (matN C s) a), LG_mk H' (LG_R lst) (LG_F lst) (LG_S lst) (LG_units lst), T, ?_, ?_, Rel_up (Rel_fr (Rel_frL hR0 hM hl hu2 hE ⟨rfl, rfl, rfl, rfl, HoldC_fr hC t2, t3⟩) (FrA_tr s4 (FrA_s_thrown (FrA_rf mst) 0)))⟩
  · simp [fX5_share, isUnit_eq hl hu2, c1, isDay_eq, c2, t1]
  · simp only [fX6_share, bnd, noUnit_eq hm' hu1 hu2, c1, noDay_eq, c2, s3, Option.bind_some, c4, c5, if_true, s5 a (by omega)]
