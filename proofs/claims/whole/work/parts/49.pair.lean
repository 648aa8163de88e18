/-! ledger and reference side by side -/
theorem loop_two {σ τ ρ ρ' : Type} {A : σ → Option (σ ⊕ ρ)} {B : τ → Option (τ ⊕ ρ')} (I : Nat → σ → τ → Prop) (Q : ρ → ρ' → Prop) (N : Nat)
    (hs : ∀ i s t, i < N → I i s t → (∃ s' t', A s = some (.inl s') ∧ B t = some (.inl t') ∧ I (i + 1) s' t') ∨ (∃ r r', A s = some (.inr r) ∧ B t = some (.inr r') ∧ Q r r'))
    (he : ∀ s t, I N s t → ∃ r r', A s = some (.inr r) ∧ B t = some (.inr r') ∧ Q r r') :
    ∀ (fu i : Nat) (s : σ) (t : τ), i ≤ N → I i s t → N - i < fu → ∃ r r', loopN A fu s = some r ∧ loopN B fu t = some r' ∧ Q r r' := by
  intro fu
  induction fu with
  | zero => intro i s t _ _ h; omega
  | succ fu ih =>
    intro i s t hi hI hf
    have fin : (∃ r r', A s = some (.inr r) ∧ B t = some (.inr r') ∧ Q r r') → ∃ r r', loopN A (fu + 1) s = some r ∧ loopN B (fu + 1) t = some r' ∧ Q r r' := by
      rintro ⟨r, r', h1, h2, h3⟩
      exact ⟨r, r', by simp [loopN, h1], by simp [loopN, h2], h3⟩
    by_cases hn : i = N
    · subst hn; exact fin (he s t hI)
    · rcases hs i s t (by omega) hI with ⟨s', t', h1, h2, h3⟩ | h
      · obtain ⟨r, r', h4, h5, h6⟩ := ih (i + 1) s' t' (by omega) h3 (by omega)
        exact ⟨r, r', by simp [loopN, h1, h4], by simp [loopN, h2, h5], h6⟩
      · exact fin h
theorem loop_g {σ τ ρ ρ' : Type} {A : σ → Option (σ ⊕ ρ)} {B : τ → Option (τ ⊕ ρ')} (I : Nat → σ → τ → Prop) (Q : ρ → ρ' → Prop) (N : Nat) (hN : N < 100000) {s : σ} {t : τ} (h0 : I 0 s t)
    (hs : ∀ i s t, i < N → I i s t → (∃ s' t', A s = some (.inl s') ∧ B t = some (.inl t') ∧ I (i + 1) s' t') ∨ (∃ r r', A s = some (.inr r) ∧ B t = some (.inr r') ∧ Q r r'))
    (he : ∀ s t, I N s t → ∃ r r', A s = some (.inr r) ∧ B t = some (.inr r') ∧ Q r r') : ∃ r r', loopN A fuelN s = some r ∧ loopN B fuelN t = some r' ∧ Q r r' :=
  loop_two I Q N hs he fuelN 0 s t (Nat.zero_le _) h0 (by unfold fuelN; omega)
/-- the span of a day -/
def IsSp (n : Nat) (C : Nat → Ent) (d s : Nat) : Prop := s ≤ n ∧ (∀ i, i < s → (C i).2.2.2 ≤ d) ∧ (∀ i, s ≤ i → i < n → d < (C i).2.2.2)
theorem IsSp_one {n d s t : Nat} {C : Nat → Ent} (h : IsSp n C d s) (g : IsSp n C d t) : s = t := by
  obtain ⟨h1, h2, h3⟩ := h
  obtain ⟨g1, g2, g3⟩ := g
  rcases Nat.lt_trichotomy s t with w | w | w
  · have a := g2 s w
    have b := h3 s (Nat.le_refl _) (by omega)
    omega
  · exact w
  · have a := h2 t w
    have b := g3 t (Nat.le_refl _) (by omega)
    omega
theorem IsSp_ex {u n d : Nat} {C M : Nat → Ent} {H : HS} (hC : HoldC n C H) (hE : EntRel u n C M) (hu : u ≤ 10) (hd : d < 3650) : ∃ s, IsSp n C d s ∧ fX1_spanOn H (nI d) = some (nI s) := by
  obtain ⟨t, t1, t2, t3, t4⟩ := span_ex hC hE.1 (fun i hi => ((entB hE hu).1 i hi).2.2.1) hE.2.2.2.2.2.2.1 hd
  exact ⟨t, ⟨t1, t2, t3⟩, t4⟩
theorem spC {u n d s : Nat} {C M : Nat → Ent} {H : HS} (hC : HoldC n C H) (hE : EntRel u n C M) (hu : u ≤ 10) (hd : d < 3650) (hs : IsSp n C d s) : fX1_spanOn H (nI d) = some (nI s) := by
  obtain ⟨t, t1, t2⟩ := IsSp_ex hC hE hu hd
  rw [IsSp_one hs t1]; exact t2
theorem shA {u n d s : Nat} {C M : Nat → Ent} {A B : LG} (hE : EntRel u n C M) (hu : u ≤ 10) (hd : d < 3650) (hs : IsSp n C d s) (g : FrL n C A B) {v : Nat} (hv : v < 10) : ∃ H', fX1_shareOn (LG_H A) (nI v) (nI d) = some (lN (shrN (matN C s) v), H') ∧ FrL n C (LG_mk H' (LG_R A) (LG_F A) (LG_S A) (LG_units A)) B := by
  obtain ⟨g1, g2, g3, g4, g5, g6⟩ := g
  obtain ⟨H', t1, t2, t3⟩ := shareOn_eq g5 hE hu g6 hs.1 (spC g5 hE hu hd hs) hv
  exact ⟨H', t1, g1, g2, g3, g4, HoldC_fr g5 t2, t3⟩
theorem shB {u n d s : Nat} {C M : Nat → Ent} {H : HS} {T m : MS} (hC : HoldC n C H) (hM : HoldM n M m) (hE : EntRel u n C M) (hu : u ≤ 10) (hd : d < 3650) (hs : IsSp n C d s) (g : FrA T m) : ∃ T', fX6_shares T (nI d) = some T' ∧ FrA T' m ∧ ∀ v, v < 10 → MS_share T' v = lN (shrN (matN C s) v) := by
  obtain ⟨t, T', t1, t2, t3, t4, t5, t6, t7⟩ := sharesM hC (HoldM_fr hM g) hE hu hd
  rw [IsSp_one hs ⟨t1, t6, t7⟩]
  exact ⟨T', t3, FrA_tr t4 g, t5⟩
theorem shrN_le {X : Nat → Nat → Nat} (h : ∀ a b, X a b ≤ 100) (v : Nat) : shrN X v ≤ 111000000 := by
  unfold shrN
  split
  · omega
  · have a := h 0 v
    have b := sum10_bound (f := fun a => X 0 a * X a v) (B := 100 * 100) (fun a => Nat.mul_le_mul (h 0 a) (h a v)) 10
    have c := sum10_bound (f := fun b => sum10 (fun a => X 0 a * X a b) 10 * X b v) (B := 10 * (100 * 100) * 100) (fun b => Nat.mul_le_mul (sum10_bound (fun a => Nat.mul_le_mul (h 0 a) (h a b)) 10) (h b v)) 10
    generalize sum10 (fun a => X 0 a * X a v) 10 = p at b ⊢
    generalize sum10 (fun b => sum10 (fun a => X 0 a * X a b) 10 * X b v) 10 = q at c ⊢
    omega
theorem shr_b {u n s : Nat} {C M : Nat → Ent} (hE : EntRel u n C M) (hu : u ≤ 10) (hs : s ≤ n) (v : Nat) : shrN (matN C s) v < 2 ^ 31 := by
  have := shrN_le (matN_le (n := n) (fun i hi => ((entB hE hu).1 i hi).2.2.2.1) s hs) v
  omega
theorem cmp_le0 {x : Nat} (h : x < 2 ^ 31) : lg_cmp (lN x) (0 : Int64) ≤ 0 ↔ x = 0 := by
  have a := cmp_gt (lN x) 0
  have b := lN_lt (a := 0) (b := x) (by omega) h
  have e : lN 0 = 0 := rfl
  rw [e] at b
  rw [← Int32.not_lt, a, b]; omega
theorem cmp_eq0 {x : Nat} (h : x < 2 ^ 31) : lg_cmp (lN x) (0 : Int64) = 0 ↔ x = 0 := by
  have b := lN_eq (a := x) (b := 0) h (by omega)
  have e : lN 0 = 0 := rfl
  rw [e] at b
  rw [cmp_eq, b]
theorem dbl_eq {u n d s i : Nat} {C M : Nat → Ent} {lst A : LG} {m T : MS} (hE : EntRel u n C M) (hu : u ≤ 10) (hC : HoldC n C (LG_H lst)) (hM : HoldM n M m) (r1 : RS_unit (LG_R lst) = MS_unitOf m) (r5 : RS_seller (LG_R lst) = MS_seller m) (hi : i < 200) (hok : RowOk u (LG_R lst) i) (hd : d < 3650) (hs : IsSp n C d s) (g : FrL n C A lst) (f : FrA T m) : ∃ (r : Int32) (A' : LG) (T' : MS), (r = 0 ∨ r = 1) ∧ fX5_isDouble A (nI i) (nI d) = some (r, A') ∧ fX6_isDouble T (nI i) (nI d) = some (r, T') ∧ FrL n C A' lst ∧ FrA T' m ∧ ∀ a, a < 10 → RS_unit (LG_R lst) i = nI a → shrN (matN C s) a = 0 → r = 0 := by
  obtain ⟨⟨a, ha, ea⟩, -, hsel, -⟩ := hok
  have gA : LG_R A = LG_R lst := g.2.1
  have ct : inb (nI i) 200 = true := inb_nI hi (by omega)
  have cl : (nI i).toNatClampNeg = i := nI_clamp (by omega)
  have un : ∀ a', a' < 10 → RS_unit (LG_R lst) i = nI a' → a' = a := by
    intro a' h1 h2
    rw [ea, nI_eq (by omega) (by omega)] at h2; exact h2.symm
  by_cases q : RS_seller (LG_R lst) i = -9
  · exact ⟨0, A, T, Or.inl rfl, by simp only [fX5_isDouble, ct, cl, gA, q, if_true], by simp only [fX6_isDouble, ct, cl, FrA_seller f, ← r5, q, if_true], g, f, fun _ _ _ _ => rfl⟩
  · obtain ⟨b, hb, eb⟩ := hsel.resolve_left q
    have q' : ¬ nI b = -9 := by rw [← eb]; exact q
    obtain ⟨H1, x1, x2⟩ := shA hE hu hd hs g (v := a) (by omega)
    obtain ⟨T1, y1, y2, y3⟩ := shB hC hM hE hu hd hs f
    have ca : inb (nI a) 10 = true := inb_nI (by omega) (by omega)
    have da : (nI a).toNatClampNeg = a := nI_clamp (by omega)
    have cb : inb (nI b) 10 = true := inb_nI (by omega) (by omega)
    have db : (nI b).toNatClampNeg = b := nI_clamp (by omega)
    have va := y3 a (by omega)
    have vb := y3 b (by omega)
    by_cases p : shrN (matN C s) a = 0
    · have z := (cmp_le0 (shr_b hE hu hs.1 a)).mpr p
      refine ⟨0, _, T1, Or.inl rfl, ?_, ?_, x2, y2, fun _ _ _ _ => rfl⟩
      · simp only [fX5_isDouble, ct, cl, gA, eb, q', ea, x1, Option.bind_some, z, if_true, if_false]
      · simp only [fX6_isDouble, ct, cl, FrA_seller f, FrA_unitOf y2, ← r5, ← r1, eb, q', ea, y1, Option.bind_some, ca, da, va, z, if_true, if_false]
    · have z : ¬ lg_cmp (lN (shrN (matN C s) a)) (0 : Int64) ≤ 0 := fun w => p ((cmp_le0 (shr_b hE hu hs.1 a)).mp w)
      obtain ⟨H2, w1, w2⟩ := shA hE hu hd hs x2 (v := b) (by omega)
      have w1' : fX1_shareOn H1 (nI b) (nI d) = some (lN (shrN (matN C s) b), H2) := w1
      have w2' : FrL n C (LG_mk H2 (LG_R lst) (LG_F A) (LG_S A) (LG_units A)) lst := by rw [← gA]; exact w2
      have no : ∀ a', a' < 10 → RS_unit (LG_R lst) i = nI a' → shrN (matN C s) a' = 0 → False := fun a' h1 h2 h3 => p (by rw [← un a' h1 h2]; exact h3)
      by_cases p2 : shrN (matN C s) b = 0
      · have z2 := (cmp_le0 (shr_b hE hu hs.1 b)).mpr p2
        refine ⟨0, _, T1, Or.inl rfl, ?_, ?_, w2', y2, fun _ _ _ _ => rfl⟩
        · simp only [fX5_isDouble, ct, cl, gA, eb, q', ea, x1, w1', Option.bind_some, z, z2, if_true, if_false]
        · simp only [fX6_isDouble, ct, cl, FrA_seller f, FrA_seller y2, FrA_unitOf y2, ← r5, ← r1, eb, q', ea, y1, Option.bind_some, ca, da, va, cb, db, vb, z, z2, if_true, if_false]
      · have z2 : ¬ lg_cmp (lN (shrN (matN C s) b)) (0 : Int64) ≤ 0 := fun w => p2 ((cmp_le0 (shr_b hE hu hs.1 b)).mp w)
        refine ⟨1, _, T1, Or.inr rfl, ?_, ?_, w2', y2, fun a' h1 h2 h3 => (no a' h1 h2 h3).elim⟩
        · simp only [fX5_isDouble, ct, cl, gA, eb, q', ea, x1, w1', Option.bind_some, z, z2, if_true, if_false]
        · simp only [fX6_isDouble, ct, cl, FrA_seller f, FrA_seller y2, FrA_unitOf y2, ← r5, ← r1, eb, q', ea, y1, Option.bind_some, ca, da, va, cb, db, vb, z, z2, if_true, if_false]
theorem FrL_rf {n : Nat} {C : Nat → Ent} {A : LG} (h1 : HoldC n C (LG_H A)) (h2 : SpanOk n C (LG_H A)) : FrL n C A A := ⟨rfl, rfl, rfl, rfl, h1, h2⟩
theorem st_told {k : Nat} {lst : LG} {mst : MS} (hR : Rel k lst mst) (hk : k < 512) (z1 z2 : Int32) : ∃ (r : Int32) (lst2 : LG) (mst2 : MS), fX5_told lst z1 z2 = some (r, lst2) ∧ fX6_told mst z1 z2 = some (r, mst2) ∧ Rel (k + 1) lst2 mst2 := by
  have hR0 := hR
  obtain ⟨u, hu1, hu2, hl, hm, hRow, hF, h7, h8⟩ := hR
  obtain ⟨r1, r2, r3, r4, r5, r6, r7, nr, hnr, hrs, hrok, hcov⟩ := hRow
  have hr : MS_rows (MS_thrown_s mst 0) = nI nr := by rw [← hrs, r7]; rfl
  have r1' : MS_unitOf (MS_thrown_s mst 0) = RS_unit (LG_R lst) := r1.symm
  have r2' : MS_kind (MS_thrown_s mst 0) = RS_kind (LG_R lst) := r2.symm
  have r3' : MS_amount (MS_thrown_s mst 0) = RS_amount (LG_R lst) := r3.symm
  have r4' : MS_day (MS_thrown_s mst 0) = RS_day (LG_R lst) := r4.symm
  have r5' : MS_seller (MS_thrown_s mst 0) = RS_seller (LG_R lst) := r5.symm
  have r6' : MS_covered (MS_thrown_s mst 0) = RS_covered (LG_R lst) := r6.symm
  have good : ∀ v : Int32, fX5_told lst z1 z2 = some (v, lst) → fX6_told mst z1 z2 = some (v, MS_thrown_s mst 0) → ∃ (r : Int32) (lst2 : LG) (mst2 : MS), fX5_told lst z1 z2 = some (r, lst2) ∧ fX6_told mst z1 z2 = some (r, mst2) ∧ Rel (k + 1) lst2 mst2 := fun v h1 h2 => ⟨v, _, _, h1, h2, Rel_up (Rel_thr hR0)⟩
  by_cases c1 : inb z1 nr = true
  case neg => exact good (-1) (by simp [fX5_told, isRow_eq hrs hnr, c1]) (by simp [fX6_told, bnd, noRow_eq hr hnr, c1])
  obtain ⟨i, hi, rfl⟩ := inb_of c1 (by omega)
  have ct : inb (nI i) 200 = true := inb_nI (by omega) (by omega)
  have cl : (nI i).toNatClampNeg = i := nI_clamp (by omega)
  by_cases g0 : z2 = 0
  · subst g0
    exact good (RS_unit (LG_R lst) i) (by simp [fX5_told, isRow_eq hrs hnr, c1, ct, cl]) (by simp [fX6_told, bnd, noRow_eq hr hnr, c1, ct, cl, r1'])
  by_cases g1 : z2 = 1
  · subst g1
    exact good (RS_kind (LG_R lst) i) (by simp [fX5_told, isRow_eq hrs hnr, c1, ct, cl]) (by simp [fX6_told, bnd, noRow_eq hr hnr, c1, ct, cl, r2'])
  by_cases g2 : z2 = 2
  · subst g2
    exact good (RS_amount (LG_R lst) i) (by simp [fX5_told, isRow_eq hrs hnr, c1, ct, cl]) (by simp [fX6_told, bnd, noRow_eq hr hnr, c1, ct, cl, r3'])
  by_cases g3 : z2 = 3
  · subst g3
    exact good (RS_day (LG_R lst) i) (by simp [fX5_told, isRow_eq hrs hnr, c1, ct, cl]) (by simp [fX6_told, bnd, noRow_eq hr hnr, c1, ct, cl, r4'])
  by_cases g4 : z2 = 4
  · subst g4
    exact good (RS_seller (LG_R lst) i) (by simp [fX5_told, isRow_eq hrs hnr, c1, ct, cl]) (by simp [fX6_told, bnd, noRow_eq hr hnr, c1, ct, cl, r5'])
  by_cases g6 : z2 = 6
  · subst g6
    exact good (RS_covered (LG_R lst) i) (by simp [fX5_told, isRow_eq hrs hnr, c1, ct, cl]) (by simp [fX6_told, bnd, noRow_eq hr hnr, c1, ct, cl, r6'])
  by_cases g5 : z2 = 5
  case neg => exact good (-2) (by simp [fX5_told, isRow_eq hrs hnr, c1, g0, g1, g2, g3, g4, g5, g6]) (by simp [fX6_told, bnd, noRow_eq hr hnr, c1, g0, g1, g2, g3, g4, g5, g6])
  subst g5
  obtain ⟨n, C, M, hC, hM, hE, hSp⟩ := h7
  obtain ⟨d, hd, ed⟩ := (hrok i hi).2.1
  obtain ⟨s, hs, -⟩ := IsSp_ex hC hE hu2 hd
  obtain ⟨r, A', T', b1, b2, b3, b4, b5, -⟩ := dbl_eq hE hu2 hC hM r1 r5 (by omega : i < 200) (hrok i hi) hd hs (FrL_rf hC hSp) (FrA_s_thrown (FrA_rf mst) 0)
  refine ⟨r, A', T', ?_, ?_, Rel_up (Rel_fr (Rel_frL hR0 hM hl hu2 hE b4) b5)⟩
  · rcases b1 with rfl | rfl
    · simp [fX5_told, isRow_eq hrs hnr, c1, ct, cl, ed, b2]
    · simp [fX5_told, isRow_eq hrs hnr, c1, ct, cl, ed, b2]
  · rcases b1 with rfl | rfl
    · simp [fX6_told, bnd, noRow_eq hr hnr, c1, ct, cl, r4', ed, b3]
    · simp [fX6_told, bnd, noRow_eq hr hnr, c1, ct, cl, r4', ed, b3]
theorem isOfYear_eq (R : RS) {i : Nat} (hi : i < 200) (y : Int32) : fX2_isOfYear R (nI i) y = some (if RS_day R i / 365 = y then 1 else 0) := by
  have ct : inb (nI i) 200 = true := inb_nI hi (by omega)
  have cl : (nI i).toNatClampNeg = i := nI_clamp (by omega)
  unfold fX2_isOfYear fX2_yearOf
  simp only [ct, cl, if_true, Option.bind_some]
  by_cases h : RS_day R i / 365 = y
  · simp [h]
  · simp [h]
theorem st_doubles {k : Nat} {lst : LG} {mst : MS} (hR : Rel k lst mst) (hk : k < 512) (z1 : Int32) : ∃ (r : Int32) (lst2 : LG) (mst2 : MS), fX5_doubles lst z1 = some (r, lst2) ∧ fX6_doubles mst z1 = some (r, mst2) ∧ Rel (k + 1) lst2 mst2 := by
  have hR0 := hR
  obtain ⟨u, hu1, hu2, hl, hm, hRow, hF, h7, h8⟩ := hR
  obtain ⟨r1, r2, r3, r4, r5, r6, r7, nr, hnr, hrs, hrok, hcov⟩ := hRow
  by_cases c1 : inb z1 10 = true
  case neg => exact ⟨-2, lst, MS_thrown_s mst 0, by simp [fX5_doubles, isYear_eq, c1], by simp [fX6_doubles, bnd, noYear_eq, c1], Rel_up (Rel_thr hR0)⟩
  obtain ⟨n, C, M, hC, hM, hE, hSp⟩ := h7
  have hr : MS_rows mst = nI nr := by rw [← hrs, r7]
  have key : ∃ r r', loopN (fun (s : LG × Int32 × Int32) => fX5_doubles_l14 z1 s.1 s.2.1 s.2.2) fuelN (lst, (0 : Int32), (0 : Int32)) = some r ∧ loopN (fun (s : MS × Int32 × Int32) => fX6_doubles_l19 z1 s.1 s.2.1 s.2.2) fuelN (MS_thrown_s mst 0, (0 : Int32), (0 : Int32)) = some r' ∧ FrL n C r.1 lst ∧ FrA r'.1 mst ∧ r.2.1 = r'.2.1 := by
    refine loop_g (fun (i : Nat) (s : LG × Int32 × Int32) (t : MS × Int32 × Int32) => FrL n C s.1 lst ∧ FrA t.1 mst ∧ s.2.1 = t.2.1 ∧ s.2.2 = nI i ∧ t.2.2 = nI i) _ nr (by omega) ⟨FrL_rf hC hSp, FrA_s_thrown (FrA_rf mst) 0, rfl, rfl, rfl⟩ ?_ ?_
    · rintro i ⟨A, x, p⟩ ⟨T, y, q⟩ hi ⟨a1, a2, a3, a4, a5⟩
      simp only at a1 a2 a3 a4 a5
      subst a3; subst a4; subst a5
      left
      have gR : LG_R A = LG_R lst := a1.2.1
      have c2 : ¬ nI nr ≤ nI i := by rw [nI_leI (by omega) (by omega)]; omega
      have ct : inb (nI i) 200 = true := inb_nI (by omega) (by omega)
      have cl : (nI i).toNatClampNeg = i := nI_clamp (by omega)
      have oy := isOfYear_eq (LG_R lst) (by omega : i < 200) z1
      obtain ⟨d, hd, ed⟩ := (hrok i hi).2.1
      by_cases gy : RS_day (LG_R lst) i / 365 = z1
      · rw [if_pos gy] at oy
        obtain ⟨s, hs, -⟩ := IsSp_ex hC hE hu2 hd
        obtain ⟨r, A', T', b1, b2, b3, b4, b5, -⟩ := dbl_eq hE hu2 hC hM r1 r5 (by omega : i < 200) (hrok i hi) hd hs a1 a2
        rw [ed] at gy
        rcases b1 with rfl | rfl
        · refine ⟨(A', x, nI (i + 1)), (T', x, nI (i + 1)), ?_, ?_, b4, b5, rfl, rfl, rfl⟩
          · simp [fX5_doubles_l14, fX5_doubles_b57, gR, hrs, c2, oy, ct, cl, ed, b2, nI_1]
          · simp [fX6_doubles_l19, fX6_doubles_b60, fX6_doubles_b61, FrA_rows a2, FrA_day a2, hr, ← r4, c2, ct, cl, ed, gy, b3, nI_1]
        · refine ⟨(A', x + 1, nI (i + 1)), (T', x + 1, nI (i + 1)), ?_, ?_, b4, b5, rfl, rfl, rfl⟩
          · simp [fX5_doubles_l14, fX5_doubles_b57, gR, hrs, c2, oy, ct, cl, ed, b2, nI_1]
          · simp [fX6_doubles_l19, fX6_doubles_b60, fX6_doubles_b61, FrA_rows a2, FrA_day a2, hr, ← r4, c2, ct, cl, ed, gy, b3, nI_1]
      · rw [if_neg gy] at oy
        rw [ed] at gy
        refine ⟨(A, x, nI (i + 1)), (T, x, nI (i + 1)), ?_, ?_, a1, a2, rfl, rfl, rfl⟩
        · simp [fX5_doubles_l14, fX5_doubles_b57, gR, hrs, c2, oy, nI_1]
        · simp [fX6_doubles_l19, fX6_doubles_b60, fX6_doubles_b61, FrA_rows a2, FrA_day a2, hr, ← r4, c2, ct, cl, ed, gy, nI_1]
    · rintro ⟨A, x, p⟩ ⟨T, y, q⟩ ⟨a1, a2, a3, a4, a5⟩
      simp only at a1 a2 a3 a4 a5
      subst a3; subst a4; subst a5
      have gR : LG_R A = LG_R lst := a1.2.1
      have c2 : nI nr ≤ nI nr := Int32.le_refl _
      exact ⟨(A, x, nI nr), (T, x, nI nr), by simp only [fX5_doubles_l14, gR, hrs, c2, if_true], by simp only [fX6_doubles_l19, FrA_rows a2, hr, c2, if_true], a1, a2, rfl⟩
  obtain ⟨⟨A, x, p⟩, ⟨T, y, q⟩, k1, k2, k3, k4, k5⟩ := key
  simp only at k3 k4 k5
  subst k5
  refine ⟨x, A, T, ?_, ?_, Rel_up (Rel_fr (Rel_frL hR0 hM hl hu2 hE k3) k4)⟩
  · simp [fX5_doubles, isYear_eq, c1, k1]
  · simp [fX6_doubles, bnd, noYear_eq, c1, k2]
