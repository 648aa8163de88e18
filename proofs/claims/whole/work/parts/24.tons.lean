/-! tons; what changed -/
theorem loop_sim {σ ρ ρ' : Type} {A : σ → Option (σ ⊕ ρ)} {B : σ → Option (σ ⊕ ρ')} (I : σ → Prop) (g : ρ → ρ') (h : ∀ s, I s → (∃ s', A s = some (.inl s') ∧ B s = some (.inl s') ∧ I s') ∨ (∃ r, A s = some (.inr r) ∧ B s = some (.inr (g r)))) : ∀ fu s, I s → loopN B fu s = (loopN A fu s).map g := by
  intro fu
  induction fu with
  | zero => intro s _; rfl
  | succ fu ih =>
    intro s hs
    rcases h s hs with ⟨s', h1, h2, h3⟩ | ⟨r, h1, h2⟩
    · simp only [loopN, h1, h2, Option.bind_some, Sum.elim_inl]
      exact ih s' h3
    · simp only [loopN, h1, h2, Option.bind_some, Sum.elim_inr, Option.map_some]
theorem nx_eq' (x : Int32) {n : Nat} (hn : n < 2 ^ 30) : (fX6_in (Int32.toInt64 x) 0 (Int32.toInt64 (nI n - 1))).bind (fun r => if r = 0 then some (1 : Int32) else some 0) = some (if inb x n = true then 0 else 1) := by
  by_cases h0 : n = 0
  · subst h0
    have : ¬ inb x 0 = true := by rw [inb_iff]; omega
    have e : (Int32.toInt64 (nI 0 - 1)).toInt = -1 := by decide
    rw [in_eq, e]
    have t0 : (0 : Int64).toInt = 0 := rfl
    rw [if_neg (by rw [t0]; omega)]
    simp [this]
  · exact nx_eq x _ n (sub1_toInt (by omega) hn)
theorem isRow_eq {st : LG} {n : Nat} (hs : RS_size (LG_R st) = nI n) (hn : n ≤ 200) (x : Int32) : fX5_isRow st x = some (if inb x n = true then 1 else 0) := by
  unfold fX5_isRow; rw [hs]; exact chk_eq x (by omega)
theorem noRow_eq {st : MS} {n : Nat} (hs : MS_rows st = nI n) (hn : n ≤ 200) (x : Int32) : fX6_noRow st x = some (if inb x n = true then 0 else 1) := by
  unfold fX6_noRow; rw [hs]; exact nx_eq' x (by omega)
def tonS (R : RS) (F : FS) (n i : Nat) (as mk h : Int32) : Int64 := if facS F n (RS_kind R i) (RS_day R i / 365) as h = -9 then -9 else Int32.toInt64 (if mk = 0 then RS_amount R i else if RS_kind R i = 1 then RS_amount R i - RS_covered R i else RS_amount R i) * Int32.toInt64 (facS F n (RS_kind R i) (RS_day R i / 365) as h)
theorem versionOf_eq {st : LG} {n i : Nat} (hs : FS_size (LG_F st) = nI n) (hn : n ≤ 80) (hi : i < 200) (as : Int32) (ha : as = -9 ∨ inb as n = true) : fX5_versionOf st (nI i) as = some (verS (FS_kind (LG_F st)) (FS_year (LG_F st)) (RS_kind (LG_R st) i) (RS_day (LG_R st) i / 365) (asN n as)) := by
  have c2 : inb (nI i) 200 = true := inb_nI hi (by omega)
  have cl : (nI i).toNatClampNeg = i := nI_clamp (by omega)
  simp only [fX5_versionOf, fX2_yearOf, c2, cl, if_true, Option.bind_some, verC hn hs _ _ as ha]
theorem tonC {st : LG} {n i : Nat} (hs : FS_size (LG_F st) = nI n) (hn : n ≤ 80) (hi : i < 200) (wa wm wo wh : Int32) (ha : wa = -9 ∨ inb wa n = true) : fX5_tonsOf wa wm wo wh st (nI i) = some (tonS (LG_R st) (LG_F st) n i wa wm wh) := by
  have c2 : inb (nI i) 200 = true := inb_nI hi (by omega)
  have cl : (nI i).toNatClampNeg = i := nI_clamp (by omega)
  unfold fX5_tonsOf
  rw [versionOf_eq hs hn hi wa ha]
  simp only [Option.bind_some]
  rw [endC (LG_F st) _ wh hn (verS_n _ _ _ _ wa hn ha)]
  simp only [Option.bind_some]
  unfold tonS facS
  by_cases h1 : endS (FS_low (LG_F st)) (FS_high (LG_F st)) (verS (FS_kind (LG_F st)) (FS_year (LG_F st)) (RS_kind (LG_R st) i) (RS_day (LG_R st) i / 365) (asN n wa)) wh = -9
  · rw [if_pos h1, if_pos h1]
  · rw [if_neg h1, if_neg h1]
    by_cases h2 : wm = 0
    · simp only [h2, if_true, fX5_tonsOf_b55, fX5_tonsOf_b56, fX5_tonsOf_b83, c2, cl]
    · by_cases h3 : RS_kind (LG_R st) i = 1
      · have h4 : ¬ (1 : Int32) = 0 := by decide
        simp only [h2, h3, h4, if_true, if_false, fX5_tonsOf_b56, fX5_tonsOf_b83, c2, cl, fX2_uncovered, Option.bind_some]
      · simp only [h2, h3, if_true, if_false, fX5_tonsOf_b55, fX5_tonsOf_b56, fX5_tonsOf_b83, c2, cl]
theorem tonM {R : RS} {F : FS} {m : MS} {n i : Nat} (e1 : FS_kind F = MS_ofKind m) (e2 : FS_year F = MS_ofYear m) (e3 : FS_low F = MS_low m) (e4 : FS_high F = MS_high m) (r2 : RS_kind R = MS_kind m) (r3 : RS_amount R = MS_amount m) (r4 : RS_day R = MS_day m) (r6 : RS_covered R = MS_covered m) (hn : n ≤ 80) (hs : MS_versions m = nI n) (hi : i < 200) (as mk h : Int32) (ha : as = -9 ∨ inb as n = true) : fX6_tonsOf m (nI i) as mk h = some (tonS R F n i as mk h) := by
  have c2 : inb (nI i) 200 = true := inb_nI hi (by omega)
  have cl : (nI i).toNatClampNeg = i := nI_clamp (by omega)
  unfold fX6_tonsOf tonS
  simp only [c2, cl, if_true]
  rw [facM e1 e2 e3 e4 hn hs _ _ as h ha, ← r2, ← r3, ← r4, ← r6]
  simp only [Option.bind_some]
  generalize facS F n (RS_kind R i) (RS_day R i / 365) as h = f
  have z : RS_amount R i - 0 = RS_amount R i := Int32.sub_zero _
  by_cases h2 : mk = 0
  · simp only [h2, if_true, fX6_tonsOf_b54, fX6_tonsOf_b55, z]
    split <;> rfl
  · by_cases h3 : RS_kind R i = 1
    · simp only [h2, h3, if_true, if_false, fX6_tonsOf_b55]
      split <;> rfl
    · simp only [h2, h3, if_true, if_false, fX6_tonsOf_b54, fX6_tonsOf_b55, z]
      split <;> rfl
theorem st_tons {k : Nat} {lst : LG} {mst : MS} (hR : Rel k lst mst) (hk : k < 512) (z1 z2 z3 z4 : Int32) (hz3 : isB z3 = true) (hz4 : isB z4 = true) : ∃ (r : Int64) (lst2 : LG) (mst2 : MS), fX5_tons lst z1 z2 z3 z4 = some (r, lst2) ∧ fX6_tons mst z1 z2 z3 z4 = some (r, mst2) ∧ Rel (k + 1) lst2 mst2 := by
  have hR0 := hR
  obtain ⟨u, hu1, hu2, hl, hm, hRow, hF, h7, h8⟩ := hR
  obtain ⟨r1, r2, r3, r4, r5, r6, r7, nr, hnr, hrs, hrok, hcov⟩ := hRow
  obtain ⟨e1, e2, e3, e4, e5, n, hn, hsz, hok⟩ := hF
  have hv : MS_versions (MS_thrown_s mst 0) = nI n := by rw [← hsz, e5]; rfl
  have hr : MS_rows (MS_thrown_s mst 0) = nI nr := by rw [← hrs, r7]; rfl
  have hb0 : isB 0 = true := by decide
  have good : ∀ v : Int64, fX5_tons lst z1 z2 z3 z4 = some (v, lst) → fX6_tons mst z1 z2 z3 z4 = some (v, MS_thrown_s mst 0) → ∃ (r : Int64) (lst2 : LG) (mst2 : MS), fX5_tons lst z1 z2 z3 z4 = some (r, lst2) ∧ fX6_tons mst z1 z2 z3 z4 = some (r, mst2) ∧ Rel (k + 1) lst2 mst2 := fun v h1 h2 => ⟨v, lst, _, h1, h2, Rel_up (Rel_thr hR0)⟩
  by_cases c1 : inb z1 nr = true
  case neg => exact good (-1) (by simp [fX5_tons, isRow_eq hrs hnr, c1]) (by simp [fX6_tons, fX6_tons_b21, bnd, noRow_eq hr hnr, c1])
  by_cases c2 : z2 = -9 ∨ inb z2 n = true
  case neg => exact good (-1) (by simp [fX5_tons, isRow_eq hrs hnr, c1, isAsOf_eq hsz hn, c2]) (by simp [fX6_tons, fX6_tons_b21, bnd, noRow_eq hr hnr, c1, noAs_eq hv hn, c2])
  obtain ⟨i, hi, rfl⟩ := inb_of c1 (by omega)
  refine good (tonS (LG_R lst) (LG_F lst) n i z2 z3 z4) ?_ ?_
  · simp [fX5_tons, isRow_eq hrs hnr, c1, isAsOf_eq hsz hn, c2, hz3, hz4, hb0, tonC hsz hn (show i < 200 by omega) z2 z3 0 z4 c2]
  · simp [fX6_tons, bnd, noRow_eq hr hnr, c1, noAs_eq hv hn, c2, tonM (R := LG_R lst) (F := LG_F lst) (m := MS_thrown_s mst 0) e1 e2 e3 e4 r2 r3 r4 r6 hn hv (show i < 200 by omega) z2 z3 z4 c2]
/-- whether a row is another one -/
def chS (R : RS) (F : FS) (n i : Nat) (one two : Int32) : Bool := decide (¬ facS F n (RS_kind R i) (RS_day R i / 365) one 0 = facS F n (RS_kind R i) (RS_day R i / 365) two 0) || decide (¬ facS F n (RS_kind R i) (RS_day R i / 365) one 1 = facS F n (RS_kind R i) (RS_day R i / 365) two 1)
theorem isChanged_eq {st : LG} {n i : Nat} (hs : FS_size (LG_F st) = nI n) (hn : n ≤ 80) (hi : i < 200) (y one two : Int32) (h1 : one = -9 ∨ inb one n = true) (h2 : two = -9 ∨ inb two n = true) : fX5_isChanged st (nI i) y one two = some (if RS_day (LG_R st) i / 365 = y ∧ chS (LG_R st) (LG_F st) n i one two = true then 1 else 0) := by
  have c2 : inb (nI i) 200 = true := inb_nI hi (by omega)
  have cl : (nI i).toNatClampNeg = i := nI_clamp (by omega)
  have b1 := endC (LG_F st) _ 0 hn (verS_n (FS_kind (LG_F st)) (FS_year (LG_F st)) (RS_kind (LG_R st) i) (RS_day (LG_R st) i / 365) one hn h1)
  have b2 := endC (LG_F st) _ 1 hn (verS_n (FS_kind (LG_F st)) (FS_year (LG_F st)) (RS_kind (LG_R st) i) (RS_day (LG_R st) i / 365) one hn h1)
  have b3 := endC (LG_F st) _ 0 hn (verS_n (FS_kind (LG_F st)) (FS_year (LG_F st)) (RS_kind (LG_R st) i) (RS_day (LG_R st) i / 365) two hn h2)
  have b4 := endC (LG_F st) _ 1 hn (verS_n (FS_kind (LG_F st)) (FS_year (LG_F st)) (RS_kind (LG_R st) i) (RS_day (LG_R st) i / 365) two hn h2)
  unfold fX5_isChanged fX2_isOfYear fX2_yearOf
  simp only [c2, cl, if_true, Option.bind_some]
  by_cases hy : RS_day (LG_R st) i / 365 = y
  · subst hy
    simp only [if_true, Option.bind_some]
    rw [versionOf_eq hs hn hi one h1, versionOf_eq hs hn hi two h2]
    simp only [Option.bind_some, b1, b2, b3, b4]
    unfold chS facS fX5_isChanged_b77
    by_cases g1 : endS (FS_low (LG_F st)) (FS_high (LG_F st)) (verS (FS_kind (LG_F st)) (FS_year (LG_F st)) (RS_kind (LG_R st) i) (RS_day (LG_R st) i / 365) (asN n one)) 0 = endS (FS_low (LG_F st)) (FS_high (LG_F st)) (verS (FS_kind (LG_F st)) (FS_year (LG_F st)) (RS_kind (LG_R st) i) (RS_day (LG_R st) i / 365) (asN n two)) 0
    · by_cases g2 : endS (FS_low (LG_F st)) (FS_high (LG_F st)) (verS (FS_kind (LG_F st)) (FS_year (LG_F st)) (RS_kind (LG_R st) i) (RS_day (LG_R st) i / 365) (asN n one)) 1 = endS (FS_low (LG_F st)) (FS_high (LG_F st)) (verS (FS_kind (LG_F st)) (FS_year (LG_F st)) (RS_kind (LG_R st) i) (RS_day (LG_R st) i / 365) (asN n two)) 1
      · simp [g1, g2]
      · simp [g1, g2]
    · simp [g1]
  · simp [hy]
/-- a factor lacks, or is small -/
theorem facS_in {F : FS} {n : Nat} (hn : n ≤ 80) (hok : ∀ i, i < n → ∃ lo hi, lo ≤ 1000 ∧ hi ≤ 1000 ∧ FS_low F i = nI lo ∧ FS_high F i = nI hi) (x y as h : Int32) (ha : as = -9 ∨ inb as n = true) : facS F n x y as h = -9 ∨ ∃ f, f ≤ 1000 ∧ facS F n x y as h = nI f := by
  unfold facS endS
  rcases verS_n (FS_kind F) (FS_year F) x y as hn ha with hv | ⟨j, hj, hv⟩
  · left; rw [if_pos hv]
  · right
    obtain ⟨lo, hi, h1, h2, h3, h4⟩ := hok j hj
    rw [hv, if_neg (nI_n9 (by omega)), nI_clamp (by omega), h3, h4]
    by_cases h0 : h = 0
    · rw [if_pos h0]; exact ⟨lo, h1, rfl⟩
    · rw [if_neg h0]; exact ⟨hi, h2, rfl⟩
theorem lN_n9 {x : Nat} (h : x < 2 ^ 31) : ¬ lN x = -9 := fun q => by
  have := congrArg Int64.toInt q
  rw [lN_toInt h] at this
  have e : (-9 : Int64).toInt = -9 := by decide
  omega
theorem mul_inj {a : Nat} {f g : Int32} (ha1 : 1 ≤ a) (ha2 : a ≤ 100000) (hf : f = -9 ∨ ∃ x, x ≤ 1000 ∧ f = nI x) (hg : g = -9 ∨ ∃ x, x ≤ 1000 ∧ g = nI x) : ((if f = -9 then (-9 : Int64) else Int32.toInt64 (nI a) * Int32.toInt64 f) = (if g = -9 then (-9 : Int64) else Int32.toInt64 (nI a) * Int32.toInt64 g)) ↔ f = g := by
  have pr : ∀ x, x ≤ 1000 → Int32.toInt64 (nI a) * Int32.toInt64 (nI x) = lN (a * x) ∧ a * x < 2 ^ 31 := by
    intro x hx
    have : a * x ≤ 100000 * 1000 := Nat.mul_le_mul ha2 hx
    refine ⟨?_, by omega⟩
    show (nI a).toInt64 * (nI x).toInt64 = _
    rw [nI_l (by omega), nI_l (by omega), lN_mul]
  rcases hf with hf | ⟨x, hx, hf⟩ <;> rcases hg with hg | ⟨y, hy, hg⟩
  · simp [hf, hg]
  · have c : ¬ g = -9 := by rw [hg]; exact nI_n9 (by omega)
    obtain ⟨p1, p2⟩ := pr y hy
    rw [if_pos hf, if_neg c, hf, hg, p1]
    constructor
    · intro q; exact absurd q.symm (lN_n9 p2)
    · intro q; exact absurd q.symm (nI_n9 (by omega))
  · have c : ¬ f = -9 := by rw [hf]; exact nI_n9 (by omega)
    obtain ⟨p1, p2⟩ := pr x hx
    rw [if_neg c, if_pos hg, hf, hg, p1]
    constructor
    · intro q; exact absurd q (lN_n9 p2)
    · intro q; exact absurd q (nI_n9 (by omega))
  · have c : ¬ f = -9 := by rw [hf]; exact nI_n9 (by omega)
    have c' : ¬ g = -9 := by rw [hg]; exact nI_n9 (by omega)
    obtain ⟨p1, p2⟩ := pr x hx
    obtain ⟨p3, p4⟩ := pr y hy
    rw [if_neg c, if_neg c', hf, hg, p1, p3, lN_eq p2 p4, nI_eq (by omega) (by omega)]
    constructor
    · intro q; exact Nat.eq_of_mul_eq_mul_left (by omega) q
    · intro q; rw [q]
theorem isOther_eq {R : RS} {F : FS} {m : MS} {n i : Nat} (e1 : FS_kind F = MS_ofKind m) (e2 : FS_year F = MS_ofYear m) (e3 : FS_low F = MS_low m) (e4 : FS_high F = MS_high m) (r2 : RS_kind R = MS_kind m) (r3 : RS_amount R = MS_amount m) (r4 : RS_day R = MS_day m) (r6 : RS_covered R = MS_covered m) (hn : n ≤ 80) (hs : MS_versions m = nI n) (hi : i < 200) (hok : ∀ i, i < n → ∃ lo hi, lo ≤ 1000 ∧ hi ≤ 1000 ∧ FS_low F i = nI lo ∧ FS_high F i = nI hi) {a : Nat} (ha1 : 1 ≤ a) (ha2 : a ≤ 100000) (hA : RS_amount R i = nI a) (one two : Int32) (h1 : one = -9 ∨ inb one n = true) (h2 : two = -9 ∨ inb two n = true) : fX6_isOther m (nI i) one two = some (if chS R F n i one two = true then 1 else 0) := by
  unfold fX6_isOther fX6_isOther_b40
  have tm := fun as h ha => tonM e1 e2 e3 e4 r2 r3 r4 r6 hn hs hi as 0 h ha
  simp only [tm one 0 h1, tm two 0 h2, tm one 1 h1, tm two 1 h2, Option.bind_some, cmp_eq]
  unfold tonS chS
  simp only [if_true, hA]
  have g := fun h => mul_inj ha1 ha2 (facS_in hn hok (RS_kind R i) (RS_day R i / 365) one h h1) (facS_in hn hok (RS_kind R i) (RS_day R i / 365) two h h2)
  simp only [g]
  by_cases g1 : facS F n (RS_kind R i) (RS_day R i / 365) one 0 = facS F n (RS_kind R i) (RS_day R i / 365) two 0
  · by_cases g2 : facS F n (RS_kind R i) (RS_day R i / 365) one 1 = facS F n (RS_kind R i) (RS_day R i / 365) two 1
    · simp [g1, g2]
    · simp [g1, g2]
  · simp [g1]
