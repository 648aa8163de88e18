/-! ledger and reference: what holds between them -/
def RowOk (u : Nat) (R : RS) (i : Nat) : Prop := (∃ j, j < u ∧ RS_unit R i = nI j) ∧ (∃ d, d < 3650 ∧ RS_day R i = nI d) ∧ (RS_seller R i = -9 ∨ ∃ j, j < u ∧ RS_seller R i = nI j) ∧ ∃ a c, 1 ≤ a ∧ a ≤ 100000 ∧ c ≤ a ∧ RS_amount R i = nI a ∧ RS_covered R i = nI c
def RowRel (u : Nat) (R : RS) (m : MS) : Prop := RS_unit R = MS_unitOf m ∧ RS_kind R = MS_kind m ∧ RS_amount R = MS_amount m ∧ RS_day R = MS_day m ∧ RS_seller R = MS_seller m ∧ RS_covered R = MS_covered m ∧ RS_size R = MS_rows m ∧ ∃ n, n ≤ 200 ∧ RS_size R = nI n ∧ (∀ i, i < n → RowOk u R i) ∧ (∀ i, n ≤ i → RS_covered R i = 0)
def FacRel (F : FS) (m : MS) : Prop := FS_kind F = MS_ofKind m ∧ FS_year F = MS_ofYear m ∧ FS_low F = MS_low m ∧ FS_high F = MS_high m ∧ FS_size F = MS_versions m ∧ ∃ n, n ≤ 80 ∧ FS_size F = nI n ∧ ∀ i, i < n → ∃ lo hi, lo ≤ 1000 ∧ hi ≤ 1000 ∧ FS_low F i = nI lo ∧ FS_high F i = nI hi
/-- a holding: who, whom, hundredths, day -/
abbrev Ent : Type := Nat × Nat × Nat × Nat
def EntOk (u : Nat) (e : Ent) : Prop := e.1 < u ∧ e.2.1 < u ∧ e.2.2.1 ≤ 100 ∧ e.2.2.2 < 3650 ∧ e.1 ≠ e.2.1
def HoldC (n : Nat) (C : Nat → Ent) (H : HS) : Prop := HS_size H = nI n ∧ ∀ i, i < n → HS_holder H i = nI (C i).1 ∧ HS_held H i = nI (C i).2.1 ∧ HS_hundredths H i = nI (C i).2.2.1 ∧ HS_day H i = nI (C i).2.2.2
def HoldM (n : Nat) (M : Nat → Ent) (m : MS) : Prop := MS_holdings m = nI n ∧ ∀ i, i < n → MS_who m i = nI (M i).1 ∧ MS_whom m i = nI (M i).2.1 ∧ MS_part m i = nI (M i).2.2.1 ∧ MS_since m i = nI (M i).2.2.2
def KeyD (n : Nat) (C : Nat → Ent) : Prop := ∀ i j, i < n → j < n → (C i).1 = (C j).1 → (C i).2.1 = (C j).2.1 → (C i).2.2.2 = (C j).2.2.2 → i = j
def EntRel (u n : Nat) (C M : Nat → Ent) : Prop := n ≤ 100 ∧ (∀ i, i < n → EntOk u (C i)) ∧ (∀ i, i < n → ∃ j, j < n ∧ M j = C i) ∧ (∀ j, j < n → ∃ i, i < n ∧ C i = M j) ∧ KeyD n C ∧ KeyD n M ∧ (∀ i j, i < j → j < n → (C i).2.2.2 ≤ (C j).2.2.2) ∧ ∃ rk : Nat → Nat, ∀ i, i < n → 0 < (C i).2.2.1 → rk (C i).1 < rk (C i).2.1
/-- what a holds of b by the first s holdings -/
def matN (C : Nat → Ent) : Nat → Nat → Nat → Nat
  | 0, _, _ => 0
  | s + 1, a, b => if (C s).1 = a ∧ (C s).2.1 = b then (C s).2.2.1 else matN C s a b
def sum10 (f : Nat → Nat) : Nat → Nat
  | 0 => 0
  | n + 1 => sum10 f n + f n
/-- the share by a table of hundredths -/
def shrN (X : Nat → Nat → Nat) (v : Nat) : Nat := if v = 0 then 1000000 else 10000 * X 0 v + (100 * sum10 (fun a => X 0 a * X a v) 10 + sum10 (fun b => sum10 (fun a => X 0 a * X a b) 10 * X b v) 10)
def SpanOk (n : Nat) (C : Nat → Ent) (H : HS) : Prop := ∀ s, s ≤ n → HS_spanIsMade H s = 0 ∨ ∀ v, v < 10 → HS_spanShares H (s * 10 + v) = lN (shrN (matN C s) v)
def HoldRel (u : Nat) (H : HS) (m : MS) : Prop := ∃ (n : Nat) (C M : Nat → Ent), HoldC n C H ∧ HoldM n M m ∧ EntRel u n C M ∧ SpanOk n C H
def SerRel (k : Nat) (S : SS) (m : MS) : Prop := ∃ (sz t : Nat) (fs : Nat → Nat), sz ≤ 2 * k ∧ sz ≤ SS_cap S ∧ 16 ≤ SS_cap S ∧ SS_cap S ≤ 2048 ∧ SS_size S = nI sz ∧ SS_issued S = nI t ∧ t ≤ 20000 ∧ MS_serials m = nI t ∧ (∀ i, i < sz → SS_first S i = nI (fs i)) ∧ fs sz = t + 1 ∧ fs 0 = 1 ∧ (∀ i, i < sz → fs i < fs (i + 1)) ∧ (∀ i, i < sz → ∀ x, fs i ≤ x → x < fs (i + 1) → MS_owner m x = SS_owner S i ∧ MS_used m x = SS_row S i) ∧ (∀ i, i + 1 < sz → SS_owner S i ≠ SS_owner S (i + 1) ∨ SS_row S i ≠ SS_row S (i + 1))
def Rel (k : Nat) (lst : LG) (mst : MS) : Prop := ∃ u : Nat, 1 ≤ u ∧ u ≤ 10 ∧ LG_units lst = nI u ∧ MS_units mst = nI u ∧ RowRel u (LG_R lst) mst ∧ FacRel (LG_F lst) mst ∧ HoldRel u (LG_H lst) mst ∧ SerRel k (LG_S lst) mst
theorem RowOk.mono {u u' : Nat} {R : RS} {i : Nat} (h : RowOk u R i) (hu : u ≤ u') : RowOk u' R i := by
  obtain ⟨⟨j, h1, h2⟩, h3, h4, h5⟩ := h
  refine ⟨⟨j, by omega, h2⟩, h3, ?_, h5⟩
  rcases h4 with h | ⟨j, h6, h7⟩
  · exact Or.inl h
  · exact Or.inr ⟨j, by omega, h7⟩
theorem RowRel.mono {u u' : Nat} {R : RS} {m : MS} (h : RowRel u R m) (hu : u ≤ u') : RowRel u' R m := by
  obtain ⟨h1, h2, h3, h4, h5, h6, h7, n, h8, h9, h10, h11⟩ := h
  exact ⟨h1, h2, h3, h4, h5, h6, h7, n, h8, h9, fun i hi => (h10 i hi).mono hu, h11⟩
theorem EntRel.mono {u u' n : Nat} {C M : Nat → Ent} (h : EntRel u n C M) (hu : u ≤ u') : EntRel u' n C M := by
  obtain ⟨h1, h2, h3⟩ := h
  refine ⟨h1, fun i hi => ?_, h3⟩
  obtain ⟨a, b, c, d, e⟩ := h2 i hi
  exact ⟨by omega, by omega, c, d, e⟩
theorem HoldRel.mono {u u' : Nat} {H : HS} {m : MS} (h : HoldRel u H m) (hu : u ≤ u') : HoldRel u' H m := by
  obtain ⟨n, C, M, h1, h2, h3, h4⟩ := h
  exact ⟨n, C, M, h1, h2, h3.mono hu, h4⟩
theorem SerRel.mono {k k' : Nat} {S : SS} {m : MS} (h : SerRel k S m) (hk : k ≤ k') : SerRel k' S m := by
  obtain ⟨sz, t, fs, h1, h2⟩ := h
  exact ⟨sz, t, fs, by omega, h2⟩
theorem Rel_up {k : Nat} {lst : LG} {mst : MS} (h : Rel k lst mst) : Rel (k + 1) lst mst := by
  obtain ⟨u, h1, h2, h3, h4, h5, h6, h7, h8⟩ := h
  exact ⟨u, h1, h2, h3, h4, h5, h6, h7, h8.mono (by omega)⟩
theorem Rel_0 : Rel 0 LG0 MS0 := by
  refine ⟨1, by omega, by omega, rfl, rfl, ?_, ?_, ?_, ?_⟩
  · exact ⟨rfl, rfl, rfl, rfl, rfl, rfl, rfl, 0, by omega, rfl, fun i hi => by omega, fun i _ => rfl⟩
  · exact ⟨rfl, rfl, rfl, rfl, rfl, 0, by omega, rfl, fun i hi => by omega⟩
  · refine ⟨0, fun _ => (0, 0, 0, 0), fun _ => (0, 0, 0, 0), ⟨rfl, fun i hi => by omega⟩, ⟨rfl, fun i hi => by omega⟩, ⟨by omega, fun i hi => by omega, fun i hi => by omega, fun i hi => by omega, fun i j hi => by omega, fun i j hi => by omega, fun i j h1 h2 => by omega, fun _ => 0, fun i hi => by omega⟩, fun s hs => Or.inl rfl⟩
  · exact ⟨0, 0, fun i => i + 1, by omega, Nat.zero_le _, (by decide : 16 ≤ 16), (by decide : 16 ≤ 2048), rfl, rfl, by omega, rfl, fun i hi => by omega, rfl, rfl, fun i hi => by omega, fun i hi => by omega, fun i hi => by omega⟩
/-- the reference's own scratch doesn't count -/
theorem Rel_thr {k : Nat} {lst : LG} {mst : MS} (h : Rel k lst mst) : Rel k lst (MS_thrown_s mst 0) := h
theorem st_unit {k : Nat} {lst : LG} {mst : MS} (hR : Rel k lst mst) (hk : k < 512) : ∃ (r : Int32) (lst2 : LG) (mst2 : MS), fX5_unit lst  = some (r, lst2) ∧ fX6_unit mst  = some (r, mst2) ∧ Rel (k + 1) lst2 mst2 := by
  obtain ⟨u, hu1, hu2, hl, hm, h5, h6, h7, h8⟩ := hR
  have e10 : (10 : Int32) = nI 10 := rfl
  have hm' : MS_units (MS_thrown_s mst 0) = nI u := hm
  by_cases h : u < 10
  · have h2 : nI u < nI 10 := (nI_ltI (by omega) (by omega)).mpr h
    have h3 : ¬ nI u = nI 10 := fun q => by rw [nI_eq (by omega) (by omega)] at q; omega
    refine ⟨nI u + 1 - 1, LG_mk (LG_H lst) (LG_R lst) (LG_F lst) (LG_S lst) (nI u + 1), MS_units_s (MS_thrown_s mst 0) (nI u + 1), ?_, ?_, ?_⟩
    · unfold fX5_unit; rw [hl, e10, if_pos h2]
    · simp only [fX6_unit, bnd, hm', e10, if_neg h3]; rfl
    · exact ⟨u + 1, by omega, by omega, nI_1 u, nI_1 u, h5.mono (by omega), h6, h7.mono (by omega), h8.mono (by omega)⟩
  · have hu : u = 10 := by omega
    subst hu
    have h2 : ¬ nI 10 < nI 10 := Int32.lt_irrefl
    refine ⟨-4, lst, MS_thrown_s mst 0, ?_, ?_, ?_⟩
    · unfold fX5_unit; rw [hl, e10, if_neg h2]
    · simp only [fX6_unit, bnd, hm', e10, if_pos]
    · exact Rel_up (Rel_thr ⟨10, hu1, hu2, hl, hm, h5, h6, h7, h8⟩)
