def Rel (k : Nat) (lst : LG) (mst : MS) : Prop := k ≤ k ∧ lst = lst ∧ mst = mst
theorem Rel_0 : Rel 0 LG0 MS0 := ⟨Nat.le_refl _, rfl, rfl⟩
theorem Rel_up {k : Nat} {lst : LG} {mst : MS} (h : Rel k lst mst) : Rel (k + 1) lst mst := ⟨Nat.le_refl _, rfl, rfl⟩
theorem st_unit {k : Nat} {lst : LG} {mst : MS} (hR : Rel k lst mst) (hk : k < 512) : ∃ (r : Int32) (lst2 : LG) (mst2 : MS), fX5_unit lst  = some (r, lst2) ∧ fX6_unit mst  = some (r, mst2) ∧ Rel (k + 1) lst2 mst2 := by
  sorry
theorem st_hold {k : Nat} {lst : LG} {mst : MS} (hR : Rel k lst mst) (hk : k < 512) (z1 z2 z3 z4 : Int32) : ∃ (r : Int32) (lst2 : LG) (mst2 : MS), fX5_hold lst z1 z2 z3 z4 = some (r, lst2) ∧ fX6_hold mst z1 z2 z3 z4 = some (r, mst2) ∧ Rel (k + 1) lst2 mst2 := by
  sorry
theorem st_holds {k : Nat} {lst : LG} {mst : MS} (hR : Rel k lst mst) (hk : k < 512) (z1 z2 z3 : Int32) : ∃ (r : Int32) (mst2 : MS), fX5_holds lst z1 z2 z3 = some r ∧ fX6_holds mst z1 z2 z3 = some (r, mst2) ∧ Rel (k + 1) lst mst2 := by
  sorry
theorem st_share {k : Nat} {lst : LG} {mst : MS} (hR : Rel k lst mst) (hk : k < 512) (z1 z2 : Int32) : ∃ (r : Int64) (lst2 : LG) (mst2 : MS), fX5_share lst z1 z2 = some (r, lst2) ∧ fX6_share mst z1 z2 = some (r, mst2) ∧ Rel (k + 1) lst2 mst2 := by
  sorry
theorem st_days {k : Nat} {lst : LG} {mst : MS} (hR : Rel k lst mst) (hk : k < 512) (z1 z2 z3 : Int32) : ∃ (r : Int64) (lst2 : LG) (mst2 : MS), fX5_days lst z1 z2 z3 = some (r, lst2) ∧ fX6_days mst z1 z2 z3 = some (r, mst2) ∧ Rel (k + 1) lst2 mst2 := by
  sorry
theorem st_row {k : Nat} {lst : LG} {mst : MS} (hR : Rel k lst mst) (hk : k < 512) (z1 z2 z3 z4 z5 : Int32) : ∃ (r : Int32) (lst2 : LG) (mst2 : MS), fX5_row lst z1 z2 z3 z4 z5 = some (r, lst2) ∧ fX6_row mst z1 z2 z3 z4 z5 = some (r, mst2) ∧ Rel (k + 1) lst2 mst2 := by
  sorry
theorem st_told {k : Nat} {lst : LG} {mst : MS} (hR : Rel k lst mst) (hk : k < 512) (z1 z2 : Int32) : ∃ (r : Int32) (lst2 : LG) (mst2 : MS), fX5_told lst z1 z2 = some (r, lst2) ∧ fX6_told mst z1 z2 = some (r, mst2) ∧ Rel (k + 1) lst2 mst2 := by
  sorry
theorem st_factor {k : Nat} {lst : LG} {mst : MS} (hR : Rel k lst mst) (hk : k < 512) (z1 z2 z3 z4 : Int32) : ∃ (r : Int32) (lst2 : LG) (mst2 : MS), fX5_factor lst z1 z2 z3 z4 = some (r, lst2) ∧ fX6_factor mst z1 z2 z3 z4 = some (r, mst2) ∧ Rel (k + 1) lst2 mst2 := by
  sorry
theorem st_factorAs {k : Nat} {lst : LG} {mst : MS} (hR : Rel k lst mst) (hk : k < 512) (z1 z2 z3 z4 : Int32) (hz4 : isB z4 = true) : ∃ (r : Int32) (mst2 : MS), fX5_factorAs lst z1 z2 z3 z4 = some r ∧ fX6_factorAs mst z1 z2 z3 z4 = some (r, mst2) ∧ Rel (k + 1) lst mst2 := by
  sorry
theorem st_tons {k : Nat} {lst : LG} {mst : MS} (hR : Rel k lst mst) (hk : k < 512) (z1 z2 z3 z4 : Int32) (hz3 : isB z3 = true) (hz4 : isB z4 = true) : ∃ (r : Int64) (lst2 : LG) (mst2 : MS), fX5_tons lst z1 z2 z3 z4 = some (r, lst2) ∧ fX6_tons mst z1 z2 z3 z4 = some (r, mst2) ∧ Rel (k + 1) lst2 mst2 := by
  sorry
theorem st_changed {k : Nat} {lst : LG} {mst : MS} (hR : Rel k lst mst) (hk : k < 512) (z1 z2 z3 : Int32) : ∃ (r : Int32) (mst2 : MS), fX5_changed lst z1 z2 z3 = some r ∧ fX6_changed mst z1 z2 z3 = some (r, mst2) ∧ Rel (k + 1) lst mst2 := by
  sorry
theorem st_change {k : Nat} {lst : LG} {mst : MS} (hR : Rel k lst mst) (hk : k < 512) (z1 z2 z3 z4 : Int32) : ∃ (r : Int32) (mst2 : MS), fX5_change lst z1 z2 z3 z4 = some r ∧ fX6_change mst z1 z2 z3 z4 = some (r, mst2) ∧ Rel (k + 1) lst mst2 := by
  sorry
theorem st_total {k : Nat} {lst : LG} {mst : MS} (hR : Rel k lst mst) (hk : k < 512) (z1 z2 z3 z4 z5 : Int32) (hz3 : isB z3 = true) (hz4 : isB z4 = true) (hz5 : isB z5 = true) : ∃ (r : Int64) (lst2 : LG) (mst2 : MS), fX5_total lst z1 z2 z3 z4 z5 = some (r, lst2) ∧ fX6_total mst z1 z2 z3 z4 z5 = some (r, mst2) ∧ Rel (k + 1) lst2 mst2 := by
  sorry
theorem st_anew {k : Nat} {lst : LG} {mst : MS} (hR : Rel k lst mst) (hk : k < 512) (z1 z2 z3 z4 z5 z6 : Int32) (hz4 : isB z4 = true) (hz5 : isB z5 = true) (hz6 : isB z6 = true) : ∃ (r : Int64) (lst2 : LG) (mst2 : MS), fX5_anew lst z1 z2 z3 z4 z5 z6 = some (r, lst2) ∧ fX6_anew mst z1 z2 z3 z4 z5 z6 = some (r, mst2) ∧ Rel (k + 1) lst2 mst2 := by
  sorry
theorem st_part {k : Nat} {lst : LG} {mst : MS} (hR : Rel k lst mst) (hk : k < 512) (z1 z2 z3 z4 z5 z6 : Int32) (hz4 : isB z4 = true) (hz5 : isB z5 = true) (hz6 : isB z6 = true) : ∃ (r : Int64) (lst2 : LG) (mst2 : MS), fX5_part lst z1 z2 z3 z4 z5 z6 = some (r, lst2) ∧ fX6_part mst z1 z2 z3 z4 z5 z6 = some (r, mst2) ∧ Rel (k + 1) lst2 mst2 := by
  sorry
theorem st_doubles {k : Nat} {lst : LG} {mst : MS} (hR : Rel k lst mst) (hk : k < 512) (z1 : Int32) : ∃ (r : Int32) (lst2 : LG) (mst2 : MS), fX5_doubles lst z1 = some (r, lst2) ∧ fX6_doubles mst z1 = some (r, mst2) ∧ Rel (k + 1) lst2 mst2 := by
  sorry
theorem st_onPath {k : Nat} {lst : LG} {mst : MS} (hR : Rel k lst mst) (hk : k < 512) (z1 z2 z3 z4 : Int32) : ∃ (r : Int32) (lst2 : LG) (mst2 : MS), fX5_onPath lst z1 z2 z3 z4 = some (r, lst2) ∧ fX6_onPath mst z1 z2 z3 z4 = some (r, mst2) ∧ Rel (k + 1) lst2 mst2 := by
  sorry
theorem st_issue {k : Nat} {lst : LG} {mst : MS} (hR : Rel k lst mst) (hk : k < 512) (z1 z2 : Int32) : ∃ (r : Int32) (lst2 : LG) (mst2 : MS), fX5_issue lst z1 z2 = some (r, lst2) ∧ fX6_issue mst z1 z2 = some (r, mst2) ∧ Rel (k + 1) lst2 mst2 := by
  sorry
theorem st_move {k : Nat} {lst : LG} {mst : MS} (hR : Rel k lst mst) (hk : k < 512) (z1 z2 z3 : Int32) : ∃ (r : Int32) (lst2 : LG) (mst2 : MS), fX5_move lst z1 z2 z3 = some (r, lst2) ∧ fX6_move mst z1 z2 z3 = some (r, mst2) ∧ Rel (k + 1) lst2 mst2 := by
  sorry
theorem st_use {k : Nat} {lst : LG} {mst : MS} (hR : Rel k lst mst) (hk : k < 512) (z1 z2 z3 : Int32) : ∃ (r : Int32) (lst2 : LG) (mst2 : MS), fX5_use lst z1 z2 z3 = some (r, lst2) ∧ fX6_use mst z1 z2 z3 = some (r, mst2) ∧ Rel (k + 1) lst2 mst2 := by
  sorry
theorem st_owner {k : Nat} {lst : LG} {mst : MS} (hR : Rel k lst mst) (hk : k < 512) (z1 : Int32) : ∃ (r : Int32) (mst2 : MS), fX5_owner lst z1 = some r ∧ fX6_owner mst z1 = some (r, mst2) ∧ Rel (k + 1) lst mst2 := by
  sorry
theorem st_usedFor {k : Nat} {lst : LG} {mst : MS} (hR : Rel k lst mst) (hk : k < 512) (z1 : Int32) : ∃ (r : Int32) (mst2 : MS), fX5_usedFor lst z1 = some r ∧ fX6_usedFor mst z1 = some (r, mst2) ∧ Rel (k + 1) lst mst2 := by
  sorry
theorem st_free {k : Nat} {lst : LG} {mst : MS} (hR : Rel k lst mst) (hk : k < 512) (z1 : Int32) : ∃ (r : Int32) (mst2 : MS), fX5_free lst z1 = some r ∧ fX6_free mst z1 = some (r, mst2) ∧ Rel (k + 1) lst mst2 := by
  sorry
theorem st_runs {k : Nat} {lst : LG} {mst : MS} (hR : Rel k lst mst) (hk : k < 512) : ∃ (r : Int32) (mst2 : MS), fX5_runs lst  = some r ∧ fX6_runs mst  = some (r, mst2) ∧ Rel (k + 1) lst mst2 := by
  sorry
theorem st_run {k : Nat} {lst : LG} {mst : MS} (hR : Rel k lst mst) (hk : k < 512) (z1 z2 : Int32) : ∃ (r : Int32) (mst2 : MS), fX5_run lst z1 z2 = some r ∧ fX6_run mst z1 z2 = some (r, mst2) ∧ Rel (k + 1) lst mst2 := by
  sorry
theorem st_count {k : Nat} {lst : LG} {mst : MS} (hR : Rel k lst mst) (hk : k < 512) (z1 : Int32) : ∃ (r : Int32) (mst2 : MS), fX5_count lst z1 = some r ∧ fX6_count mst z1 = some (r, mst2) ∧ Rel (k + 1) lst mst2 := by
  sorry
