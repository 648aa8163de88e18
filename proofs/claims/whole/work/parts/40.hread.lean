/-! the reference but for its scratch -/
def FrA (T m : MS) : Prop := MS_units T = MS_units m ∧ MS_holdings T = MS_holdings m ∧ MS_who T = MS_who m ∧ MS_whom T = MS_whom m ∧ MS_part T = MS_part m ∧ MS_since T = MS_since m ∧ MS_rows T = MS_rows m ∧ MS_unitOf T = MS_unitOf m ∧ MS_kind T = MS_kind m ∧ MS_amount T = MS_amount m ∧ MS_day T = MS_day m ∧ MS_seller T = MS_seller m ∧ MS_covered T = MS_covered m ∧ MS_versions T = MS_versions m ∧ MS_ofKind T = MS_ofKind m ∧ MS_ofYear T = MS_ofYear m ∧ MS_low T = MS_low m ∧ MS_high T = MS_high m ∧ MS_serials T = MS_serials m ∧ MS_owner T = MS_owner m ∧ MS_used T = MS_used m
theorem FrA_rf (m : MS) : FrA m m := ⟨rfl, rfl, rfl, rfl, rfl, rfl, rfl, rfl, rfl, rfl, rfl, rfl, rfl, rfl, rfl, rfl, rfl, rfl, rfl, rfl, rfl⟩
theorem FrA_units {T m : MS} (h : FrA T m) : MS_units T = MS_units m := h.1
theorem FrA_holdings {T m : MS} (h : FrA T m) : MS_holdings T = MS_holdings m := h.2.1
theorem FrA_who {T m : MS} (h : FrA T m) : MS_who T = MS_who m := h.2.2.1
theorem FrA_whom {T m : MS} (h : FrA T m) : MS_whom T = MS_whom m := h.2.2.2.1
theorem FrA_part {T m : MS} (h : FrA T m) : MS_part T = MS_part m := h.2.2.2.2.1
theorem FrA_since {T m : MS} (h : FrA T m) : MS_since T = MS_since m := h.2.2.2.2.2.1
theorem FrA_rows {T m : MS} (h : FrA T m) : MS_rows T = MS_rows m := h.2.2.2.2.2.2.1
theorem FrA_unitOf {T m : MS} (h : FrA T m) : MS_unitOf T = MS_unitOf m := h.2.2.2.2.2.2.2.1
theorem FrA_kind {T m : MS} (h : FrA T m) : MS_kind T = MS_kind m := h.2.2.2.2.2.2.2.2.1
theorem FrA_amount {T m : MS} (h : FrA T m) : MS_amount T = MS_amount m := h.2.2.2.2.2.2.2.2.2.1
theorem FrA_day {T m : MS} (h : FrA T m) : MS_day T = MS_day m := h.2.2.2.2.2.2.2.2.2.2.1
theorem FrA_seller {T m : MS} (h : FrA T m) : MS_seller T = MS_seller m := h.2.2.2.2.2.2.2.2.2.2.2.1
theorem FrA_covered {T m : MS} (h : FrA T m) : MS_covered T = MS_covered m := h.2.2.2.2.2.2.2.2.2.2.2.2.1
theorem FrA_versions {T m : MS} (h : FrA T m) : MS_versions T = MS_versions m := h.2.2.2.2.2.2.2.2.2.2.2.2.2.1
theorem FrA_ofKind {T m : MS} (h : FrA T m) : MS_ofKind T = MS_ofKind m := h.2.2.2.2.2.2.2.2.2.2.2.2.2.2.1
theorem FrA_ofYear {T m : MS} (h : FrA T m) : MS_ofYear T = MS_ofYear m := h.2.2.2.2.2.2.2.2.2.2.2.2.2.2.2.1
theorem FrA_low {T m : MS} (h : FrA T m) : MS_low T = MS_low m := h.2.2.2.2.2.2.2.2.2.2.2.2.2.2.2.2.1
theorem FrA_high {T m : MS} (h : FrA T m) : MS_high T = MS_high m := h.2.2.2.2.2.2.2.2.2.2.2.2.2.2.2.2.2.1
theorem FrA_serials {T m : MS} (h : FrA T m) : MS_serials T = MS_serials m := h.2.2.2.2.2.2.2.2.2.2.2.2.2.2.2.2.2.2.1
theorem FrA_owner {T m : MS} (h : FrA T m) : MS_owner T = MS_owner m := h.2.2.2.2.2.2.2.2.2.2.2.2.2.2.2.2.2.2.2.1
theorem FrA_used {T m : MS} (h : FrA T m) : MS_used T = MS_used m := h.2.2.2.2.2.2.2.2.2.2.2.2.2.2.2.2.2.2.2.2
theorem FrA_tr {A B C : MS} (h : FrA A B) (g : FrA B C) : FrA A C := ⟨(FrA_units h).trans (FrA_units g), (FrA_holdings h).trans (FrA_holdings g), (FrA_who h).trans (FrA_who g), (FrA_whom h).trans (FrA_whom g), (FrA_part h).trans (FrA_part g), (FrA_since h).trans (FrA_since g), (FrA_rows h).trans (FrA_rows g), (FrA_unitOf h).trans (FrA_unitOf g), (FrA_kind h).trans (FrA_kind g), (FrA_amount h).trans (FrA_amount g), (FrA_day h).trans (FrA_day g), (FrA_seller h).trans (FrA_seller g), (FrA_covered h).trans (FrA_covered g), (FrA_versions h).trans (FrA_versions g), (FrA_ofKind h).trans (FrA_ofKind g), (FrA_ofYear h).trans (FrA_ofYear g), (FrA_low h).trans (FrA_low g), (FrA_high h).trans (FrA_high g), (FrA_serials h).trans (FrA_serials g), (FrA_owner h).trans (FrA_owner g), (FrA_used h).trans (FrA_used g)⟩
theorem FrA_s_thrown {T m : MS} (h : FrA T m) (v : Int32) : FrA (MS_thrown_s T v) m := h
theorem FrA_s_held {T m : MS} (h : FrA T m) (v : Nat → Int32) : FrA (MS_held_s T v) m := h
theorem FrA_s_share {T m : MS} (h : FrA T m) (v : Nat → Int64) : FrA (MS_share_s T v) m := h
theorem FrA_s_edge {T m : MS} (h : FrA T m) (v : Nat → Int32) : FrA (MS_edge_s T v) m := h
theorem FrA_s_deep {T m : MS} (h : FrA T m) (v : Nat → Int32) : FrA (MS_deep_s T v) m := h
theorem FrA_FacRel {F : FS} {T m : MS} (h : FrA T m) (g : FacRel F m) : FacRel F T := by
  unfold FacRel at *; rw [FrA_versions h, FrA_ofKind h, FrA_ofYear h, FrA_low h, FrA_high h]; exact g
theorem FrA_HoldRel {u : Nat} {H : HS} {T m : MS} (h : FrA T m) (g : HoldRel u H m) : HoldRel u H T := by
  obtain ⟨n, C, M, h1, h2, h3, h4⟩ := g
  exact ⟨n, C, M, h1, by unfold HoldM at *; rw [FrA_holdings h, FrA_who h, FrA_whom h, FrA_part h, FrA_since h]; exact h2, h3, h4⟩
theorem FrA_SerRel {k : Nat} {S : SS} {T m : MS} (h : FrA T m) (g : SerRel k S m) : SerRel k S T := by
  unfold SerRel at *; rw [FrA_serials h, FrA_owner h, FrA_used h]; exact g
theorem FrA_RowRel {u : Nat} {R : RS} {T m : MS} (h : FrA T m) (g : RowRel u R m) : RowRel u R T := by
  unfold RowRel at *; rw [FrA_rows h, FrA_unitOf h, FrA_kind h, FrA_amount h, FrA_day h, FrA_seller h, FrA_covered h]; exact g

/-! holdings: the ledger reads -/
theorem span_ex {H : HS} {n : Nat} {C : Nat → Ent} (hC : HoldC n C H) (hn : n ≤ 100) (hd : ∀ i, i < n → (C i).2.2.2 < 3650) (hs : ∀ i j, i < j → j < n → (C i).2.2.2 ≤ (C j).2.2.2) {d : Nat} (h3 : d < 3650) : ∃ s, s ≤ n ∧ (∀ i, i < s → (C i).2.2.2 ≤ d) ∧ (∀ i, s ≤ i → i < n → d < (C i).2.2.2) ∧ fX1_spanOn H (nI d) = some (nI s) := by
  have key : ∃ r, loopN (fun (s : Int32) => fX1_spanOn_l2 H (nI d) s) fuelN (0 : Int32) = some r ∧ ∃ s, r = nI s ∧ s ≤ n ∧ (∀ i, i < s → (C i).2.2.2 ≤ d) ∧ (∀ i, s ≤ i → i < n → d < (C i).2.2.2) := by
    refine loop_f (fun i s => s = nI i ∧ ∀ j, j < i → (C j).2.2.2 ≤ d) _ n (by omega) ⟨rfl, fun j hj => by omega⟩ ?_ ?_
    · rintro i s hi ⟨rfl, h⟩
      have c1 : ¬ nI n ≤ nI i := by rw [nI_leI (by omega) (by omega)]; omega
      have c2 : inb (nI i) 100 = true := inb_nI (by omega) (by omega)
      have c3 : (nI i).toNatClampNeg = i := nI_clamp (by omega)
      have hdi := hd i hi
      by_cases g : d < (C i).2.2.2
      · right
        have q : nI d < nI (C i).2.2.2 := nI_lt g (by omega)
        refine ⟨nI i, by simp only [fX1_spanOn_l2, hC.1, c1, c2, c3, (hC.2 i hi).2.2.2, q, if_true, if_false], i, rfl, by omega, h, fun j h1 h2 => ?_⟩
        by_cases w : j = i
        · subst w; exact g
        · have := hs i j (by omega) h2; omega
      · left
        have q : ¬ nI d < nI (C i).2.2.2 := by rw [nI_ltI (by omega) (by omega)]; exact g
        refine ⟨nI (i + 1), by simp only [fX1_spanOn_l2, hC.1, c1, c2, c3, (hC.2 i hi).2.2.2, q, if_true, if_false, nI_1], rfl, fun j hj => ?_⟩
        by_cases w : j = i
        · subst w; omega
        · exact h j (by omega)
    · rintro s ⟨rfl, h⟩
      have c1 : nI n ≤ nI n := Int32.le_refl _
      exact ⟨nI n, by simp only [fX1_spanOn_l2, hC.1, c1, if_true], n, rfl, Nat.le_refl _, h, fun i h1 h2 => by omega⟩
  obtain ⟨r, k1, s, rfl, k2, k3, k4⟩ := key
  exact ⟨s, k2, k3, k4, by simp only [fX1_spanOn, k1, Option.bind_some]⟩
theorem heldOn_eq {H : HS} {n s : Nat} {C : Nat → Ent} (hC : HoldC n C H) (hn : n ≤ 100) (hb : ∀ i, i < n → (C i).1 < 10 ∧ (C i).2.1 < 10) {a b d : Nat} (ha : a < 10) (hb' : b < 10) (hsn : s ≤ n) (hsp : fX1_spanOn H (nI d) = some (nI s)) : fX1_heldOn H (nI a) (nI b) (nI d) = some (nI (matN C s a b)) := by
  have key : ∃ r, loopN (fun (x : Int32) => fX1_heldOn_l9 H (nI a) (nI b) x) fuelN (nI s - 1) = some r ∧ Sum.elim (fun _ => some (0 : Int32)) (fun v_ => some v_) r = some (nI (matN C s a b)) := by
    refine loop_f (fun i x => i ≤ s ∧ x = nI (s - i) - 1 ∧ matN C (s - i) a b = matN C s a b) _ s (by omega) ⟨Nat.zero_le _, rfl, rfl⟩ ?_ ?_
    · rintro i x hi ⟨h1, rfl, h2⟩
      have ej : s - i = (s - i - 1) + 1 := by omega
      obtain ⟨j, hj⟩ : ∃ j, j = s - i - 1 := ⟨_, rfl⟩
      rw [← hj] at ej
      rw [ej] at h2 ⊢
      have hjn : j < n := by omega
      have e1 : nI (j + 1) - 1 = nI j := nI_pred j
      have c1 : ¬ nI j < 0 := nI_pos (by omega)
      have c2 : inb (nI j) 100 = true := inb_nI (by omega) (by omega)
      have c3 : (nI j).toNatClampNeg = j := nI_clamp (by omega)
      have c4 : nI j + (-1 : Int32) = nI j - 1 := by rw [Int32.sub_eq_add_neg]
      have es : s - (i + 1) = j := by omega
      obtain ⟨v1, v2, v3, v4⟩ := hC.2 j hjn
      have hbj := hb j hjn
      have m : matN C (j + 1) a b = if (C j).1 = a ∧ (C j).2.1 = b then (C j).2.2.1 else matN C j a b := rfl
      by_cases g1 : (C j).1 = a
      · have q1 : nI (C j).1 = nI a := by rw [g1]
        by_cases g2 : (C j).2.1 = b
        · right
          have q2 : nI (C j).2.1 = nI b := by rw [g2]
          rw [if_pos ⟨g1, g2⟩] at m
          refine ⟨.inr (nI (C j).2.2.1), ?_, ?_⟩
          · simp only [fX1_heldOn_l9, e1, c1, c2, c3, v1, v2, v3, q1, q2, if_true, if_false]
          · show some (nI (C j).2.2.1) = _; rw [← h2, m]
        · left
          have q2 : ¬ nI (C j).2.1 = nI b := by rw [nI_eq (by omega) (by omega)]; exact g2
          rw [if_neg (fun w => g2 w.2)] at m
          exact ⟨nI j - 1, by simp only [fX1_heldOn_l9, fX1_heldOn_b44, e1, c1, c2, c3, c4, v1, v2, q1, q2, if_true, if_false], by omega, by rw [es], by rw [es, ← h2, m]⟩
      · left
        have q1 : ¬ nI (C j).1 = nI a := by rw [nI_eq (by omega) (by omega)]; exact g1
        rw [if_neg (fun w => g1 w.1)] at m
        exact ⟨nI j - 1, by simp only [fX1_heldOn_l9, fX1_heldOn_b44, e1, c1, c2, c3, c4, v1, q1, if_true, if_false], by omega, by rw [es], by rw [es, ← h2, m]⟩
    · rintro x ⟨-, rfl, h2⟩
      rw [Nat.sub_self] at h2 ⊢
      have c1 : nI 0 - 1 < 0 := by decide
      exact ⟨.inl (nI 0 - 1), by simp only [fX1_heldOn_l9, c1, if_true], by show some (0 : Int32) = _; rw [← h2]; rfl⟩
  obtain ⟨r, k1, k2⟩ := key
  simp only [fX1_heldOn, hsp, Option.bind_some, k1, k2]
/-- the value of a pair on a day, by any row of holdings -/
def isVal (n : Nat) (E : Nat → Ent) (a b d v : Nat) : Prop := (v = 0 ∧ ∀ i, i < n → (E i).1 = a → (E i).2.1 = b → d < (E i).2.2.2) ∨ ∃ i, i < n ∧ (E i).1 = a ∧ (E i).2.1 = b ∧ (E i).2.2.2 ≤ d ∧ (E i).2.2.1 = v ∧ ∀ j, j < n → (E j).1 = a → (E j).2.1 = b → (E j).2.2.2 ≤ d → (E j).2.2.2 ≤ (E i).2.2.2
theorem isVal_one {n : Nat} {C M : Nat → Ent} {a b d v w : Nat} (kC : KeyD n C) (cm : ∀ j, j < n → ∃ i, i < n ∧ C i = M j) (mc : ∀ i, i < n → ∃ j, j < n ∧ M j = C i) (h1 : isVal n C a b d v) (h2 : isVal n M a b d w) : v = w := by
  rcases h1 with ⟨h1, q1⟩ | ⟨i, hi, i1, i2, i3, i4, i5⟩ <;> rcases h2 with ⟨h2, q2⟩ | ⟨j, hj, j1, j2, j3, j4, j5⟩
  · omega
  · obtain ⟨i, hi, e⟩ := cm j hj
    have := q1 i hi (by rw [e]; exact j1) (by rw [e]; exact j2)
    rw [e] at this; omega
  · obtain ⟨j, hj, e⟩ := mc i hi
    have := q2 j hj (by rw [e]; exact i1) (by rw [e]; exact i2)
    rw [e] at this; omega
  · obtain ⟨i', hi', e'⟩ := cm j hj
    obtain ⟨j', hj', e⟩ := mc i hi
    have a1 := i5 i' hi' (by rw [e']; exact j1) (by rw [e']; exact j2) (by rw [e']; exact j3)
    have a2 := j5 j' hj' (by rw [e]; exact i1) (by rw [e]; exact i2) (by rw [e]; exact i3)
    rw [e'] at a1
    rw [e] at a2
    have : i = i' := kC i i' hi hi' (by rw [e', i1, j1]) (by rw [e', i2, j2]) (by rw [e']; omega)
    subst this
    rw [← i4, ← j4, e']
theorem matN_val {n s : Nat} {C : Nat → Ent} {d : Nat} (hs : ∀ i j, i < j → j < n → (C i).2.2.2 ≤ (C j).2.2.2) (h1 : s ≤ n) (h2 : ∀ i, i < s → (C i).2.2.2 ≤ d) (h3 : ∀ i, s ≤ i → i < n → d < (C i).2.2.2) (a b : Nat) : isVal n C a b d (matN C s a b) := by
  have gen : ∀ r, r ≤ s → (matN C r a b = 0 ∧ ∀ i, i < r → (C i).1 = a → (C i).2.1 = b → False) ∨ ∃ i, i < r ∧ (C i).1 = a ∧ (C i).2.1 = b ∧ (C i).2.2.1 = matN C r a b ∧ ∀ j, i < j → j < r → (C j).1 = a → (C j).2.1 = b → False := by
    intro r
    induction r with
    | zero => intro _; exact Or.inl ⟨rfl, fun i hi => by omega⟩
    | succ r ih =>
      intro hr
      have m : matN C (r + 1) a b = if (C r).1 = a ∧ (C r).2.1 = b then (C r).2.2.1 else matN C r a b := rfl
      by_cases g : (C r).1 = a ∧ (C r).2.1 = b
      · rw [if_pos g] at m
        exact Or.inr ⟨r, by omega, g.1, g.2, m.symm, fun j h1 h2 => by omega⟩
      · rw [if_neg g] at m
        rw [m]
        rcases ih (by omega) with ⟨e1, e2⟩ | ⟨i, e1, e2, e3, e4, e5⟩
        · refine Or.inl ⟨e1, fun i hi h1 h2 => ?_⟩
          by_cases w : i = r
          · subst w; exact g ⟨h1, h2⟩
          · exact e2 i (by omega) h1 h2
        · refine Or.inr ⟨i, by omega, e2, e3, e4, fun j h1 h2 h3 h4 => ?_⟩
          by_cases w : j = r
          · subst w; exact g ⟨h3, h4⟩
          · exact e5 j h1 (by omega) h3 h4
  rcases gen s (Nat.le_refl _) with ⟨e1, e2⟩ | ⟨i, e1, e2, e3, e4, e5⟩
  · refine Or.inl ⟨e1, fun i hi q1 q2 => ?_⟩
    rcases Nat.lt_or_ge i s with w | w
    · exact (e2 i w q1 q2).elim
    · exact h3 i w hi
  · refine Or.inr ⟨i, by omega, e2, e3, h2 i e1, e4, fun j hj q1 q2 q3 => ?_⟩
    rcases Nat.lt_or_ge j s with w | w
    · rcases Nat.lt_trichotomy j i with x | x | x
      · exact hs j i x (by omega)
      · subst x; exact Nat.le_refl _
      · exact (e5 j x w q1 q2).elim
    · have := h3 j w hj; omega
