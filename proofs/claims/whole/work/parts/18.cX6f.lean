def rX6_total : Room := { frames := 4, cells := 0, slots := 0, locals := 109 }
theorem kX6_total_X6 : ∀ w ∈ wsX60, w ∈ wsX6_total := fun w h => (List.mem_cons_of_mem _ (List.mem_append_right _ h))
theorem mX6_total_1 : Cond.fieldLink RX6 76 "SmokeLedgerModel" "thrown" "I" ∈ wsX6_total := List.mem_of_getElem? (i := 1) rfl
theorem mX6_total_3 : Cond.constantLong RX6 117 (-1) ∈ wsX6_total := List.mem_of_getElem? (i := 3) rfl
theorem mX6_total_2 : Cond.constantLong RX6 119 (-2) ∈ wsX6_total := List.mem_of_getElem? (i := 2) rfl
set_option maxHeartbeats 4000000 in
set_option maxRecDepth 100000 in
theorem ct_X6_total (l : Launch) (dC : Nat → ClassId) (dI : Nat → Nat → Nat) (a b : Nat → Nat) (cI cJ cZ : ClassId) (sz : Nat) (st : MS) (x1 : Int32) (x2 : Int32) (x3 : Int32) (x4 : Int32) (x5 : Int32) (res : Int64 × MS) (hf : fX6_total st x1 x2 x3 x4 x5 = some res) : Met l yX6_total wsX6_total rX6_total (Pm (dC, dI) (tyT cI cJ cZ) (WX6 a b cI cJ cZ st) sz [.ref (a 0), .int x1, .int x2, .int x3, .int x4, .int x5]) (Qm (dC, dI) (some (.long res.1)) (WX6 a b cI cJ cZ res.2) (va_A (WX6 a b cI cJ cZ st) sz)) 0 0 (va_A (WX6 a b cI cJ cZ st) sz) := by
  refine Met.ofW (cc := cX6_total) (maxL := 6) (ret := (some .long)) (by decide) rfl ?_
  intro p e s m args below meth c s₁ B hml hv
  obtain ⟨hargs, hsz, hP, hK, hD0⟩ := hv
  have hx := B.exec
  have hb := B.bytes
  have hr := B.returns
  have hts := atoms_spec (ws := wsX6_total) B.pre
  have hown : s.vm.findClass RX6 = some m.cls := findClass_of_methodNamed B.named
  have hlocks := B.notSynchronized
  subst hsz
  have hD := hD0.self (sz := s.heap.size)
  generalize hAe : va_A (WX6 a b cI cJ cZ st) s.heap.size = A at hD ⊢
  have hA : ∀ q : Nat, s.heap.size ≤ q → A q := fun q h => by rw [← hAe]; exact Or.inr h
  have hl := lv_entry ([.ref (a 0), .int x1, .int x2, .int x3, .int x4, .int x5]) (n := 6) (Nat.le_of_ble_eq_true rfl)
  refine W.eq (hargs ▸ lg_entry_eq m [.ref (a 0), .int x1, .int x2, .int x3, .int x4, .int x5] 6) ?_
  generalize (lg_sl ([.ref (a 0), .int x1, .int x2, .int x3, .int x4, .int x5]) ++ List.replicate (6 - (lg_sl ([.ref (a 0), .int x1, .int x2, .int x3, .int x4, .int x5])).length) Slot.unset).toArray = ls at hl ⊢
  have hl : lv_has ls 6 [(0, .ref (a 0)), (1, .int x1), (2, .int x2), (3, .int x3), (4, .int x4), (5, .int x5)] := hl
  obtain ⟨QQ, hQ⟩ : ∃ QQ : State → Prop, QQ = MQ below (Qm (dC, dI) (some (.long res.1)) (WX6 a b cI cJ cZ res.2) A) args s 0 0 (A) := ⟨_, rfl⟩
  rw [← hQ]
  have main : ∀ (H : Heap) (locs : List Loc) (ls : Array Slot), IN (dC, dI) (WX6 a b cI cJ cZ st) A s.heap H locs → lv_has ls 6 [(0, .ref (a 0)), (1, .int x1), (2, .int x2), (3, .int x3), (4, .int x4), (5, .int x5)] → W p l e (headSpec wsX6_total rX6_total).room s m args below meth c H locs 0 0 QQ (F0 m 0 ls []) := by
    intro H locs ls hin hl
    obtain ⟨hP, hD, hS⟩ := hin
    unfold fX6_total at hf
    refine lv_aload_n hx hb dX6_total_0 rfl (lv_at hl 0 rfl) ?_
    refine lv_iconst (v := (0 : Int32)) hx hb dX6_total_1 (by decide) ?_
    refine va_put (D := (dC, dI)) (ci := 6) (v := .int (0 : Int32)) (ty := .int) (C := RX6) (T := TX6) (N := 26) hx hb hts kX6_total_X6 tyX6 tyX6_ok nmX6 hown hK hP hD hS 0 rfl rfl 0 (by decide) (hts _ mX6_total_1) (fun _ h9 => h9) rfl (by decide +kernel) rfl rfl (Nat.le_of_ble_eq_true rfl) dX6_total_2 (fun H locs hP hD hS => ?_)
    obtain ⟨s1, hs2, hf⟩ := bnd_e hf
    replace hP := putP_thrown hs2 hP
    replace hD := putD_thrown hs2 hD
    refine lv_iload_n hx hb dX6_total_5 rfl (lv_at hl 1 rfl) ?_
    obtain ⟨r3, hc4, hf⟩ := bind_s hf
    refine cpS (v := .int r3) ⟨hx, hb, hml, hown, hts⟩ (ct_X6_noYear l dC dI cI cJ cZ x1 r3 hc4) (va_cwS 1 hts gX6_total_X6_noYear rfl rfl rfl (by decide +kernel) ⟨(Nat.le_of_ble_eq_true rfl), (Nat.le_of_ble_eq_true rfl)⟩) hK hP [] rfl rfl hl.1 rfl (Nat.le_of_ble_eq_true rfl) (Nat.le_of_ble_eq_true rfl) (Nat.le_of_ble_eq_true rfl) dX6_total_6 ?_
    refine lv_if_eq (tgt := 18) hx hb dX6_total_9 (by decide) (fun c5 => ?_) (fun c5 => ?_)
    · replace hf := it_p c5 hf
      refine lv_aload_n hx hb dX6_total_18 rfl (lv_at hl 0 rfl) ?_
      refine lv_iload_n hx hb dX6_total_19 rfl (lv_at hl 2 rfl) ?_
      obtain ⟨r6, hc7, hf⟩ := bind_s hf
      refine cpV (v := .int r6) ⟨hx, hb, hml, hown, hts⟩ (ct_X6_noAs l dC dI a b cI cJ cZ s1 x2 r6 hc7) (cwV 1 hts gX6_total_X6_noAs rfl rfl rfl (by decide +kernel) ⟨(Nat.le_of_ble_eq_true rfl), (Nat.le_of_ble_eq_true rfl)⟩) hK hP [0, 1, 2, 3, 4, 5, 6, 7, 8, 9, 10, 11, 12, 13, 14, 15, 16, 17, 18, 19, 20] rfl rfl rfl rfl hl.1 rfl (Nat.le_of_ble_eq_true rfl) (Nat.le_of_ble_eq_true rfl) (Nat.le_of_ble_eq_true rfl) dX6_total_20 ?_
      refine lv_if_eq (tgt := 32) hx hb dX6_total_23 (by decide) (fun c8 => ?_) (fun c8 => ?_)
      · replace hf := it_p c8 hf
        refine lv_aload_n hx hb dX6_total_32 rfl (lv_at hl 0 rfl) ?_
        refine lv_bipush (v := (-9 : Int32)) hx hb dX6_total_33 (by decide) ?_
        refine lv_iload_n hx hb dX6_total_35 rfl (lv_at hl 1 rfl) ?_
        refine lv_bipush (v := (-9 : Int32)) hx hb dX6_total_36 (by decide) ?_
        refine lv_iload_n hx hb dX6_total_38 rfl (lv_at hl 2 rfl) ?_
        refine lv_iload_n hx hb dX6_total_39 rfl (lv_at hl 3 rfl) ?_
        refine lv_iload hx hb dX6_total_40 (lv_at hl 4 rfl) ?_
        refine lv_iload hx hb dX6_total_42 (lv_at hl 5 rfl) ?_
        obtain ⟨p9, hc10, hf⟩ := bind_s hf
        refine cmV (wr := []) ⟨hx, hb, hml, hown, hts⟩ (ct_X6_totalOf l dC dI a b cI cJ cZ H.size s1 (-9 : Int32) x1 (-9 : Int32) x2 x3 x4 x5 p9 hc10) (cwV 7 hts gX6_total_X6_totalOf rfl rfl rfl (by decide +kernel) ⟨(Nat.le_of_ble_eq_true rfl), (Nat.le_of_ble_eq_true rfl)⟩) hK hP hD hS hA [0, 1, 2, 3, 4, 5, 6, 7, 8, 9, 10, 11, 12, 13, 14, 15, 16, 17, 18, 19, 20] [] rfl rfl (by decide) rfl (by decide) (by decide) rfl rfl rfl hl.1 rfl (Nat.le_of_ble_eq_true rfl) (Nat.le_of_ble_eq_true rfl) (Nat.le_of_ble_eq_true rfl) dX6_total_44 (fun H locs hP hD hS => ?_)
        replace hP : va_P (dC, dI) vwCl (WX6 a b cI cJ cZ p9.2) H := hP
        replace hD : va_D A (WX6 a b cI cJ cZ p9.2) := hD
        refine W.eq (g2 := F0 m 47 ls [.long p9.1]) rfl ?_
        obtain rfl := Option.some.inj hf
        rw [hQ]
        exact W.lret hx hb hr (fun t ht hW => ⟨rfl, ⟨by rw [ht]; exact hP, hD⟩, hS.F ht⟩) hS.2.2 dX6_total_47
      · replace hf := it_n c8 hf
        refine lv_ldc2 (v := (-1 : Int64)) hx hb hown (hts _ mX6_total_3) dX6_total_26 ?_
        refine lv_goto (tgt := 47) hx hb dX6_total_29 (by decide) ?_
        obtain rfl := Option.some.inj hf
        rw [hQ]
        exact W.lret hx hb hr (fun t ht hW => ⟨rfl, ⟨by rw [ht]; exact hP, hD⟩, hS.F ht⟩) hS.2.2 dX6_total_47
    · replace hf := it_n c5 hf
      refine lv_ldc2 (v := (-2 : Int64)) hx hb hown (hts _ mX6_total_2) dX6_total_12 ?_
      refine lv_goto (tgt := 47) hx hb dX6_total_15 (by decide) ?_
      obtain rfl := Option.some.inj hf
      rw [hQ]
      exact W.lret hx hb hr (fun t ht hW => ⟨rfl, ⟨by rw [ht]; exact hP, hD⟩, hS.F ht⟩) hS.2.2 dX6_total_47
  exact main s.heap [] ls ⟨hP, hD, va_S.rf⟩ hl
def rX6_anew : Room := { frames := 4, cells := 0, slots := 0, locals := 109 }
theorem kX6_anew_X6 : ∀ w ∈ wsX60, w ∈ wsX6_anew := fun w h => (List.mem_cons_of_mem _ (List.mem_append_right _ h))
theorem mX6_anew_1 : Cond.fieldLink RX6 76 "SmokeLedgerModel" "thrown" "I" ∈ wsX6_anew := List.mem_of_getElem? (i := 1) rfl
theorem mX6_anew_2 : Cond.constantLong RX6 119 (-2) ∈ wsX6_anew := List.mem_of_getElem? (i := 2) rfl
theorem mX6_anew_3 : Cond.constantLong RX6 117 (-1) ∈ wsX6_anew := List.mem_of_getElem? (i := 3) rfl
set_option maxHeartbeats 4000000 in
set_option maxRecDepth 100000 in
theorem ct_X6_anew (l : Launch) (dC : Nat → ClassId) (dI : Nat → Nat → Nat) (a b : Nat → Nat) (cI cJ cZ : ClassId) (sz : Nat) (st : MS) (x1 : Int32) (x2 : Int32) (x3 : Int32) (x4 : Int32) (x5 : Int32) (x6 : Int32) (res : Int64 × MS) (hf : fX6_anew st x1 x2 x3 x4 x5 x6 = some res) : Met l yX6_anew wsX6_anew rX6_anew (Pm (dC, dI) (tyT cI cJ cZ) (WX6 a b cI cJ cZ st) sz [.ref (a 0), .int x1, .int x2, .int x3, .int x4, .int x5, .int x6]) (Qm (dC, dI) (some (.long res.1)) (WX6 a b cI cJ cZ res.2) (va_A (WX6 a b cI cJ cZ st) sz)) 0 0 (va_A (WX6 a b cI cJ cZ st) sz) := by
  refine Met.ofW (cc := cX6_anew) (maxL := 7) (ret := (some .long)) (by decide) rfl ?_
  intro p e s m args below meth c s₁ B hml hv
  obtain ⟨hargs, hsz, hP, hK, hD0⟩ := hv
  have hx := B.exec
  have hb := B.bytes
  have hr := B.returns
  have hts := atoms_spec (ws := wsX6_anew) B.pre
  have hown : s.vm.findClass RX6 = some m.cls := findClass_of_methodNamed B.named
  have hlocks := B.notSynchronized
  subst hsz
  have hD := hD0.self (sz := s.heap.size)
  generalize hAe : va_A (WX6 a b cI cJ cZ st) s.heap.size = A at hD ⊢
  have hA : ∀ q : Nat, s.heap.size ≤ q → A q := fun q h => by rw [← hAe]; exact Or.inr h
  have hl := lv_entry ([.ref (a 0), .int x1, .int x2, .int x3, .int x4, .int x5, .int x6]) (n := 7) (Nat.le_of_ble_eq_true rfl)
  refine W.eq (hargs ▸ lg_entry_eq m [.ref (a 0), .int x1, .int x2, .int x3, .int x4, .int x5, .int x6] 7) ?_
  generalize (lg_sl ([.ref (a 0), .int x1, .int x2, .int x3, .int x4, .int x5, .int x6]) ++ List.replicate (7 - (lg_sl ([.ref (a 0), .int x1, .int x2, .int x3, .int x4, .int x5, .int x6])).length) Slot.unset).toArray = ls at hl ⊢
  have hl : lv_has ls 7 [(0, .ref (a 0)), (1, .int x1), (2, .int x2), (3, .int x3), (4, .int x4), (5, .int x5), (6, .int x6)] := hl
  obtain ⟨QQ, hQ⟩ : ∃ QQ : State → Prop, QQ = MQ below (Qm (dC, dI) (some (.long res.1)) (WX6 a b cI cJ cZ res.2) A) args s 0 0 (A) := ⟨_, rfl⟩
  rw [← hQ]
  have b19 : ∀ (st : MS), fX6_anew_b19 st = some res → (∀ (H : Heap) (locs : List Loc) (ls : Array Slot), IN (dC, dI) (WX6 a b cI cJ cZ st) A s.heap H locs → lv_has ls 7 [] → W p l e (headSpec wsX6_anew rX6_anew).room s m args below meth c H locs 0 0 QQ (F0 m 19 ls [])) := by
    intro st hf
    intro H locs ls hin hl
    obtain ⟨hP, hD, hS⟩ := hin
    unfold fX6_anew_b19 at hf
    refine lv_ldc2 (v := (-2 : Int64)) hx hb hown (hts _ mX6_anew_2) dX6_anew_19 ?_
    refine lv_goto (tgt := 54) hx hb dX6_anew_22 (by decide) ?_
    obtain rfl := Option.some.inj hf
    rw [hQ]
    exact W.lret hx hb hr (fun t ht hW => ⟨rfl, ⟨by rw [ht]; exact hP, hD⟩, hS.F ht⟩) hS.2.2 dX6_anew_54
  have main : ∀ (H : Heap) (locs : List Loc) (ls : Array Slot), IN (dC, dI) (WX6 a b cI cJ cZ st) A s.heap H locs → lv_has ls 7 [(0, .ref (a 0)), (1, .int x1), (2, .int x2), (3, .int x3), (4, .int x4), (5, .int x5), (6, .int x6)] → W p l e (headSpec wsX6_anew rX6_anew).room s m args below meth c H locs 0 0 QQ (F0 m 0 ls []) := by
    intro H locs ls hin hl
    obtain ⟨hP, hD, hS⟩ := hin
    unfold fX6_anew at hf
    refine lv_aload_n hx hb dX6_anew_0 rfl (lv_at hl 0 rfl) ?_
    refine lv_iconst (v := (0 : Int32)) hx hb dX6_anew_1 (by decide) ?_
    refine va_put (D := (dC, dI)) (ci := 6) (v := .int (0 : Int32)) (ty := .int) (C := RX6) (T := TX6) (N := 26) hx hb hts kX6_anew_X6 tyX6 tyX6_ok nmX6 hown hK hP hD hS 0 rfl rfl 0 (by decide) (hts _ mX6_anew_1) (fun _ h9 => h9) rfl (by decide +kernel) rfl rfl (Nat.le_of_ble_eq_true rfl) dX6_anew_2 (fun H locs hP hD hS => ?_)
    obtain ⟨s1, hs2, hf⟩ := bnd_e hf
    replace hP := putP_thrown hs2 hP
    replace hD := putD_thrown hs2 hD
    refine lv_iload_n hx hb dX6_anew_5 rfl (lv_at hl 1 rfl) ?_
    obtain ⟨r3, hc4, hf⟩ := bind_s hf
    refine cpS (v := .int r3) ⟨hx, hb, hml, hown, hts⟩ (ct_X6_noYear l dC dI cI cJ cZ x1 r3 hc4) (va_cwS 1 hts gX6_anew_X6_noYear rfl rfl rfl (by decide +kernel) ⟨(Nat.le_of_ble_eq_true rfl), (Nat.le_of_ble_eq_true rfl)⟩) hK hP [] rfl rfl hl.1 rfl (Nat.le_of_ble_eq_true rfl) (Nat.le_of_ble_eq_true rfl) (Nat.le_of_ble_eq_true rfl) dX6_anew_6 ?_
    refine lv_if_ne (tgt := 19) hx hb dX6_anew_9 (by decide) (fun c5 => ?_) (fun c5 => ?_)
    · replace hf := it_n c5 hf
      exact b19 s1 hf H locs ls ⟨hP, hD, hS⟩ (lv_sub hl [] rfl)
    · replace hf := it_p c5 hf
      refine lv_iload_n hx hb dX6_anew_12 rfl (lv_at hl 2 rfl) ?_
      obtain ⟨r6, hc7, hf⟩ := bind_s hf
      refine cpS (v := .int r6) ⟨hx, hb, hml, hown, hts⟩ (ct_X6_noDay l dC dI cI cJ cZ x2 r6 hc7) (va_cwS 1 hts gX6_anew_X6_noDay rfl rfl rfl (by decide +kernel) ⟨(Nat.le_of_ble_eq_true rfl), (Nat.le_of_ble_eq_true rfl)⟩) hK hP [] rfl rfl hl.1 rfl (Nat.le_of_ble_eq_true rfl) (Nat.le_of_ble_eq_true rfl) (Nat.le_of_ble_eq_true rfl) dX6_anew_13 ?_
      refine lv_if_eq (tgt := 25) hx hb dX6_anew_16 (by decide) (fun c8 => ?_) (fun c8 => ?_)
      · replace hf := it_p c8 hf
        refine lv_aload_n hx hb dX6_anew_25 rfl (lv_at hl 0 rfl) ?_
        refine lv_iload_n hx hb dX6_anew_26 rfl (lv_at hl 3 rfl) ?_
        obtain ⟨r9, hc10, hf⟩ := bind_s hf
        refine cpV (v := .int r9) ⟨hx, hb, hml, hown, hts⟩ (ct_X6_noAs l dC dI a b cI cJ cZ s1 x3 r9 hc10) (cwV 1 hts gX6_anew_X6_noAs rfl rfl rfl (by decide +kernel) ⟨(Nat.le_of_ble_eq_true rfl), (Nat.le_of_ble_eq_true rfl)⟩) hK hP [0, 1, 2, 3, 4, 5, 6, 7, 8, 9, 10, 11, 12, 13, 14, 15, 16, 17, 18, 19, 20] rfl rfl rfl rfl hl.1 rfl (Nat.le_of_ble_eq_true rfl) (Nat.le_of_ble_eq_true rfl) (Nat.le_of_ble_eq_true rfl) dX6_anew_27 ?_
        refine lv_if_eq (tgt := 39) hx hb dX6_anew_30 (by decide) (fun c11 => ?_) (fun c11 => ?_)
        · replace hf := it_p c11 hf
          refine lv_aload_n hx hb dX6_anew_39 rfl (lv_at hl 0 rfl) ?_
          refine lv_bipush (v := (-9 : Int32)) hx hb dX6_anew_40 (by decide) ?_
          refine lv_iload_n hx hb dX6_anew_42 rfl (lv_at hl 1 rfl) ?_
          refine lv_iload_n hx hb dX6_anew_43 rfl (lv_at hl 2 rfl) ?_
          refine lv_iload_n hx hb dX6_anew_44 rfl (lv_at hl 3 rfl) ?_
          refine lv_iload hx hb dX6_anew_45 (lv_at hl 4 rfl) ?_
          refine lv_iload hx hb dX6_anew_47 (lv_at hl 5 rfl) ?_
          refine lv_iload hx hb dX6_anew_49 (lv_at hl 6 rfl) ?_
          obtain ⟨p12, hc13, hf⟩ := bind_s hf
          refine cmV (wr := []) ⟨hx, hb, hml, hown, hts⟩ (ct_X6_totalOf l dC dI a b cI cJ cZ H.size s1 (-9 : Int32) x1 x2 x3 x4 x5 x6 p12 hc13) (cwV 7 hts gX6_anew_X6_totalOf rfl rfl rfl (by decide +kernel) ⟨(Nat.le_of_ble_eq_true rfl), (Nat.le_of_ble_eq_true rfl)⟩) hK hP hD hS hA [0, 1, 2, 3, 4, 5, 6, 7, 8, 9, 10, 11, 12, 13, 14, 15, 16, 17, 18, 19, 20] [] rfl rfl (by decide) rfl (by decide) (by decide) rfl rfl rfl hl.1 rfl (Nat.le_of_ble_eq_true rfl) (Nat.le_of_ble_eq_true rfl) (Nat.le_of_ble_eq_true rfl) dX6_anew_51 (fun H locs hP hD hS => ?_)
          replace hP : va_P (dC, dI) vwCl (WX6 a b cI cJ cZ p12.2) H := hP
          replace hD : va_D A (WX6 a b cI cJ cZ p12.2) := hD
          refine W.eq (g2 := F0 m 54 ls [.long p12.1]) rfl ?_
          obtain rfl := Option.some.inj hf
          rw [hQ]
          exact W.lret hx hb hr (fun t ht hW => ⟨rfl, ⟨by rw [ht]; exact hP, hD⟩, hS.F ht⟩) hS.2.2 dX6_anew_54
        · replace hf := it_n c11 hf
          refine lv_ldc2 (v := (-1 : Int64)) hx hb hown (hts _ mX6_anew_3) dX6_anew_33 ?_
          refine lv_goto (tgt := 54) hx hb dX6_anew_36 (by decide) ?_
          obtain rfl := Option.some.inj hf
          rw [hQ]
          exact W.lret hx hb hr (fun t ht hW => ⟨rfl, ⟨by rw [ht]; exact hP, hD⟩, hS.F ht⟩) hS.2.2 dX6_anew_54
      · replace hf := it_n c8 hf
        exact b19 s1 hf H locs ls ⟨hP, hD, hS⟩ (lv_sub hl [] rfl)
  exact main s.heap [] ls ⟨hP, hD, va_S.rf⟩ hl
def rX6_part : Room := { frames := 4, cells := 0, slots := 0, locals := 109 }
theorem kX6_part_X6 : ∀ w ∈ wsX60, w ∈ wsX6_part := fun w h => (List.mem_cons_of_mem _ (List.mem_append_right _ h))
theorem mX6_part_1 : Cond.fieldLink RX6 76 "SmokeLedgerModel" "thrown" "I" ∈ wsX6_part := List.mem_of_getElem? (i := 1) rfl
theorem mX6_part_2 : Cond.constantLong RX6 117 (-1) ∈ wsX6_part := List.mem_of_getElem? (i := 2) rfl
theorem mX6_part_3 : Cond.constantLong RX6 119 (-2) ∈ wsX6_part := List.mem_of_getElem? (i := 3) rfl
set_option maxHeartbeats 4000000 in
set_option maxRecDepth 100000 in
theorem ct_X6_part (l : Launch) (dC : Nat → ClassId) (dI : Nat → Nat → Nat) (a b : Nat → Nat) (cI cJ cZ : ClassId) (sz : Nat) (st : MS) (x1 : Int32) (x2 : Int32) (x3 : Int32) (x4 : Int32) (x5 : Int32) (x6 : Int32) (res : Int64 × MS) (hf : fX6_part st x1 x2 x3 x4 x5 x6 = some res) : Met l yX6_part wsX6_part rX6_part (Pm (dC, dI) (tyT cI cJ cZ) (WX6 a b cI cJ cZ st) sz [.ref (a 0), .int x1, .int x2, .int x3, .int x4, .int x5, .int x6]) (Qm (dC, dI) (some (.long res.1)) (WX6 a b cI cJ cZ res.2) (va_A (WX6 a b cI cJ cZ st) sz)) 0 0 (va_A (WX6 a b cI cJ cZ st) sz) := by
  refine Met.ofW (cc := cX6_part) (maxL := 7) (ret := (some .long)) (by decide) rfl ?_
  intro p e s m args below meth c s₁ B hml hv
  obtain ⟨hargs, hsz, hP, hK, hD0⟩ := hv
  have hx := B.exec
  have hb := B.bytes
  have hr := B.returns
  have hts := atoms_spec (ws := wsX6_part) B.pre
  have hown : s.vm.findClass RX6 = some m.cls := findClass_of_methodNamed B.named
  have hlocks := B.notSynchronized
  subst hsz
  have hD := hD0.self (sz := s.heap.size)
  generalize hAe : va_A (WX6 a b cI cJ cZ st) s.heap.size = A at hD ⊢
  have hA : ∀ q : Nat, s.heap.size ≤ q → A q := fun q h => by rw [← hAe]; exact Or.inr h
  have hl := lv_entry ([.ref (a 0), .int x1, .int x2, .int x3, .int x4, .int x5, .int x6]) (n := 7) (Nat.le_of_ble_eq_true rfl)
  refine W.eq (hargs ▸ lg_entry_eq m [.ref (a 0), .int x1, .int x2, .int x3, .int x4, .int x5, .int x6] 7) ?_
  generalize (lg_sl ([.ref (a 0), .int x1, .int x2, .int x3, .int x4, .int x5, .int x6]) ++ List.replicate (7 - (lg_sl ([.ref (a 0), .int x1, .int x2, .int x3, .int x4, .int x5, .int x6])).length) Slot.unset).toArray = ls at hl ⊢
  have hl : lv_has ls 7 [(0, .ref (a 0)), (1, .int x1), (2, .int x2), (3, .int x3), (4, .int x4), (5, .int x5), (6, .int x6)] := hl
  obtain ⟨QQ, hQ⟩ : ∃ QQ : State → Prop, QQ = MQ below (Qm (dC, dI) (some (.long res.1)) (WX6 a b cI cJ cZ res.2) A) args s 0 0 (A) := ⟨_, rfl⟩
  rw [← hQ]
  have main : ∀ (H : Heap) (locs : List Loc) (ls : Array Slot), IN (dC, dI) (WX6 a b cI cJ cZ st) A s.heap H locs → lv_has ls 7 [(0, .ref (a 0)), (1, .int x1), (2, .int x2), (3, .int x3), (4, .int x4), (5, .int x5), (6, .int x6)] → W p l e (headSpec wsX6_part rX6_part).room s m args below meth c H locs 0 0 QQ (F0 m 0 ls []) := by
    intro H locs ls hin hl
    obtain ⟨hP, hD, hS⟩ := hin
    unfold fX6_part at hf
    refine lv_aload_n hx hb dX6_part_0 rfl (lv_at hl 0 rfl) ?_
    refine lv_iconst (v := (0 : Int32)) hx hb dX6_part_1 (by decide) ?_
    refine va_put (D := (dC, dI)) (ci := 6) (v := .int (0 : Int32)) (ty := .int) (C := RX6) (T := TX6) (N := 26) hx hb hts kX6_part_X6 tyX6 tyX6_ok nmX6 hown hK hP hD hS 0 rfl rfl 0 (by decide) (hts _ mX6_part_1) (fun _ h9 => h9) rfl (by decide +kernel) rfl rfl (Nat.le_of_ble_eq_true rfl) dX6_part_2 (fun H locs hP hD hS => ?_)
    obtain ⟨s1, hs2, hf⟩ := bnd_e hf
    replace hP := putP_thrown hs2 hP
    replace hD := putD_thrown hs2 hD
    refine lv_aload_n hx hb dX6_part_5 rfl (lv_at hl 0 rfl) ?_
    refine lv_iload_n hx hb dX6_part_6 rfl (lv_at hl 1 rfl) ?_
    obtain ⟨r3, hc4, hf⟩ := bind_s hf
    refine cpV (v := .int r3) ⟨hx, hb, hml, hown, hts⟩ (ct_X6_noUnit l dC dI a b cI cJ cZ s1 x1 r3 hc4) (cwV 1 hts gX6_part_X6_noUnit rfl rfl rfl (by decide +kernel) ⟨(Nat.le_of_ble_eq_true rfl), (Nat.le_of_ble_eq_true rfl)⟩) hK hP [0, 1, 2, 3, 4, 5, 6, 7, 8, 9, 10, 11, 12, 13, 14, 15, 16, 17, 18, 19, 20] rfl rfl rfl rfl hl.1 rfl (Nat.le_of_ble_eq_true rfl) (Nat.le_of_ble_eq_true rfl) (Nat.le_of_ble_eq_true rfl) dX6_part_7 ?_
    refine lv_if_eq (tgt := 19) hx hb dX6_part_10 (by decide) (fun c5 => ?_) (fun c5 => ?_)
    · replace hf := it_p c5 hf
      refine lv_iload_n hx hb dX6_part_19 rfl (lv_at hl 2 rfl) ?_
      obtain ⟨r6, hc7, hf⟩ := bind_s hf
      refine cpS (v := .int r6) ⟨hx, hb, hml, hown, hts⟩ (ct_X6_noYear l dC dI cI cJ cZ x2 r6 hc7) (va_cwS 1 hts gX6_part_X6_noYear rfl rfl rfl (by decide +kernel) ⟨(Nat.le_of_ble_eq_true rfl), (Nat.le_of_ble_eq_true rfl)⟩) hK hP [] rfl rfl hl.1 rfl (Nat.le_of_ble_eq_true rfl) (Nat.le_of_ble_eq_true rfl) (Nat.le_of_ble_eq_true rfl) dX6_part_20 ?_
      refine lv_if_eq (tgt := 32) hx hb dX6_part_23 (by decide) (fun c8 => ?_) (fun c8 => ?_)
      · replace hf := it_p c8 hf
        refine lv_aload_n hx hb dX6_part_32 rfl (lv_at hl 0 rfl) ?_
        refine lv_iload_n hx hb dX6_part_33 rfl (lv_at hl 3 rfl) ?_
        obtain ⟨r9, hc10, hf⟩ := bind_s hf
        refine cpV (v := .int r9) ⟨hx, hb, hml, hown, hts⟩ (ct_X6_noAs l dC dI a b cI cJ cZ s1 x3 r9 hc10) (cwV 1 hts gX6_part_X6_noAs rfl rfl rfl (by decide +kernel) ⟨(Nat.le_of_ble_eq_true rfl), (Nat.le_of_ble_eq_true rfl)⟩) hK hP [0, 1, 2, 3, 4, 5, 6, 7, 8, 9, 10, 11, 12, 13, 14, 15, 16, 17, 18, 19, 20] rfl rfl rfl rfl hl.1 rfl (Nat.le_of_ble_eq_true rfl) (Nat.le_of_ble_eq_true rfl) (Nat.le_of_ble_eq_true rfl) dX6_part_34 ?_
        refine lv_if_eq (tgt := 46) hx hb dX6_part_37 (by decide) (fun c11 => ?_) (fun c11 => ?_)
        · replace hf := it_p c11 hf
          refine lv_aload_n hx hb dX6_part_46 rfl (lv_at hl 0 rfl) ?_
          refine lv_iload_n hx hb dX6_part_47 rfl (lv_at hl 1 rfl) ?_
          refine lv_iload_n hx hb dX6_part_48 rfl (lv_at hl 2 rfl) ?_
          refine lv_bipush (v := (-9 : Int32)) hx hb dX6_part_49 (by decide) ?_
          refine lv_iload_n hx hb dX6_part_51 rfl (lv_at hl 3 rfl) ?_
          refine lv_iload hx hb dX6_part_52 (lv_at hl 4 rfl) ?_
          refine lv_iload hx hb dX6_part_54 (lv_at hl 5 rfl) ?_
          refine lv_iload hx hb dX6_part_56 (lv_at hl 6 rfl) ?_
          obtain ⟨p12, hc13, hf⟩ := bind_s hf
          refine cmV (wr := []) ⟨hx, hb, hml, hown, hts⟩ (ct_X6_totalOf l dC dI a b cI cJ cZ H.size s1 x1 x2 (-9 : Int32) x3 x4 x5 x6 p12 hc13) (cwV 7 hts gX6_part_X6_totalOf rfl rfl rfl (by decide +kernel) ⟨(Nat.le_of_ble_eq_true rfl), (Nat.le_of_ble_eq_true rfl)⟩) hK hP hD hS hA [0, 1, 2, 3, 4, 5, 6, 7, 8, 9, 10, 11, 12, 13, 14, 15, 16, 17, 18, 19, 20] [] rfl rfl (by decide) rfl (by decide) (by decide) rfl rfl rfl hl.1 rfl (Nat.le_of_ble_eq_true rfl) (Nat.le_of_ble_eq_true rfl) (Nat.le_of_ble_eq_true rfl) dX6_part_58 (fun H locs hP hD hS => ?_)
          replace hP : va_P (dC, dI) vwCl (WX6 a b cI cJ cZ p12.2) H := hP
          replace hD : va_D A (WX6 a b cI cJ cZ p12.2) := hD
          refine W.eq (g2 := F0 m 61 ls [.long p12.1]) rfl ?_
          obtain rfl := Option.some.inj hf
          rw [hQ]
          exact W.lret hx hb hr (fun t ht hW => ⟨rfl, ⟨by rw [ht]; exact hP, hD⟩, hS.F ht⟩) hS.2.2 dX6_part_61
        · replace hf := it_n c11 hf
          refine lv_ldc2 (v := (-1 : Int64)) hx hb hown (hts _ mX6_part_2) dX6_part_40 ?_
          refine lv_goto (tgt := 61) hx hb dX6_part_43 (by decide) ?_
          obtain rfl := Option.some.inj hf
          rw [hQ]
          exact W.lret hx hb hr (fun t ht hW => ⟨rfl, ⟨by rw [ht]; exact hP, hD⟩, hS.F ht⟩) hS.2.2 dX6_part_61
      · replace hf := it_n c8 hf
        refine lv_ldc2 (v := (-2 : Int64)) hx hb hown (hts _ mX6_part_3) dX6_part_26 ?_
        refine lv_goto (tgt := 61) hx hb dX6_part_29 (by decide) ?_
        obtain rfl := Option.some.inj hf
        rw [hQ]
        exact W.lret hx hb hr (fun t ht hW => ⟨rfl, ⟨by rw [ht]; exact hP, hD⟩, hS.F ht⟩) hS.2.2 dX6_part_61
    · replace hf := it_n c5 hf
      refine lv_ldc2 (v := (-1 : Int64)) hx hb hown (hts _ mX6_part_2) dX6_part_13 ?_
      refine lv_goto (tgt := 61) hx hb dX6_part_16 (by decide) ?_
      obtain rfl := Option.some.inj hf
      rw [hQ]
      exact W.lret hx hb hr (fun t ht hW => ⟨rfl, ⟨by rw [ht]; exact hP, hD⟩, hS.F ht⟩) hS.2.2 dX6_part_61
  exact main s.heap [] ls ⟨hP, hD, va_S.rf⟩ hl
def rX6_doubles : Room := { frames := 3, cells := 0, slots := 0, locals := 71 }
theorem kX6_doubles_X6 : ∀ w ∈ wsX60, w ∈ wsX6_doubles := fun w h => (List.mem_cons_of_mem _ (List.mem_append_right _ h))
theorem mX6_doubles_1 : Cond.fieldLink RX6 76 "SmokeLedgerModel" "thrown" "I" ∈ wsX6_doubles := List.mem_of_getElem? (i := 1) rfl
theorem mX6_doubles_2 : Cond.fieldLink RX6 90 "SmokeLedgerModel" "rows" "I" ∈ wsX6_doubles := List.mem_of_getElem? (i := 2) rfl
theorem mX6_doubles_3 : Cond.fieldLink RX6 35 "SmokeLedgerModel" "day" "[I" ∈ wsX6_doubles := List.mem_of_getElem? (i := 3) rfl
set_option maxHeartbeats 4000000 in
set_option maxRecDepth 100000 in
theorem ct_X6_doubles (l : Launch) (dC : Nat → ClassId) (dI : Nat → Nat → Nat) (a b : Nat → Nat) (cI cJ cZ : ClassId) (sz : Nat) (st : MS) (x1 : Int32) (res : Int32 × MS) (hf : fX6_doubles st x1 = some res) : Met l yX6_doubles wsX6_doubles rX6_doubles (Pm (dC, dI) (tyT cI cJ cZ) (WX6 a b cI cJ cZ st) sz [.ref (a 0), .int x1]) (Qm (dC, dI) (some (.int res.1)) (WX6 a b cI cJ cZ res.2) (va_A (WX6 a b cI cJ cZ st) sz)) 0 0 (va_A (WX6 a b cI cJ cZ st) sz) := by
  refine Met.ofW (cc := cX6_doubles) (maxL := 4) (ret := (some .int)) (by decide) rfl ?_
  intro p e s m args below meth c s₁ B hml hv
  obtain ⟨hargs, hsz, hP, hK, hD0⟩ := hv
  have hx := B.exec
  have hb := B.bytes
  have hr := B.returns
  have hts := atoms_spec (ws := wsX6_doubles) B.pre
  have hown : s.vm.findClass RX6 = some m.cls := findClass_of_methodNamed B.named
  have hlocks := B.notSynchronized
  subst hsz
  have hD := hD0.self (sz := s.heap.size)
  generalize hAe : va_A (WX6 a b cI cJ cZ st) s.heap.size = A at hD ⊢
  have hA : ∀ q : Nat, s.heap.size ≤ q → A q := fun q h => by rw [← hAe]; exact Or.inr h
  have hl := lv_entry ([.ref (a 0), .int x1]) (n := 4) (Nat.le_of_ble_eq_true rfl)
  refine W.eq (hargs ▸ lg_entry_eq m [.ref (a 0), .int x1] 4) ?_
  generalize (lg_sl ([.ref (a 0), .int x1]) ++ List.replicate (4 - (lg_sl ([.ref (a 0), .int x1])).length) Slot.unset).toArray = ls at hl ⊢
  have hl : lv_has ls 4 [(0, .ref (a 0)), (1, .int x1)] := hl
  obtain ⟨QQ, hQ⟩ : ∃ QQ : State → Prop, QQ = MQ below (Qm (dC, dI) (some (.int res.1)) (WX6 a b cI cJ cZ res.2) A) args s 0 0 (A) := ⟨_, rfl⟩
  rw [← hQ]
  have l19 : ∀ (x1 : Int32) (fu : Nat) (s0 : MS × Int32 × Int32) (r : MS × Int32 × Int32), loopN (fun (s : MS × Int32 × Int32) => fX6_doubles_l19 x1 s.1 s.2.1 s.2.2) fu s0 = some r → (∀ (H : Heap) (locs : List Loc) (ls : Array Slot), IN (dC, dI) (WX6 a b cI cJ cZ r.1) A s.heap H locs → lv_has ls 4 [(0, .ref (a 0)), (1, .int x1), (2, .int r.2.1), (3, .int r.2.2)] → W p l e (headSpec wsX6_doubles rX6_doubles).room s m args below meth c H locs 0 0 QQ (F0 m 69 ls [])) → (∀ (H : Heap) (locs : List Loc) (ls : Array Slot), IN (dC, dI) (WX6 a b cI cJ cZ s0.1) A s.heap H locs → lv_has ls 4 [(0, .ref (a 0)), (1, .int x1), (2, .int s0.2.1), (3, .int s0.2.2)] → W p l e (headSpec wsX6_doubles rX6_doubles).room s m args below meth c H locs 0 0 QQ (F0 m 19 ls [])) := by
    intro x1 fu s0 r
    have b61 : ∀ (st : MS) (x1 : Int32) (x3 : Int32) (k0 : Int32) (k1 : Int32) (x : (MS × Int32 × Int32) ⊕ (MS × Int32 × Int32)), fX6_doubles_b61 st x1 x3 k0 k1 = some x → (∀ s', x = .inl s' → (∀ (H : Heap) (locs : List Loc) (ls : Array Slot), IN (dC, dI) (WX6 a b cI cJ cZ s'.1) A s.heap H locs → lv_has ls 4 [(0, .ref (a 0)), (1, .int x1), (2, .int s'.2.1), (3, .int s'.2.2)] → W p l e (headSpec wsX6_doubles rX6_doubles).room s m args below meth c H locs 0 0 QQ (F0 m 19 ls []))) → (∀ r, x = .inr r → (∀ (H : Heap) (locs : List Loc) (ls : Array Slot), IN (dC, dI) (WX6 a b cI cJ cZ r.1) A s.heap H locs → lv_has ls 4 [(0, .ref (a 0)), (1, .int x1), (2, .int r.2.1), (3, .int r.2.2)] → W p l e (headSpec wsX6_doubles rX6_doubles).room s m args below meth c H locs 0 0 QQ (F0 m 69 ls []))) → (∀ (H : Heap) (locs : List Loc) (ls : Array Slot), IN (dC, dI) (WX6 a b cI cJ cZ st) A s.heap H locs → lv_has ls 4 [(0, .ref (a 0)), (1, .int x1), (3, .int x3)] → W p l e (headSpec wsX6_doubles rX6_doubles).room s m args below meth c H locs 0 0 QQ (F0 m 61 ls [.int k1, .int k0])) := by
      intro st x1 x3 k0 k1 x hf kc ke
      intro H locs ls hin hl
      obtain ⟨hP, hD, hS⟩ := hin
      unfold fX6_doubles_b61 at hf
      refine lv_iadd hx hb dX6_doubles_61 ?_
      refine lv_istore_n (lv' := [(2, .int (k0 + k1)), (0, .ref (a 0)), (1, .int x1), (3, .int x3)]) hx hb dX6_doubles_62 rfl hl (by decide) rfl (fun ls hl => ?_)
      refine lv_iinc (v := (x3 + (1 : Int32))) (lv' := [(3, .int (x3 + (1 : Int32))), (2, .int (k0 + k1)), (0, .ref (a 0)), (1, .int x1)]) hx hb dX6_doubles_63 hl (k := 3) rfl rfl (by decide) rfl (fun ls hl => ?_)
      refine lv_goto (tgt := 19) hx hb dX6_doubles_66 (by decide) ?_
      obtain rfl := Option.some.inj hf
      exact kc _ rfl H locs ls ⟨hP, hD, hS⟩ (lv_sub hl [2, 3, 1, 0] rfl)
    have b60 : ∀ (st : MS) (x1 : Int32) (x3 : Int32) (k0 : Int32) (x : (MS × Int32 × Int32) ⊕ (MS × Int32 × Int32)), fX6_doubles_b60 st x1 x3 k0 = some x → (∀ s', x = .inl s' → (∀ (H : Heap) (locs : List Loc) (ls : Array Slot), IN (dC, dI) (WX6 a b cI cJ cZ s'.1) A s.heap H locs → lv_has ls 4 [(0, .ref (a 0)), (1, .int x1), (2, .int s'.2.1), (3, .int s'.2.2)] → W p l e (headSpec wsX6_doubles rX6_doubles).room s m args below meth c H locs 0 0 QQ (F0 m 19 ls []))) → (∀ r, x = .inr r → (∀ (H : Heap) (locs : List Loc) (ls : Array Slot), IN (dC, dI) (WX6 a b cI cJ cZ r.1) A s.heap H locs → lv_has ls 4 [(0, .ref (a 0)), (1, .int x1), (2, .int r.2.1), (3, .int r.2.2)] → W p l e (headSpec wsX6_doubles rX6_doubles).room s m args below meth c H locs 0 0 QQ (F0 m 69 ls []))) → (∀ (H : Heap) (locs : List Loc) (ls : Array Slot), IN (dC, dI) (WX6 a b cI cJ cZ st) A s.heap H locs → lv_has ls 4 [(0, .ref (a 0)), (1, .int x1), (3, .int x3)] → W p l e (headSpec wsX6_doubles rX6_doubles).room s m args below meth c H locs 0 0 QQ (F0 m 60 ls [.int k0])) := by
      intro st x1 x3 k0 x hf kc ke
      intro H locs ls hin hl
      obtain ⟨hP, hD, hS⟩ := hin
      unfold fX6_doubles_b60 at hf
      refine lv_iconst (v := (0 : Int32)) hx hb dX6_doubles_60 (by decide) ?_
      exact b61 st x1 x3 k0 (0 : Int32) _ hf kc ke H locs ls ⟨hP, hD, hS⟩ (lv_sub hl [0, 1, 2] rfl)
    refine loop_ind (P := fun s0 => ∀ (H : Heap) (locs : List Loc) (ls : Array Slot), IN (dC, dI) (WX6 a b cI cJ cZ s0.1) A s.heap H locs → lv_has ls 4 [(0, .ref (a 0)), (1, .int x1), (2, .int s0.2.1), (3, .int s0.2.2)] → W p l e (headSpec wsX6_doubles rX6_doubles).room s m args below meth c H locs 0 0 QQ (F0 m 19 ls [])) (Q := fun r => ∀ (H : Heap) (locs : List Loc) (ls : Array Slot), IN (dC, dI) (WX6 a b cI cJ cZ r.1) A s.heap H locs → lv_has ls 4 [(0, .ref (a 0)), (1, .int x1), (2, .int r.2.1), (3, .int r.2.2)] → W p l e (headSpec wsX6_doubles rX6_doubles).room s m args below meth c H locs 0 0 QQ (F0 m 69 ls [])) ?_ fu s0 r
    clear fu s0 r
    rintro ⟨st, x2, x3⟩ x hf kc ke
    replace hf : fX6_doubles_l19 x1 st x2 x3 = some x := hf
    replace kc : (∀ s', x = .inl s' → (∀ (H : Heap) (locs : List Loc) (ls : Array Slot), IN (dC, dI) (WX6 a b cI cJ cZ s'.1) A s.heap H locs → lv_has ls 4 [(0, .ref (a 0)), (1, .int x1), (2, .int s'.2.1), (3, .int s'.2.2)] → W p l e (headSpec wsX6_doubles rX6_doubles).room s m args below meth c H locs 0 0 QQ (F0 m 19 ls []))) := kc
    replace ke : (∀ r, x = .inr r → (∀ (H : Heap) (locs : List Loc) (ls : Array Slot), IN (dC, dI) (WX6 a b cI cJ cZ r.1) A s.heap H locs → lv_has ls 4 [(0, .ref (a 0)), (1, .int x1), (2, .int r.2.1), (3, .int r.2.2)] → W p l e (headSpec wsX6_doubles rX6_doubles).room s m args below meth c H locs 0 0 QQ (F0 m 69 ls []))) := ke
    intro H locs ls hin hl
    obtain ⟨hP, hD, hS⟩ := hin
    unfold fX6_doubles_l19 at hf
    refine lv_iload_n hx hb dX6_doubles_19 rfl (lv_at hl 3 rfl) ?_
    refine lv_aload_n hx hb dX6_doubles_20 rfl (lv_at hl 0 rfl) ?_
    refine va_get (D := (dC, dI)) (ci := 6) (v := .int (MS_rows st)) (C := RX6) (T := TX6) (N := 26) hx hb hts kX6_doubles_X6 hown hK hP 0 rfl rfl 7 (by decide) (hts _ mX6_doubles_2) (fun _ h9 => h9) rfl dX6_doubles_21 ?_
    refine lv_icmp_ge (tgt := 69) hx hb dX6_doubles_24 (by decide) (fun c6 => ?_) (fun c6 => ?_)
    · replace hf := it_p c6 hf
      obtain rfl := Option.some.inj hf
      exact ke _ rfl H locs ls ⟨hP, hD, hS⟩ (lv_sub hl [0, 1, 2, 3] rfl)
    · replace hf := it_n c6 hf
      refine lv_iload_n hx hb dX6_doubles_27 rfl (lv_at hl 2 rfl) ?_
      refine lv_aload_n hx hb dX6_doubles_28 rfl (lv_at hl 0 rfl) ?_
      refine va_get (D := (dC, dI)) (ci := 6) (v := .ref (a 8)) (C := RX6) (T := TX6) (N := 26) hx hb hts kX6_doubles_X6 hown hK hP 0 rfl rfl 11 (by decide) (hts _ mX6_doubles_3) (fun _ h9 => h9) rfl dX6_doubles_29 ?_
      refine lv_iload_n hx hb dX6_doubles_32 rfl (lv_at hl 3 rfl) ?_
      obtain ⟨hi7, hf⟩ := it_s hf
      refine va_iald hx hb hK hP 8 0 rfl rfl (inb_in hi7) dX6_doubles_33 ?_
      refine lv_sipush (v := (365 : Int32)) hx hb dX6_doubles_34 (by decide) ?_
      refine lv_idiv hx hb dX6_doubles_37 (by decide) ?_
      refine lv_iload_n hx hb dX6_doubles_38 rfl (lv_at hl 1 rfl) ?_
      refine lv_icmp_ne (tgt := 60) hx hb dX6_doubles_39 (by decide) (fun c8 => ?_) (fun c8 => ?_)
      · replace hf := it_n c8 hf
        exact b60 st x1 x3 x2 _ hf kc ke H locs ls ⟨hP, hD, hS⟩ (lv_sub hl [0, 1, 3] rfl)
      · replace hf := it_p c8 hf
        refine lv_aload_n hx hb dX6_doubles_42 rfl (lv_at hl 0 rfl) ?_
        refine lv_iload_n hx hb dX6_doubles_43 rfl (lv_at hl 3 rfl) ?_
        refine lv_aload_n hx hb dX6_doubles_44 rfl (lv_at hl 0 rfl) ?_
        refine va_get (D := (dC, dI)) (ci := 6) (v := .ref (a 8)) (C := RX6) (T := TX6) (N := 26) hx hb hts kX6_doubles_X6 hown hK hP 0 rfl rfl 11 (by decide) (hts _ mX6_doubles_3) (fun _ h9 => h9) rfl dX6_doubles_45 ?_
        refine lv_iload_n hx hb dX6_doubles_48 rfl (lv_at hl 3 rfl) ?_
        obtain ⟨hi9, hf⟩ := it_s hf
        refine va_iald hx hb hK hP 8 0 rfl rfl (inb_in hi9) dX6_doubles_49 ?_
        obtain ⟨p10, hc11, hf⟩ := bind_s hf
        refine cmV (wr := []) ⟨hx, hb, hml, hown, hts⟩ (ct_X6_isDouble l dC dI a b cI cJ cZ H.size st x3 ((MS_day st) (x3).toNatClampNeg) p10 hc11) (cwV 2 hts gX6_doubles_X6_isDouble rfl rfl rfl (by decide +kernel) ⟨(Nat.le_of_ble_eq_true rfl), (Nat.le_of_ble_eq_true rfl)⟩) hK hP hD hS hA [0, 1, 2, 3, 4, 5, 6, 7, 8, 9, 10, 11, 12, 13, 14, 15, 16, 17, 18, 19, 20] [] rfl rfl (by decide) rfl (by decide) (by decide) rfl rfl rfl hl.1 rfl (Nat.le_of_ble_eq_true rfl) (Nat.le_of_ble_eq_true rfl) (Nat.le_of_ble_eq_true rfl) dX6_doubles_50 (fun H locs hP hD hS => ?_)
        replace hP : va_P (dC, dI) vwCl (WX6 a b cI cJ cZ p10.2) H := hP
        replace hD : va_D A (WX6 a b cI cJ cZ p10.2) := hD
        refine W.eq (g2 := F0 m 53 ls [.int p10.1, .int x2]) rfl ?_
        refine lv_if_eq (tgt := 60) hx hb dX6_doubles_53 (by decide) (fun c12 => ?_) (fun c12 => ?_)
        · replace hf := it_p c12 hf
          exact b60 p10.2 x1 x3 x2 _ hf kc ke H locs ls ⟨hP, hD, hS⟩ (lv_sub hl [0, 1, 3] rfl)
        · replace hf := it_n c12 hf
          refine lv_iconst (v := (1 : Int32)) hx hb dX6_doubles_56 (by decide) ?_
          refine lv_goto (tgt := 61) hx hb dX6_doubles_57 (by decide) ?_
          exact b61 p10.2 x1 x3 x2 (1 : Int32) _ hf kc ke H locs ls ⟨hP, hD, hS⟩ (lv_sub hl [0, 1, 3] rfl)
  have main : ∀ (H : Heap) (locs : List Loc) (ls : Array Slot), IN (dC, dI) (WX6 a b cI cJ cZ st) A s.heap H locs → lv_has ls 4 [(0, .ref (a 0)), (1, .int x1)] → W p l e (headSpec wsX6_doubles rX6_doubles).room s m args below meth c H locs 0 0 QQ (F0 m 0 ls []) := by
    intro H locs ls hin hl
    obtain ⟨hP, hD, hS⟩ := hin
    unfold fX6_doubles at hf
    refine lv_aload_n hx hb dX6_doubles_0 rfl (lv_at hl 0 rfl) ?_
    refine lv_iconst (v := (0 : Int32)) hx hb dX6_doubles_1 (by decide) ?_
    refine va_put (D := (dC, dI)) (ci := 6) (v := .int (0 : Int32)) (ty := .int) (C := RX6) (T := TX6) (N := 26) hx hb hts kX6_doubles_X6 tyX6 tyX6_ok nmX6 hown hK hP hD hS 0 rfl rfl 0 (by decide) (hts _ mX6_doubles_1) (fun _ h9 => h9) rfl (by decide +kernel) rfl rfl (Nat.le_of_ble_eq_true rfl) dX6_doubles_2 (fun H locs hP hD hS => ?_)
    obtain ⟨s1, hs2, hf⟩ := bnd_e hf
    replace hP := putP_thrown hs2 hP
    replace hD := putD_thrown hs2 hD
    refine lv_iload_n hx hb dX6_doubles_5 rfl (lv_at hl 1 rfl) ?_
    obtain ⟨r3, hc4, hf⟩ := bind_s hf
    refine cpS (v := .int r3) ⟨hx, hb, hml, hown, hts⟩ (ct_X6_noYear l dC dI cI cJ cZ x1 r3 hc4) (va_cwS 1 hts gX6_doubles_X6_noYear rfl rfl rfl (by decide +kernel) ⟨(Nat.le_of_ble_eq_true rfl), (Nat.le_of_ble_eq_true rfl)⟩) hK hP [] rfl rfl hl.1 rfl (Nat.le_of_ble_eq_true rfl) (Nat.le_of_ble_eq_true rfl) (Nat.le_of_ble_eq_true rfl) dX6_doubles_6 ?_
    refine lv_if_eq (tgt := 15) hx hb dX6_doubles_9 (by decide) (fun c5 => ?_) (fun c5 => ?_)
    · replace hf := it_p c5 hf
      refine lv_iconst (v := (0 : Int32)) hx hb dX6_doubles_15 (by decide) ?_
      refine lv_istore_n (lv' := [(2, .int (0 : Int32)), (0, .ref (a 0)), (1, .int x1)]) hx hb dX6_doubles_16 rfl hl (by decide) rfl (fun ls hl => ?_)
      refine lv_iconst (v := (0 : Int32)) hx hb dX6_doubles_17 (by decide) ?_
      refine lv_istore_n (lv' := [(3, .int (0 : Int32)), (2, .int (0 : Int32)), (0, .ref (a 0)), (1, .int x1)]) hx hb dX6_doubles_18 rfl hl (by decide) rfl (fun ls hl => ?_)
      obtain ⟨y13, hlp, hf⟩ := bind_s hf
      refine l19 x1 fuelN (s1, (0 : Int32), (0 : Int32)) y13 hlp ?_ H locs ls ⟨hP, hD, hS⟩ (lv_sub hl [2, 3, 1, 0] rfl)
      intro H locs ls hin hl
      obtain ⟨hP, hD, hS⟩ := hin
      refine lv_iload_n hx hb dX6_doubles_69 rfl (lv_at hl 2 rfl) ?_
      obtain rfl := Option.some.inj hf
      rw [hQ]
      exact W.iret hx hb hr (fun t ht hW => ⟨rfl, ⟨by rw [ht]; exact hP, hD⟩, hS.F ht⟩) hS.2.2 dX6_doubles_70
    · replace hf := it_n c5 hf
      refine lv_bipush (v := (-2 : Int32)) hx hb dX6_doubles_12 (by decide) ?_
      obtain rfl := Option.some.inj hf
      rw [hQ]
      exact W.iret hx hb hr (fun t ht hW => ⟨rfl, ⟨by rw [ht]; exact hP, hD⟩, hS.F ht⟩) hS.2.2 dX6_doubles_14
  exact main s.heap [] ls ⟨hP, hD, va_S.rf⟩ hl
def rX6_onPath : Room := { frames := 4, cells := 0, slots := 0, locals := 109 }
theorem kX6_onPath_X6 : ∀ w ∈ wsX60, w ∈ wsX6_onPath := fun w h => (List.mem_cons_of_mem _ (List.mem_append_right _ h))
theorem mX6_onPath_1 : Cond.fieldLink RX6 76 "SmokeLedgerModel" "thrown" "I" ∈ wsX6_onPath := List.mem_of_getElem? (i := 1) rfl
theorem mX6_onPath_2 : Cond.constantLong RX6 104 (100) ∈ wsX6_onPath := List.mem_of_getElem? (i := 2) rfl
theorem mX6_onPath_3 : Cond.constantLong RX6 148 (-9) ∈ wsX6_onPath := List.mem_of_getElem? (i := 3) rfl
set_option maxHeartbeats 4000000 in
set_option maxRecDepth 100000 in
theorem ct_X6_onPath (l : Launch) (dC : Nat → ClassId) (dI : Nat → Nat → Nat) (a b : Nat → Nat) (cI cJ cZ : ClassId) (sz : Nat) (st : MS) (x1 : Int32) (x2 : Int32) (x3 : Int32) (x4 : Int32) (res : Int32 × MS) (hf : fX6_onPath st x1 x2 x3 x4 = some res) : Met l yX6_onPath wsX6_onPath rX6_onPath (Pm (dC, dI) (tyT cI cJ cZ) (WX6 a b cI cJ cZ st) sz [.ref (a 0), .int x1, .int x2, .int x3, .int x4]) (Qm (dC, dI) (some (.int res.1)) (WX6 a b cI cJ cZ res.2) (va_A (WX6 a b cI cJ cZ st) sz)) 0 0 (va_A (WX6 a b cI cJ cZ st) sz) := by
  refine Met.ofW (cc := cX6_onPath) (maxL := 15) (ret := (some .int)) (by decide) rfl ?_
  intro p e s m args below meth c s₁ B hml hv
  obtain ⟨hargs, hsz, hP, hK, hD0⟩ := hv
  have hx := B.exec
  have hb := B.bytes
  have hr := B.returns
  have hts := atoms_spec (ws := wsX6_onPath) B.pre
  have hown : s.vm.findClass RX6 = some m.cls := findClass_of_methodNamed B.named
  have hlocks := B.notSynchronized
  subst hsz
  have hD := hD0.self (sz := s.heap.size)
  generalize hAe : va_A (WX6 a b cI cJ cZ st) s.heap.size = A at hD ⊢
  have hA : ∀ q : Nat, s.heap.size ≤ q → A q := fun q h => by rw [← hAe]; exact Or.inr h
  have hl := lv_entry ([.ref (a 0), .int x1, .int x2, .int x3, .int x4]) (n := 15) (Nat.le_of_ble_eq_true rfl)
  refine W.eq (hargs ▸ lg_entry_eq m [.ref (a 0), .int x1, .int x2, .int x3, .int x4] 15) ?_
  generalize (lg_sl ([.ref (a 0), .int x1, .int x2, .int x3, .int x4]) ++ List.replicate (15 - (lg_sl ([.ref (a 0), .int x1, .int x2, .int x3, .int x4])).length) Slot.unset).toArray = ls at hl ⊢
  have hl : lv_has ls 15 [(0, .ref (a 0)), (1, .int x1), (2, .int x2), (3, .int x3), (4, .int x4)] := hl
  obtain ⟨QQ, hQ⟩ : ∃ QQ : State → Prop, QQ = MQ below (Qm (dC, dI) (some (.int res.1)) (WX6 a b cI cJ cZ res.2) A) args s 0 0 (A) := ⟨_, rfl⟩
  rw [← hQ]
  have main : ∀ (H : Heap) (locs : List Loc) (ls : Array Slot), IN (dC, dI) (WX6 a b cI cJ cZ st) A s.heap H locs → lv_has ls 15 [(0, .ref (a 0)), (1, .int x1), (2, .int x2), (3, .int x3), (4, .int x4)] → W p l e (headSpec wsX6_onPath rX6_onPath).room s m args below meth c H locs 0 0 QQ (F0 m 0 ls []) := by
    intro H locs ls hin hl
    obtain ⟨hP, hD, hS⟩ := hin
    unfold fX6_onPath at hf
    refine lv_aload_n hx hb dX6_onPath_0 rfl (lv_at hl 0 rfl) ?_
    refine lv_iconst (v := (0 : Int32)) hx hb dX6_onPath_1 (by decide) ?_
    refine va_put (D := (dC, dI)) (ci := 6) (v := .int (0 : Int32)) (ty := .int) (C := RX6) (T := TX6) (N := 26) hx hb hts kX6_onPath_X6 tyX6 tyX6_ok nmX6 hown hK hP hD hS 0 rfl rfl 0 (by decide) (hts _ mX6_onPath_1) (fun _ h9 => h9) rfl (by decide +kernel) rfl rfl (Nat.le_of_ble_eq_true rfl) dX6_onPath_2 (fun H locs hP hD hS => ?_)
    obtain ⟨s1, hs2, hf⟩ := bnd_e hf
    replace hP := putP_thrown hs2 hP
    replace hD := putD_thrown hs2 hD
    refine lv_iload_n hx hb dX6_onPath_5 rfl (lv_at hl 1 rfl) ?_
    obtain ⟨r3, hc4, hf⟩ := bind_s hf
    refine cpS (v := .int r3) ⟨hx, hb, hml, hown, hts⟩ (ct_X6_noYear l dC dI cI cJ cZ x1 r3 hc4) (va_cwS 1 hts gX6_onPath_X6_noYear rfl rfl rfl (by decide +kernel) ⟨(Nat.le_of_ble_eq_true rfl), (Nat.le_of_ble_eq_true rfl)⟩) hK hP [] rfl rfl hl.1 rfl (Nat.le_of_ble_eq_true rfl) (Nat.le_of_ble_eq_true rfl) (Nat.le_of_ble_eq_true rfl) dX6_onPath_6 ?_
    refine lv_if_ne (tgt := 56) hx hb dX6_onPath_9 (by decide) (fun c5 => ?_) (fun c5 => ?_)
    · replace hf := it_n c5 hf
      refine lv_bipush (v := (-2 : Int32)) hx hb dX6_onPath_56 (by decide) ?_
      obtain rfl := Option.some.inj hf
      rw [hQ]
      exact W.iret hx hb hr (fun t ht hW => ⟨rfl, ⟨by rw [ht]; exact hP, hD⟩, hS.F ht⟩) hS.2.2 dX6_onPath_58
    · replace hf := it_p c5 hf
      refine lv_iload_n hx hb dX6_onPath_12 rfl (lv_at hl 2 rfl) ?_
      obtain ⟨r6, hc7, hf⟩ := bind_s hf
      refine cpS (v := .int r6) ⟨hx, hb, hml, hown, hts⟩ (ct_X6_noYear l dC dI cI cJ cZ x2 r6 hc7) (va_cwS 1 hts gX6_onPath_X6_noYear rfl rfl rfl (by decide +kernel) ⟨(Nat.le_of_ble_eq_true rfl), (Nat.le_of_ble_eq_true rfl)⟩) hK hP [] rfl rfl hl.1 rfl (Nat.le_of_ble_eq_true rfl) (Nat.le_of_ble_eq_true rfl) (Nat.le_of_ble_eq_true rfl) dX6_onPath_13 ?_
      refine lv_if_ne (tgt := 56) hx hb dX6_onPath_16 (by decide) (fun c8 => ?_) (fun c8 => ?_)
      · replace hf := it_n c8 hf
        refine lv_bipush (v := (-2 : Int32)) hx hb dX6_onPath_56 (by decide) ?_
        obtain rfl := Option.some.inj hf
        rw [hQ]
        exact W.iret hx hb hr (fun t ht hW => ⟨rfl, ⟨by rw [ht]; exact hP, hD⟩, hS.F ht⟩) hS.2.2 dX6_onPath_58
      · replace hf := it_p c8 hf
        refine lv_iload_n hx hb dX6_onPath_19 rfl (lv_at hl 3 rfl) ?_
        obtain ⟨r9, hc10, hf⟩ := bind_s hf
        refine cpS (v := .int r9) ⟨hx, hb, hml, hown, hts⟩ (ct_X6_noYear l dC dI cI cJ cZ x3 r9 hc10) (va_cwS 1 hts gX6_onPath_X6_noYear rfl rfl rfl (by decide +kernel) ⟨(Nat.le_of_ble_eq_true rfl), (Nat.le_of_ble_eq_true rfl)⟩) hK hP [] rfl rfl hl.1 rfl (Nat.le_of_ble_eq_true rfl) (Nat.le_of_ble_eq_true rfl) (Nat.le_of_ble_eq_true rfl) dX6_onPath_20 ?_
        refine lv_if_ne (tgt := 56) hx hb dX6_onPath_23 (by decide) (fun c11 => ?_) (fun c11 => ?_)
        · replace hf := it_n c11 hf
          refine lv_bipush (v := (-2 : Int32)) hx hb dX6_onPath_56 (by decide) ?_
          obtain rfl := Option.some.inj hf
          rw [hQ]
          exact W.iret hx hb hr (fun t ht hW => ⟨rfl, ⟨by rw [ht]; exact hP, hD⟩, hS.F ht⟩) hS.2.2 dX6_onPath_58
        · replace hf := it_p c11 hf
          refine lv_iload hx hb dX6_onPath_26 (lv_at hl 4 rfl) ?_
          refine lv_i2l hx hb dX6_onPath_28 rfl ?_
          refine lv_lconst (v := (0 : Int64)) hx hb dX6_onPath_29 (by decide) ?_
          refine lv_ldc2 (v := (100 : Int64)) hx hb hown (hts _ mX6_onPath_2) dX6_onPath_30 ?_
          obtain ⟨r12, hc13, hf⟩ := bind_s hf
          refine cpS (v := .int r12) ⟨hx, hb, hml, hown, hts⟩ (ct_X6_in l dC dI cI cJ cZ (Int32.toInt64 x4) (0 : Int64) (100 : Int64) r12 hc13) (va_cwS 3 hts gX6_onPath_X6_in rfl rfl rfl (by decide +kernel) ⟨(Nat.le_of_ble_eq_true rfl), (Nat.le_of_ble_eq_true rfl)⟩) hK hP [] rfl rfl hl.1 rfl (Nat.le_of_ble_eq_true rfl) (Nat.le_of_ble_eq_true rfl) (Nat.le_of_ble_eq_true rfl) dX6_onPath_33 ?_
          refine lv_if_eq (tgt := 56) hx hb dX6_onPath_36 (by decide) (fun c14 => ?_) (fun c14 => ?_)
          · replace hf := it_p c14 hf
            refine lv_bipush (v := (-2 : Int32)) hx hb dX6_onPath_56 (by decide) ?_
            obtain rfl := Option.some.inj hf
            rw [hQ]
            exact W.iret hx hb hr (fun t ht hW => ⟨rfl, ⟨by rw [ht]; exact hP, hD⟩, hS.F ht⟩) hS.2.2 dX6_onPath_58
          · replace hf := it_n c14 hf
            refine lv_iload_n hx hb dX6_onPath_39 rfl (lv_at hl 3 rfl) ?_
            refine lv_iload_n hx hb dX6_onPath_40 rfl (lv_at hl 2 rfl) ?_
            refine lv_icmp_le (tgt := 56) hx hb dX6_onPath_41 (by decide) (fun c15 => ?_) (fun c15 => ?_)
            · replace hf := it_p c15 hf
              refine lv_bipush (v := (-2 : Int32)) hx hb dX6_onPath_56 (by decide) ?_
              obtain rfl := Option.some.inj hf
              rw [hQ]
              exact W.iret hx hb hr (fun t ht hW => ⟨rfl, ⟨by rw [ht]; exact hP, hD⟩, hS.F ht⟩) hS.2.2 dX6_onPath_58
            · replace hf := it_n c15 hf
              refine lv_iload_n hx hb dX6_onPath_44 rfl (lv_at hl 1 rfl) ?_
              refine lv_i2l hx hb dX6_onPath_45 rfl ?_
              refine lv_iload_n hx hb dX6_onPath_46 rfl (lv_at hl 2 rfl) ?_
              refine lv_i2l hx hb dX6_onPath_47 rfl ?_
              refine lv_iload_n hx hb dX6_onPath_48 rfl (lv_at hl 3 rfl) ?_
              refine lv_i2l hx hb dX6_onPath_49 rfl ?_
              obtain ⟨r16, hc17, hf⟩ := bind_s hf
              refine cpS (v := .int r16) ⟨hx, hb, hml, hown, hts⟩ (ct_X6_in l dC dI cI cJ cZ (Int32.toInt64 x1) (Int32.toInt64 x2) (Int32.toInt64 x3) r16 hc17) (va_cwS 3 hts gX6_onPath_X6_in rfl rfl rfl (by decide +kernel) ⟨(Nat.le_of_ble_eq_true rfl), (Nat.le_of_ble_eq_true rfl)⟩) hK hP [] rfl rfl hl.1 rfl (Nat.le_of_ble_eq_true rfl) (Nat.le_of_ble_eq_true rfl) (Nat.le_of_ble_eq_true rfl) dX6_onPath_50 ?_
              refine lv_if_ne (tgt := 59) hx hb dX6_onPath_53 (by decide) (fun c18 => ?_) (fun c18 => ?_)
              · replace hf := it_n c18 hf
                refine lv_aload_n hx hb dX6_onPath_59 rfl (lv_at hl 0 rfl) ?_
                refine lv_bipush (v := (-9 : Int32)) hx hb dX6_onPath_60 (by decide) ?_
                refine lv_iload_n hx hb dX6_onPath_62 rfl (lv_at hl 1 rfl) ?_
                refine lv_bipush (v := (-9 : Int32)) hx hb dX6_onPath_63 (by decide) ?_
                refine lv_bipush (v := (-9 : Int32)) hx hb dX6_onPath_65 (by decide) ?_
                refine lv_iconst (v := (1 : Int32)) hx hb dX6_onPath_67 (by decide) ?_
                refine lv_iconst (v := (1 : Int32)) hx hb dX6_onPath_68 (by decide) ?_
                refine lv_iconst (v := (0 : Int32)) hx hb dX6_onPath_69 (by decide) ?_
                obtain ⟨p19, hc20, hf⟩ := bind_s hf
                refine cmV (wr := []) ⟨hx, hb, hml, hown, hts⟩ (ct_X6_totalOf l dC dI a b cI cJ cZ H.size s1 (-9 : Int32) x1 (-9 : Int32) (-9 : Int32) (1 : Int32) (1 : Int32) (0 : Int32) p19 hc20) (cwV 7 hts gX6_onPath_X6_totalOf rfl rfl rfl (by decide +kernel) ⟨(Nat.le_of_ble_eq_true rfl), (Nat.le_of_ble_eq_true rfl)⟩) hK hP hD hS hA [0, 1, 2, 3, 4, 5, 6, 7, 8, 9, 10, 11, 12, 13, 14, 15, 16, 17, 18, 19, 20] [] rfl rfl (by decide) rfl (by decide) (by decide) rfl rfl rfl hl.1 rfl (Nat.le_of_ble_eq_true rfl) (Nat.le_of_ble_eq_true rfl) (Nat.le_of_ble_eq_true rfl) dX6_onPath_70 (fun H locs hP hD hS => ?_)
                replace hP : va_P (dC, dI) vwCl (WX6 a b cI cJ cZ p19.2) H := hP
                replace hD : va_D A (WX6 a b cI cJ cZ p19.2) := hD
                refine W.eq (g2 := F0 m 73 ls [.long p19.1]) rfl ?_
                refine lv_lstore (lv' := [(5, .long p19.1), (0, .ref (a 0)), (1, .int x1), (2, .int x2), (3, .int x3), (4, .int x4)]) hx hb dX6_onPath_73 hl (by decide) rfl (fun ls hl => ?_)
                refine lv_aload_n hx hb dX6_onPath_75 rfl (lv_at hl 1 rfl) ?_
                refine lv_bipush (v := (-9 : Int32)) hx hb dX6_onPath_76 (by decide) ?_
                refine lv_iload_n hx hb dX6_onPath_78 rfl (lv_at hl 3 rfl) ?_
                refine lv_bipush (v := (-9 : Int32)) hx hb dX6_onPath_79 (by decide) ?_
                refine lv_bipush (v := (-9 : Int32)) hx hb dX6_onPath_81 (by decide) ?_
                refine lv_iconst (v := (1 : Int32)) hx hb dX6_onPath_83 (by decide) ?_
                refine lv_iconst (v := (1 : Int32)) hx hb dX6_onPath_84 (by decide) ?_
                refine lv_iconst (v := (1 : Int32)) hx hb dX6_onPath_85 (by decide) ?_
                obtain ⟨p21, hc22, hf⟩ := bind_s hf
                refine cmV (wr := []) ⟨hx, hb, hml, hown, hts⟩ (ct_X6_totalOf l dC dI a b cI cJ cZ H.size p19.2 (-9 : Int32) x2 (-9 : Int32) (-9 : Int32) (1 : Int32) (1 : Int32) (1 : Int32) p21 hc22) (cwV 7 hts gX6_onPath_X6_totalOf rfl rfl rfl (by decide +kernel) ⟨(Nat.le_of_ble_eq_true rfl), (Nat.le_of_ble_eq_true rfl)⟩) hK hP hD hS hA [0, 1, 2, 3, 4, 5, 6, 7, 8, 9, 10, 11, 12, 13, 14, 15, 16, 17, 18, 19, 20] [] rfl rfl (by decide) rfl (by decide) (by decide) rfl rfl rfl hl.1 rfl (Nat.le_of_ble_eq_true rfl) (Nat.le_of_ble_eq_true rfl) (Nat.le_of_ble_eq_true rfl) dX6_onPath_86 (fun H locs hP hD hS => ?_)
                replace hP : va_P (dC, dI) vwCl (WX6 a b cI cJ cZ p21.2) H := hP
                replace hD : va_D A (WX6 a b cI cJ cZ p21.2) := hD
                refine W.eq (g2 := F0 m 89 ls [.long p21.1]) rfl ?_
                refine lv_lstore (lv' := [(7, .long p21.1), (5, .long p19.1), (0, .ref (a 0)), (1, .int x1), (2, .int x2), (3, .int x3), (4, .int x4)]) hx hb dX6_onPath_89 hl (by decide) rfl (fun ls hl => ?_)
                refine lv_lload hx hb dX6_onPath_91 (lv_at hl 1 rfl) ?_
                refine lv_ldc2 (v := (-9 : Int64)) hx hb hown (hts _ mX6_onPath_3) dX6_onPath_93 ?_
                refine W.lcmp hx hb dX6_onPath_96 ?_
                refine lv_if_eq (tgt := 109) hx hb dX6_onPath_97 (by decide) (fun c23 => ?_) (fun c23 => ?_)
                · replace hf := it_p c23 hf
                  refine lv_bipush (v := (-9 : Int32)) hx hb dX6_onPath_109 (by decide) ?_
                  obtain rfl := Option.some.inj hf
                  rw [hQ]
                  exact W.iret hx hb hr (fun t ht hW => ⟨rfl, ⟨by rw [ht]; exact hP, hD⟩, hS.F ht⟩) hS.2.2 dX6_onPath_111
                · replace hf := it_n c23 hf
                  refine lv_lload hx hb dX6_onPath_100 (lv_at hl 0 rfl) ?_
                  refine lv_ldc2 (v := (-9 : Int64)) hx hb hown (hts _ mX6_onPath_3) dX6_onPath_102 ?_
                  refine W.lcmp hx hb dX6_onPath_105 ?_
                  refine lv_if_ne (tgt := 112) hx hb dX6_onPath_106 (by decide) (fun c24 => ?_) (fun c24 => ?_)
                  · replace hf := it_n c24 hf
                    refine lv_ldc2 (v := (100 : Int64)) hx hb hown (hts _ mX6_onPath_2) dX6_onPath_112 ?_
                    refine lv_iload_n hx hb dX6_onPath_115 rfl (lv_at hl 5 rfl) ?_
                    refine lv_iload_n hx hb dX6_onPath_116 rfl (lv_at hl 4 rfl) ?_
                    refine lv_isub hx hb dX6_onPath_117 ?_
                    refine lv_i2l hx hb dX6_onPath_118 rfl ?_
                    refine lv_lmul hx hb dX6_onPath_119 ?_
                    refine lv_lstore (lv' := [(9, .long ((100 : Int64) * (Int32.toInt64 (x3 - x2)))), (7, .long p21.1), (5, .long p19.1), (0, .ref (a 0)), (1, .int x1), (2, .int x2), (3, .int x3), (4, .int x4)]) hx hb dX6_onPath_120 hl (by decide) rfl (fun ls hl => ?_)
                    refine lv_lload hx hb dX6_onPath_122 (lv_at hl 0 rfl) ?_
                    refine lv_iload hx hb dX6_onPath_124 (lv_at hl 7 rfl) ?_
                    refine lv_i2l hx hb dX6_onPath_126 rfl ?_
                    refine lv_iload_n hx hb dX6_onPath_127 rfl (lv_at hl 4 rfl) ?_
                    refine lv_iload_n hx hb dX6_onPath_128 rfl (lv_at hl 5 rfl) ?_
                    refine lv_isub hx hb dX6_onPath_129 ?_
                    refine lv_i2l hx hb dX6_onPath_130 rfl ?_
                    refine lv_lmul hx hb dX6_onPath_131 ?_
                    refine lv_lsub hx hb dX6_onPath_132 ?_
                    refine lv_lstore (lv' := [(11, .long (((100 : Int64) * (Int32.toInt64 (x3 - x2))) - ((Int32.toInt64 x4) * (Int32.toInt64 (x1 - x2))))), (9, .long ((100 : Int64) * (Int32.toInt64 (x3 - x2)))), (7, .long p21.1), (5, .long p19.1), (0, .ref (a 0)), (1, .int x1), (2, .int x2), (3, .int x3), (4, .int x4)]) hx hb dX6_onPath_133 hl (by decide) rfl (fun ls hl => ?_)
                    refine lv_lload hx hb dX6_onPath_135 (lv_at hl 2 rfl) ?_
                    refine lv_lload hx hb dX6_onPath_137 (lv_at hl 1 rfl) ?_
                    obtain ⟨hz25, hf⟩ := it_z hf
                    refine lv_ldiv hx hb dX6_onPath_139 hz25 ?_
                    refine lv_lload hx hb dX6_onPath_140 (lv_at hl 0 rfl) ?_
                    refine lv_lmul hx hb dX6_onPath_142 ?_
                    refine lv_lload hx hb dX6_onPath_143 (lv_at hl 2 rfl) ?_
                    refine lv_lload hx hb dX6_onPath_145 (lv_at hl 1 rfl) ?_
                    obtain ⟨hz26, hf⟩ := it_z hf
                    refine lv_lrem hx hb dX6_onPath_147 hz26 ?_
                    refine lv_lload hx hb dX6_onPath_148 (lv_at hl 0 rfl) ?_
                    refine lv_lmul hx hb dX6_onPath_150 ?_
                    refine lv_lload hx hb dX6_onPath_151 (lv_at hl 1 rfl) ?_
                    obtain ⟨hz27, hf⟩ := it_z hf
                    refine lv_ldiv hx hb dX6_onPath_153 hz27 ?_
                    refine lv_ladd hx hb dX6_onPath_154 ?_
                    refine lv_lstore (lv' := [(13, .long (((p21.1 / ((100 : Int64) * (Int32.toInt64 (x3 - x2)))) * (((100 : Int64) * (Int32.toInt64 (x3 - x2))) - ((Int32.toInt64 x4) * (Int32.toInt64 (x1 - x2))))) + (((p21.1 - p21.1 / ((100 : Int64) * (Int32.toInt64 (x3 - x2))) * ((100 : Int64) * (Int32.toInt64 (x3 - x2)))) * (((100 : Int64) * (Int32.toInt64 (x3 - x2))) - ((Int32.toInt64 x4) * (Int32.toInt64 (x1 - x2))))) / ((100 : Int64) * (Int32.toInt64 (x3 - x2)))))), (11, .long (((100 : Int64) * (Int32.toInt64 (x3 - x2))) - ((Int32.toInt64 x4) * (Int32.toInt64 (x1 - x2))))), (9, .long ((100 : Int64) * (Int32.toInt64 (x3 - x2)))), (7, .long p21.1), (5, .long p19.1), (0, .ref (a 0)), (1, .int x1), (2, .int x2), (3, .int x3), (4, .int x4)]) hx hb dX6_onPath_155 hl (by decide) rfl (fun ls hl => ?_)
                    refine lv_lload hx hb dX6_onPath_157 (lv_at hl 4 rfl) ?_
                    refine lv_lload hx hb dX6_onPath_159 (lv_at hl 0 rfl) ?_
                    refine W.lcmp hx hb dX6_onPath_161 ?_
                    refine lv_if_gt (tgt := 169) hx hb dX6_onPath_162 (by decide) (fun c28 => ?_) (fun c28 => ?_)
                    · replace hf := it_p c28 hf
                      refine lv_iconst (v := (0 : Int32)) hx hb dX6_onPath_169 (by decide) ?_
                      obtain rfl := Option.some.inj hf
                      rw [hQ]
                      exact W.iret hx hb hr (fun t ht hW => ⟨rfl, ⟨by rw [ht]; exact hP, hD⟩, hS.F ht⟩) hS.2.2 dX6_onPath_170
                    · replace hf := it_n c28 hf
                      refine lv_iconst (v := (1 : Int32)) hx hb dX6_onPath_165 (by decide) ?_
                      refine lv_goto (tgt := 170) hx hb dX6_onPath_166 (by decide) ?_
                      obtain rfl := Option.some.inj hf
                      rw [hQ]
                      exact W.iret hx hb hr (fun t ht hW => ⟨rfl, ⟨by rw [ht]; exact hP, hD⟩, hS.F ht⟩) hS.2.2 dX6_onPath_170
                  · replace hf := it_p c24 hf
                    refine lv_bipush (v := (-9 : Int32)) hx hb dX6_onPath_109 (by decide) ?_
                    obtain rfl := Option.some.inj hf
                    rw [hQ]
                    exact W.iret hx hb hr (fun t ht hW => ⟨rfl, ⟨by rw [ht]; exact hP, hD⟩, hS.F ht⟩) hS.2.2 dX6_onPath_111
              · replace hf := it_p c18 hf
                refine lv_bipush (v := (-2 : Int32)) hx hb dX6_onPath_56 (by decide) ?_
                obtain rfl := Option.some.inj hf
                rw [hQ]
                exact W.iret hx hb hr (fun t ht hW => ⟨rfl, ⟨by rw [ht]; exact hP, hD⟩, hS.F ht⟩) hS.2.2 dX6_onPath_58
  exact main s.heap [] ls ⟨hP, hD, va_S.rf⟩ hl
