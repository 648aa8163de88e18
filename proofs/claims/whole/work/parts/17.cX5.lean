def rX5_unit : Room := { frames := 0, cells := 0, slots := 0, locals := 0 }
theorem kX5_unit_X5 : ∀ w ∈ wsX50, w ∈ wsX5_unit := fun w h => (List.mem_cons_of_mem _ (List.mem_append_right _ h))
theorem mX5_unit_1 : Cond.fieldLink RX5 37 "SmokeLedger" "units" "I" ∈ wsX5_unit := List.mem_of_getElem? (i := 1) rfl
set_option maxHeartbeats 4000000 in
set_option maxRecDepth 100000 in
theorem ct_X5_unit (l : Launch) (dC : Nat → ClassId) (dI : Nat → Nat → Nat) (a b : Nat → Nat) (cI cJ cZ : ClassId) (sz : Nat) (st : LG) (res : Int32 × LG) (hf : fX5_unit st = some res) : Met l yX5_unit wsX5_unit rX5_unit (Pm (dC, dI) (tyT cI cJ cZ) (WX5 a b cI cJ cZ st) sz [.ref (a 0)]) (Qm (dC, dI) (some (.int res.1)) (WX5 a b cI cJ cZ res.2) (va_A (WX5 a b cI cJ cZ st) sz)) 0 0 (va_A (WX5 a b cI cJ cZ st) sz) := by
  refine Met.ofW (cc := cX5_unit) (maxL := 1) (ret := (some .int)) (by decide) rfl ?_
  intro p e s m args below meth c s₁ B hml hv
  obtain ⟨hargs, hsz, hP, hK, hD0⟩ := hv
  have hx := B.exec
  have hb := B.bytes
  have hr := B.returns
  have hts := atoms_spec (ws := wsX5_unit) B.pre
  have hown : s.vm.findClass RX5 = some m.cls := findClass_of_methodNamed B.named
  have hlocks := B.notSynchronized
  subst hsz
  have hD := hD0.self (sz := s.heap.size)
  generalize hAe : va_A (WX5 a b cI cJ cZ st) s.heap.size = A at hD ⊢
  have hA : ∀ q : Nat, s.heap.size ≤ q → A q := fun q h => by rw [← hAe]; exact Or.inr h
  have hl := lv_entry ([.ref (a 0)]) (n := 1) (Nat.le_of_ble_eq_true rfl)
  refine W.eq (hargs ▸ lg_entry_eq m [.ref (a 0)] 1) ?_
  generalize (lg_sl ([.ref (a 0)]) ++ List.replicate (1 - (lg_sl ([.ref (a 0)])).length) Slot.unset).toArray = ls at hl ⊢
  have hl : lv_has ls 1 [(0, .ref (a 0))] := hl
  obtain ⟨QQ, hQ⟩ : ∃ QQ : State → Prop, QQ = MQ below (Qm (dC, dI) (some (.int res.1)) (WX5 a b cI cJ cZ res.2) A) args s 0 0 (A) := ⟨_, rfl⟩
  rw [← hQ]
  have main : ∀ (H : Heap) (locs : List Loc) (ls : Array Slot), IN (dC, dI) (WX5 a b cI cJ cZ st) A s.heap H locs → lv_has ls 1 [(0, .ref (a 0))] → W p l e (headSpec wsX5_unit rX5_unit).room s m args below meth c H locs 0 0 QQ (F0 m 0 ls []) := by
    intro H locs ls hin hl
    obtain ⟨hP, hD, hS⟩ := hin
    unfold fX5_unit at hf
    refine lv_aload_n hx hb dX5_unit_0 rfl (lv_at hl 0 rfl) ?_
    refine va_get (D := (dC, dI)) (ci := 5) (v := .int (LG_units st)) (C := RX5) (T := TX5) (N := 5) hx hb hts kX5_unit_X5 hown hK hP 0 rfl rfl 4 (by decide) (hts _ mX5_unit_1) (fun _ h9 => h9) rfl dX5_unit_1 ?_
    refine lv_bipush (v := (10 : Int32)) hx hb dX5_unit_4 (by decide) ?_
    refine lv_icmp_lt (tgt := 12) hx hb dX5_unit_6 (by decide) (fun c1 => ?_) (fun c1 => ?_)
    · replace hf := it_p c1 hf
      refine lv_aload_n hx hb dX5_unit_12 rfl (lv_at hl 0 rfl) ?_
      refine lv_dup hx hb dX5_unit_13 rfl ?_
      refine va_get (D := (dC, dI)) (ci := 5) (v := .int (LG_units st)) (C := RX5) (T := TX5) (N := 5) hx hb hts kX5_unit_X5 hown hK hP 0 rfl rfl 4 (by decide) (hts _ mX5_unit_1) (fun _ h9 => h9) rfl dX5_unit_14 ?_
      refine lv_iconst (v := (1 : Int32)) hx hb dX5_unit_17 (by decide) ?_
      refine lv_iadd hx hb dX5_unit_18 ?_
      refine va_put (D := (dC, dI)) (ci := 5) (v := .int ((LG_units st) + (1 : Int32))) (ty := .int) (C := RX5) (T := TX5) (N := 5) hx hb hts kX5_unit_X5 tyX5 tyX5_ok nmX5 hown hK hP hD hS 0 rfl rfl 4 (by decide) (hts _ mX5_unit_1) (fun _ h9 => h9) rfl (by decide +kernel) rfl rfl (Nat.le_of_ble_eq_true rfl) dX5_unit_19 (fun H locs hP hD hS => ?_)
      replace hP : va_P (dC, dI) vwCl (WX5 a b cI cJ cZ (LG_mk (LG_H st) (LG_R st) (LG_F st) (LG_S st) ((LG_units st) + (1 : Int32)))) H := hP
      replace hD : va_D A (WX5 a b cI cJ cZ (LG_mk (LG_H st) (LG_R st) (LG_F st) (LG_S st) ((LG_units st) + (1 : Int32)))) := hD
      refine lv_aload_n hx hb dX5_unit_22 rfl (lv_at hl 0 rfl) ?_
      refine va_get (D := (dC, dI)) (ci := 5) (v := .int ((LG_units st) + (1 : Int32))) (C := RX5) (T := TX5) (N := 5) hx hb hts kX5_unit_X5 hown hK hP 0 rfl rfl 4 (by decide) (hts _ mX5_unit_1) (fun _ h9 => h9) rfl dX5_unit_23 ?_
      refine lv_iconst (v := (1 : Int32)) hx hb dX5_unit_26 (by decide) ?_
      refine lv_isub hx hb dX5_unit_27 ?_
      obtain rfl := Option.some.inj hf
      rw [hQ]
      exact W.iret hx hb hr (fun t ht hW => ⟨rfl, ⟨by rw [ht]; exact hP, hD⟩, hS.F ht⟩) hS.2.2 dX5_unit_28
    · replace hf := it_n c1 hf
      refine lv_bipush (v := (-4 : Int32)) hx hb dX5_unit_9 (by decide) ?_
      obtain rfl := Option.some.inj hf
      rw [hQ]
      exact W.iret hx hb hr (fun t ht hW => ⟨rfl, ⟨by rw [ht]; exact hP, hD⟩, hS.F ht⟩) hS.2.2 dX5_unit_11
  exact main s.heap [] ls ⟨hP, hD, va_S.rf⟩ hl
def rX5_isUnit : Room := { frames := 0, cells := 0, slots := 0, locals := 0 }
theorem kX5_isUnit_X5 : ∀ w ∈ wsX50, w ∈ wsX5_isUnit := fun w h => (List.mem_cons_of_mem _ (List.mem_append_right _ h))
theorem mX5_isUnit_1 : Cond.fieldLink RX5 37 "SmokeLedger" "units" "I" ∈ wsX5_isUnit := List.mem_of_getElem? (i := 1) rfl
set_option maxHeartbeats 4000000 in
set_option maxRecDepth 100000 in
theorem ct_X5_isUnit (l : Launch) (dC : Nat → ClassId) (dI : Nat → Nat → Nat) (a b : Nat → Nat) (cI cJ cZ : ClassId) (st : LG) (x1 : Int32) (res : Int32) (hf : fX5_isUnit st x1 = some res) : Met l yX5_isUnit wsX5_isUnit rX5_isUnit (Pp (dC, dI) (tyT cI cJ cZ) (WX5 a b cI cJ cZ st) [.ref (a 0), .int x1]) (Qp (.int res)) 0 0 (fun _ => False) := by
  refine Met.ofW (cc := cX5_isUnit) (maxL := 2) (ret := (some .boolean)) (by decide) rfl ?_
  intro p e s m args below meth c s₁ B hml hv
  obtain ⟨hargs, hP, hK⟩ := hv
  have hx := B.exec
  have hb := B.bytes
  have hr := B.returns
  have hts := atoms_spec (ws := wsX5_isUnit) B.pre
  have hown : s.vm.findClass RX5 = some m.cls := findClass_of_methodNamed B.named
  have hlocks := B.notSynchronized
  have hP : va_P (dC, dI) vwCl (WX5 a b cI cJ cZ st) s.heap := hP
  have hl := lv_entry ([.ref (a 0), .int x1]) (n := 2) (Nat.le_of_ble_eq_true rfl)
  refine W.eq (hargs ▸ lg_entry_eq m [.ref (a 0), .int x1] 2) ?_
  generalize (lg_sl ([.ref (a 0), .int x1]) ++ List.replicate (2 - (lg_sl ([.ref (a 0), .int x1])).length) Slot.unset).toArray = ls at hl ⊢
  have hl : lv_has ls 2 [(0, .ref (a 0)), (1, .int x1)] := hl
  obtain ⟨QQ, hQ⟩ : ∃ QQ : State → Prop, QQ = MQ below (Qp (.int res)) args s 0 0 (fun _ => False) := ⟨_, rfl⟩
  rw [← hQ]
  unfold fX5_isUnit at hf
  refine lv_iload_n hx hb dX5_isUnit_0 rfl (lv_at hl 1 rfl) ?_
  refine lv_if_lt (tgt := 16) hx hb dX5_isUnit_1 (by decide) (fun c1 => ?_) (fun c1 => ?_)
  · replace hf := it_p c1 hf
    refine lv_iconst (v := (0 : Int32)) hx hb dX5_isUnit_16 (by decide) ?_
    obtain rfl := Option.some.inj hf
    rw [hQ]
    exact W.zret hx hb hr rfl (fun t ht hW => ⟨rfl, ht⟩) (fun q hq => absurd hq List.not_mem_nil) dX5_isUnit_17
  · replace hf := it_n c1 hf
    refine lv_iload_n hx hb dX5_isUnit_4 rfl (lv_at hl 1 rfl) ?_
    refine lv_aload_n hx hb dX5_isUnit_5 rfl (lv_at hl 0 rfl) ?_
    refine va_get (D := (dC, dI)) (ci := 5) (v := .int (LG_units st)) (C := RX5) (T := TX5) (N := 5) hx hb hts kX5_isUnit_X5 hown hK hP 0 rfl rfl 4 (by decide) (hts _ mX5_isUnit_1) (fun _ h9 => h9) rfl dX5_isUnit_6 ?_
    refine lv_icmp_ge (tgt := 16) hx hb dX5_isUnit_9 (by decide) (fun c2 => ?_) (fun c2 => ?_)
    · replace hf := it_p c2 hf
      refine lv_iconst (v := (0 : Int32)) hx hb dX5_isUnit_16 (by decide) ?_
      obtain rfl := Option.some.inj hf
      rw [hQ]
      exact W.zret hx hb hr rfl (fun t ht hW => ⟨rfl, ht⟩) (fun q hq => absurd hq List.not_mem_nil) dX5_isUnit_17
    · replace hf := it_n c2 hf
      refine lv_iconst (v := (1 : Int32)) hx hb dX5_isUnit_12 (by decide) ?_
      refine lv_goto (tgt := 17) hx hb dX5_isUnit_13 (by decide) ?_
      obtain rfl := Option.some.inj hf
      rw [hQ]
      exact W.zret hx hb hr rfl (fun t ht hW => ⟨rfl, ht⟩) (fun q hq => absurd hq List.not_mem_nil) dX5_isUnit_17
def rX5_isHundredths : Room := { frames := 0, cells := 0, slots := 0, locals := 0 }
set_option maxHeartbeats 4000000 in
set_option maxRecDepth 100000 in
theorem ct_X5_isHundredths (l : Launch) (dC : Nat → ClassId) (dI : Nat → Nat → Nat) (cI cJ cZ : ClassId) (x0 : Int32) (res : Int32) (hf : fX5_isHundredths x0 = some res) : Met l yX5_isHundredths wsX5_isHundredths rX5_isHundredths (Pp (dC, dI) (tyT cI cJ cZ) [] [.int x0]) (Qp (.int res)) 0 0 (fun _ => False) := by
  refine Met.ofW (cc := cX5_isHundredths) (maxL := 1) (ret := (some .boolean)) (by decide) rfl ?_
  intro p e s m args below meth c s₁ B hml hv
  obtain ⟨hargs, hP, hK⟩ := hv
  have hx := B.exec
  have hb := B.bytes
  have hr := B.returns
  have hts := atoms_spec (ws := wsX5_isHundredths) B.pre
  have hown : s.vm.findClass RX5 = some m.cls := findClass_of_methodNamed B.named
  have hlocks := B.notSynchronized
  have hP : va_P (dC, dI) vwCl [] s.heap := hP
  have hl := lv_entry ([.int x0]) (n := 1) (Nat.le_of_ble_eq_true rfl)
  refine W.eq (hargs ▸ lg_entry_eq m [.int x0] 1) ?_
  generalize (lg_sl ([.int x0]) ++ List.replicate (1 - (lg_sl ([.int x0])).length) Slot.unset).toArray = ls at hl ⊢
  have hl : lv_has ls 1 [(0, .int x0)] := hl
  obtain ⟨QQ, hQ⟩ : ∃ QQ : State → Prop, QQ = MQ below (Qp (.int res)) args s 0 0 (fun _ => False) := ⟨_, rfl⟩
  rw [← hQ]
  unfold fX5_isHundredths at hf
  refine lv_iload_n hx hb dX5_isHundredths_0 rfl (lv_at hl 0 rfl) ?_
  refine lv_if_lt (tgt := 14) hx hb dX5_isHundredths_1 (by decide) (fun c1 => ?_) (fun c1 => ?_)
  · replace hf := it_p c1 hf
    refine lv_iconst (v := (0 : Int32)) hx hb dX5_isHundredths_14 (by decide) ?_
    obtain rfl := Option.some.inj hf
    rw [hQ]
    exact W.zret hx hb hr rfl (fun t ht hW => ⟨rfl, ht⟩) (fun q hq => absurd hq List.not_mem_nil) dX5_isHundredths_15
  · replace hf := it_n c1 hf
    refine lv_iload_n hx hb dX5_isHundredths_4 rfl (lv_at hl 0 rfl) ?_
    refine lv_bipush (v := (100 : Int32)) hx hb dX5_isHundredths_5 (by decide) ?_
    refine lv_icmp_gt (tgt := 14) hx hb dX5_isHundredths_7 (by decide) (fun c2 => ?_) (fun c2 => ?_)
    · replace hf := it_p c2 hf
      refine lv_iconst (v := (0 : Int32)) hx hb dX5_isHundredths_14 (by decide) ?_
      obtain rfl := Option.some.inj hf
      rw [hQ]
      exact W.zret hx hb hr rfl (fun t ht hW => ⟨rfl, ht⟩) (fun q hq => absurd hq List.not_mem_nil) dX5_isHundredths_15
    · replace hf := it_n c2 hf
      refine lv_iconst (v := (1 : Int32)) hx hb dX5_isHundredths_10 (by decide) ?_
      refine lv_goto (tgt := 15) hx hb dX5_isHundredths_11 (by decide) ?_
      obtain rfl := Option.some.inj hf
      rw [hQ]
      exact W.zret hx hb hr rfl (fun t ht hW => ⟨rfl, ht⟩) (fun q hq => absurd hq List.not_mem_nil) dX5_isHundredths_15
def rX5_isDay : Room := { frames := 0, cells := 0, slots := 0, locals := 0 }
set_option maxHeartbeats 4000000 in
set_option maxRecDepth 100000 in
theorem ct_X5_isDay (l : Launch) (dC : Nat → ClassId) (dI : Nat → Nat → Nat) (cI cJ cZ : ClassId) (x0 : Int32) (res : Int32) (hf : fX5_isDay x0 = some res) : Met l yX5_isDay wsX5_isDay rX5_isDay (Pp (dC, dI) (tyT cI cJ cZ) [] [.int x0]) (Qp (.int res)) 0 0 (fun _ => False) := by
  refine Met.ofW (cc := cX5_isDay) (maxL := 1) (ret := (some .boolean)) (by decide) rfl ?_
  intro p e s m args below meth c s₁ B hml hv
  obtain ⟨hargs, hP, hK⟩ := hv
  have hx := B.exec
  have hb := B.bytes
  have hr := B.returns
  have hts := atoms_spec (ws := wsX5_isDay) B.pre
  have hown : s.vm.findClass RX5 = some m.cls := findClass_of_methodNamed B.named
  have hlocks := B.notSynchronized
  have hP : va_P (dC, dI) vwCl [] s.heap := hP
  have hl := lv_entry ([.int x0]) (n := 1) (Nat.le_of_ble_eq_true rfl)
  refine W.eq (hargs ▸ lg_entry_eq m [.int x0] 1) ?_
  generalize (lg_sl ([.int x0]) ++ List.replicate (1 - (lg_sl ([.int x0])).length) Slot.unset).toArray = ls at hl ⊢
  have hl : lv_has ls 1 [(0, .int x0)] := hl
  obtain ⟨QQ, hQ⟩ : ∃ QQ : State → Prop, QQ = MQ below (Qp (.int res)) args s 0 0 (fun _ => False) := ⟨_, rfl⟩
  rw [← hQ]
  unfold fX5_isDay at hf
  refine lv_iload_n hx hb dX5_isDay_0 rfl (lv_at hl 0 rfl) ?_
  refine lv_if_lt (tgt := 15) hx hb dX5_isDay_1 (by decide) (fun c1 => ?_) (fun c1 => ?_)
  · replace hf := it_p c1 hf
    refine lv_iconst (v := (0 : Int32)) hx hb dX5_isDay_15 (by decide) ?_
    obtain rfl := Option.some.inj hf
    rw [hQ]
    exact W.zret hx hb hr rfl (fun t ht hW => ⟨rfl, ht⟩) (fun q hq => absurd hq List.not_mem_nil) dX5_isDay_16
  · replace hf := it_n c1 hf
    refine lv_iload_n hx hb dX5_isDay_4 rfl (lv_at hl 0 rfl) ?_
    refine lv_sipush (v := (3650 : Int32)) hx hb dX5_isDay_5 (by decide) ?_
    refine lv_icmp_ge (tgt := 15) hx hb dX5_isDay_8 (by decide) (fun c2 => ?_) (fun c2 => ?_)
    · replace hf := it_p c2 hf
      refine lv_iconst (v := (0 : Int32)) hx hb dX5_isDay_15 (by decide) ?_
      obtain rfl := Option.some.inj hf
      rw [hQ]
      exact W.zret hx hb hr rfl (fun t ht hW => ⟨rfl, ht⟩) (fun q hq => absurd hq List.not_mem_nil) dX5_isDay_16
    · replace hf := it_n c2 hf
      refine lv_iconst (v := (1 : Int32)) hx hb dX5_isDay_11 (by decide) ?_
      refine lv_goto (tgt := 16) hx hb dX5_isDay_12 (by decide) ?_
      obtain rfl := Option.some.inj hf
      rw [hQ]
      exact W.zret hx hb hr rfl (fun t ht hW => ⟨rfl, ht⟩) (fun q hq => absurd hq List.not_mem_nil) dX5_isDay_16
def rX5_hold : Room := { frames := 3, cells := 0, slots := 0, locals := 88 }
theorem kX5_hold_X5 : ∀ w ∈ wsX50, w ∈ wsX5_hold := fun w h => (List.mem_cons_of_mem _ (List.mem_append_left _ (List.mem_append_right _ h)))
theorem mX5_hold_1 : Cond.fieldLink RX5 10 "SmokeLedger" "holdings" "LSmokeLedger$Holdings;" ∈ wsX5_hold := List.mem_of_getElem? (i := 1) rfl
set_option maxHeartbeats 4000000 in
set_option maxRecDepth 100000 in
theorem ct_X5_hold (l : Launch) (dC : Nat → ClassId) (dI : Nat → Nat → Nat) (a b : Nat → Nat) (cI cJ cZ : ClassId) (sz : Nat) (st : LG) (x1 : Int32) (x2 : Int32) (x3 : Int32) (x4 : Int32) (res : Int32 × LG) (hf : fX5_hold st x1 x2 x3 x4 = some res) : Met l yX5_hold wsX5_hold rX5_hold (Pm (dC, dI) (tyT cI cJ cZ) (WX5 a b cI cJ cZ st) sz [.ref (a 0), .int x1, .int x2, .int x3, .int x4]) (Qm (dC, dI) (some (.int res.1)) (WX5 a b cI cJ cZ res.2) (va_A (WX5 a b cI cJ cZ st) sz)) 0 0 (va_A (WX5 a b cI cJ cZ st) sz) := by
  refine Met.ofW (cc := cX5_hold) (maxL := 5) (ret := (some .int)) (by decide) rfl ?_
  intro p e s m args below meth c s₁ B hml hv
  obtain ⟨hargs, hsz, hP, hK, hD0⟩ := hv
  have hx := B.exec
  have hb := B.bytes
  have hr := B.returns
  have hts := atoms_spec (ws := wsX5_hold) B.pre
  have hown : s.vm.findClass RX5 = some m.cls := findClass_of_methodNamed B.named
  have hlocks := B.notSynchronized
  subst hsz
  have hD := hD0.self (sz := s.heap.size)
  generalize hAe : va_A (WX5 a b cI cJ cZ st) s.heap.size = A at hD ⊢
  have hA : ∀ q : Nat, s.heap.size ≤ q → A q := fun q h => by rw [← hAe]; exact Or.inr h
  have hl := lv_entry ([.ref (a 0), .int x1, .int x2, .int x3, .int x4]) (n := 5) (Nat.le_of_ble_eq_true rfl)
  refine W.eq (hargs ▸ lg_entry_eq m [.ref (a 0), .int x1, .int x2, .int x3, .int x4] 5) ?_
  generalize (lg_sl ([.ref (a 0), .int x1, .int x2, .int x3, .int x4]) ++ List.replicate (5 - (lg_sl ([.ref (a 0), .int x1, .int x2, .int x3, .int x4])).length) Slot.unset).toArray = ls at hl ⊢
  have hl : lv_has ls 5 [(0, .ref (a 0)), (1, .int x1), (2, .int x2), (3, .int x3), (4, .int x4)] := hl
  obtain ⟨QQ, hQ⟩ : ∃ QQ : State → Prop, QQ = MQ below (Qm (dC, dI) (some (.int res.1)) (WX5 a b cI cJ cZ res.2) A) args s 0 0 (A) := ⟨_, rfl⟩
  rw [← hQ]
  have b60 : ∀ (st : LG) (x1 : Int32) (x2 : Int32) (x3 : Int32) (x4 : Int32), fX5_hold_b60 st x1 x2 x3 x4 = some res → (∀ (H : Heap) (locs : List Loc) (ls : Array Slot), IN (dC, dI) (WX5 a b cI cJ cZ st) A s.heap H locs → lv_has ls 5 [(0, .ref (a 0)), (1, .int x1), (2, .int x2), (3, .int x3), (4, .int x4)] → W p l e (headSpec wsX5_hold rX5_hold).room s m args below meth c H locs 0 0 QQ (F0 m 60 ls [])) := by
    intro st x1 x2 x3 x4 hf
    intro H locs ls hin hl
    obtain ⟨hP, hD, hS⟩ := hin
    unfold fX5_hold_b60 at hf
    refine lv_aload_n hx hb dX5_hold_60 rfl (lv_at hl 0 rfl) ?_
    refine va_get (D := (dC, dI)) (ci := 5) (v := .ref (a 1)) (C := RX5) (T := TX5) (N := 5) hx hb hts kX5_hold_X5 hown hK hP 0 rfl rfl 0 (by decide) (hts _ mX5_hold_1) (fun _ h9 => h9) rfl dX5_hold_61 ?_
    refine lv_iload_n hx hb dX5_hold_64 rfl (lv_at hl 1 rfl) ?_
    refine lv_iload_n hx hb dX5_hold_65 rfl (lv_at hl 2 rfl) ?_
    refine lv_iload_n hx hb dX5_hold_66 rfl (lv_at hl 3 rfl) ?_
    refine lv_iload hx hb dX5_hold_67 (lv_at hl 4 rfl) ?_
    obtain ⟨p15, hc16, hf⟩ := bind_s hf
    refine cmV (wr := (a 0, .inr (5, [.ref (a 1), .ref (a 12), .ref (a 19), .ref (a 24), .int (LG_units st)])) :: (WX2 a b cI cJ cZ (LG_R st) ++ (WX0 a b cI cJ cZ (LG_F st) ++ (WX3 a b cI cJ cZ (LG_S st))))) ⟨hx, hb, hml, hown, hts⟩ (ct_X1_tell l dC dI a b cI cJ cZ H.size (LG_H st) x1 x2 x3 x4 p15 hc16) (cwV 4 hts gX5_hold_X1_tell rfl rfl rfl (by decide +kernel) ⟨(Nat.le_of_ble_eq_true rfl), (Nat.le_of_ble_eq_true rfl)⟩) hK hP hD hS hA [1, 2, 3, 4, 5, 6, 7, 8, 9, 10, 11] [0, 12, 13, 14, 15, 16, 17, 18, 19, 20, 21, 22, 23, 24, 25, 26, 27] rfl rfl (by decide) rfl (by decide) (by decide) rfl rfl rfl hl.1 rfl (Nat.le_of_ble_eq_true rfl) (Nat.le_of_ble_eq_true rfl) (Nat.le_of_ble_eq_true rfl) dX5_hold_69 (fun H locs hP hD hS => ?_)
    replace hP : va_P (dC, dI) vwCl (WX5 a b cI cJ cZ (LG_mk p15.2 (LG_R st) (LG_F st) (LG_S st) (LG_units st))) H := hP.sub [0, 17, 18, 19, 20, 21, 22, 23, 24, 25, 26, 27, 1, 2, 3, 4, 5, 6, 7, 8, 9, 10, 11, 12, 13, 14, 15, 16] rfl
    replace hD : va_D A (WX5 a b cI cJ cZ (LG_mk p15.2 (LG_R st) (LG_F st) (LG_S st) (LG_units st))) := hD.sub [0, 17, 18, 19, 20, 21, 22, 23, 24, 25, 26, 27, 1, 2, 3, 4, 5, 6, 7, 8, 9, 10, 11, 12, 13, 14, 15, 16] (by decide) rfl
    refine W.eq (g2 := F0 m 72 ls [.int p15.1]) rfl ?_
    obtain rfl := Option.some.inj hf
    rw [hQ]
    exact W.iret hx hb hr (fun t ht hW => ⟨rfl, ⟨by rw [ht]; exact hP, hD⟩, hS.F ht⟩) hS.2.2 dX5_hold_72
  have main : ∀ (H : Heap) (locs : List Loc) (ls : Array Slot), IN (dC, dI) (WX5 a b cI cJ cZ st) A s.heap H locs → lv_has ls 5 [(0, .ref (a 0)), (1, .int x1), (2, .int x2), (3, .int x3), (4, .int x4)] → W p l e (headSpec wsX5_hold rX5_hold).room s m args below meth c H locs 0 0 QQ (F0 m 0 ls []) := by
    intro H locs ls hin hl
    obtain ⟨hP, hD, hS⟩ := hin
    unfold fX5_hold at hf
    refine lv_aload_n hx hb dX5_hold_0 rfl (lv_at hl 0 rfl) ?_
    refine lv_iload_n hx hb dX5_hold_1 rfl (lv_at hl 1 rfl) ?_
    obtain ⟨r1, hc2, hf⟩ := bind_s hf
    refine cpV (v := .int r1) ⟨hx, hb, hml, hown, hts⟩ (ct_X5_isUnit l dC dI a b cI cJ cZ st x1 r1 hc2) (cwV 1 hts gX5_hold_X5_isUnit rfl rfl rfl (by decide +kernel) ⟨(Nat.le_of_ble_eq_true rfl), (Nat.le_of_ble_eq_true rfl)⟩) hK hP [0, 1, 2, 3, 4, 5, 6, 7, 8, 9, 10, 11, 12, 13, 14, 15, 16, 17, 18, 19, 20, 21, 22, 23, 24, 25, 26, 27] rfl rfl rfl rfl hl.1 rfl (Nat.le_of_ble_eq_true rfl) (Nat.le_of_ble_eq_true rfl) (Nat.le_of_ble_eq_true rfl) dX5_hold_2 ?_
    refine lv_if_eq (tgt := 16) hx hb dX5_hold_5 (by decide) (fun c3 => ?_) (fun c3 => ?_)
    · replace hf := it_p c3 hf
      refine lv_iconst (v := (-1 : Int32)) hx hb dX5_hold_16 (by decide) ?_
      obtain rfl := Option.some.inj hf
      rw [hQ]
      exact W.iret hx hb hr (fun t ht hW => ⟨rfl, ⟨by rw [ht]; exact hP, hD⟩, hS.F ht⟩) hS.2.2 dX5_hold_17
    · replace hf := it_n c3 hf
      refine lv_aload_n hx hb dX5_hold_8 rfl (lv_at hl 0 rfl) ?_
      refine lv_iload_n hx hb dX5_hold_9 rfl (lv_at hl 2 rfl) ?_
      obtain ⟨r4, hc5, hf⟩ := bind_s hf
      refine cpV (v := .int r4) ⟨hx, hb, hml, hown, hts⟩ (ct_X5_isUnit l dC dI a b cI cJ cZ st x2 r4 hc5) (cwV 1 hts gX5_hold_X5_isUnit rfl rfl rfl (by decide +kernel) ⟨(Nat.le_of_ble_eq_true rfl), (Nat.le_of_ble_eq_true rfl)⟩) hK hP [0, 1, 2, 3, 4, 5, 6, 7, 8, 9, 10, 11, 12, 13, 14, 15, 16, 17, 18, 19, 20, 21, 22, 23, 24, 25, 26, 27] rfl rfl rfl rfl hl.1 rfl (Nat.le_of_ble_eq_true rfl) (Nat.le_of_ble_eq_true rfl) (Nat.le_of_ble_eq_true rfl) dX5_hold_10 ?_
      refine lv_if_ne (tgt := 18) hx hb dX5_hold_13 (by decide) (fun c6 => ?_) (fun c6 => ?_)
      · replace hf := it_n c6 hf
        refine lv_iload_n hx hb dX5_hold_18 rfl (lv_at hl 3 rfl) ?_
        obtain ⟨r7, hc8, hf⟩ := bind_s hf
        refine cpS (v := .int r7) ⟨hx, hb, hml, hown, hts⟩ (ct_X5_isHundredths l dC dI cI cJ cZ x3 r7 hc8) (va_cwS 1 hts gX5_hold_X5_isHundredths rfl rfl rfl (by decide +kernel) ⟨(Nat.le_of_ble_eq_true rfl), (Nat.le_of_ble_eq_true rfl)⟩) hK hP [] rfl rfl hl.1 rfl (Nat.le_of_ble_eq_true rfl) (Nat.le_of_ble_eq_true rfl) (Nat.le_of_ble_eq_true rfl) dX5_hold_19 ?_
        refine lv_if_eq (tgt := 33) hx hb dX5_hold_22 (by decide) (fun c9 => ?_) (fun c9 => ?_)
        · replace hf := it_p c9 hf
          refine lv_bipush (v := (-2 : Int32)) hx hb dX5_hold_33 (by decide) ?_
          obtain rfl := Option.some.inj hf
          rw [hQ]
          exact W.iret hx hb hr (fun t ht hW => ⟨rfl, ⟨by rw [ht]; exact hP, hD⟩, hS.F ht⟩) hS.2.2 dX5_hold_35
        · replace hf := it_n c9 hf
          refine lv_iload hx hb dX5_hold_25 (lv_at hl 4 rfl) ?_
          obtain ⟨r10, hc11, hf⟩ := bind_s hf
          refine cpS (v := .int r10) ⟨hx, hb, hml, hown, hts⟩ (ct_X5_isDay l dC dI cI cJ cZ x4 r10 hc11) (va_cwS 1 hts gX5_hold_X5_isDay rfl rfl rfl (by decide +kernel) ⟨(Nat.le_of_ble_eq_true rfl), (Nat.le_of_ble_eq_true rfl)⟩) hK hP [] rfl rfl hl.1 rfl (Nat.le_of_ble_eq_true rfl) (Nat.le_of_ble_eq_true rfl) (Nat.le_of_ble_eq_true rfl) dX5_hold_27 ?_
          refine lv_if_ne (tgt := 36) hx hb dX5_hold_30 (by decide) (fun c12 => ?_) (fun c12 => ?_)
          · replace hf := it_n c12 hf
            refine lv_iload_n hx hb dX5_hold_36 rfl (lv_at hl 1 rfl) ?_
            refine lv_iload_n hx hb dX5_hold_37 rfl (lv_at hl 2 rfl) ?_
            refine lv_icmp_eq (tgt := 57) hx hb dX5_hold_38 (by decide) (fun c13 => ?_) (fun c13 => ?_)
            · replace hf := it_p c13 hf
              refine lv_bipush (v := (-3 : Int32)) hx hb dX5_hold_57 (by decide) ?_
              obtain rfl := Option.some.inj hf
              rw [hQ]
              exact W.iret hx hb hr (fun t ht hW => ⟨rfl, ⟨by rw [ht]; exact hP, hD⟩, hS.F ht⟩) hS.2.2 dX5_hold_59
            · replace hf := it_n c13 hf
              refine lv_iload_n hx hb dX5_hold_41 rfl (lv_at hl 3 rfl) ?_
              refine lv_if_le (tgt := 60) hx hb dX5_hold_42 (by decide) (fun c14 => ?_) (fun c14 => ?_)
              · replace hf := it_p c14 hf
                exact b60 st x1 x2 x3 x4 hf H locs ls ⟨hP, hD, hS⟩ (lv_sub hl [0, 1, 2, 3, 4] rfl)
              · replace hf := it_n c14 hf
                refine lv_aload_n hx hb dX5_hold_45 rfl (lv_at hl 0 rfl) ?_
                refine va_get (D := (dC, dI)) (ci := 5) (v := .ref (a 1)) (C := RX5) (T := TX5) (N := 5) hx hb hts kX5_hold_X5 hown hK hP 0 rfl rfl 0 (by decide) (hts _ mX5_hold_1) (fun _ h9 => h9) rfl dX5_hold_46 ?_
                refine lv_iload_n hx hb dX5_hold_49 rfl (lv_at hl 1 rfl) ?_
                refine lv_iload_n hx hb dX5_hold_50 rfl (lv_at hl 2 rfl) ?_
                obtain ⟨p17, hc18, hf⟩ := bind_s hf
                refine cmV (wr := (a 0, .inr (5, [.ref (a 1), .ref (a 12), .ref (a 19), .ref (a 24), .int (LG_units st)])) :: (WX2 a b cI cJ cZ (LG_R st) ++ (WX0 a b cI cJ cZ (LG_F st) ++ (WX3 a b cI cJ cZ (LG_S st))))) ⟨hx, hb, hml, hown, hts⟩ (ct_X1_mayTie l dC dI a b cI cJ cZ H.size (LG_H st) x1 x2 p17 hc18) (cwV 2 hts gX5_hold_X1_mayTie rfl rfl rfl (by decide +kernel) ⟨(Nat.le_of_ble_eq_true rfl), (Nat.le_of_ble_eq_true rfl)⟩) hK hP hD hS hA [1, 2, 3, 4, 5, 6, 7, 8, 9, 10, 11] [0, 12, 13, 14, 15, 16, 17, 18, 19, 20, 21, 22, 23, 24, 25, 26, 27] rfl rfl (by decide) rfl (by decide) (by decide) rfl rfl rfl hl.1 rfl (Nat.le_of_ble_eq_true rfl) (Nat.le_of_ble_eq_true rfl) (Nat.le_of_ble_eq_true rfl) dX5_hold_51 (fun H locs hP hD hS => ?_)
                replace hP : va_P (dC, dI) vwCl (WX5 a b cI cJ cZ (LG_mk p17.2 (LG_R st) (LG_F st) (LG_S st) (LG_units st))) H := hP.sub [0, 17, 18, 19, 20, 21, 22, 23, 24, 25, 26, 27, 1, 2, 3, 4, 5, 6, 7, 8, 9, 10, 11, 12, 13, 14, 15, 16] rfl
                replace hD : va_D A (WX5 a b cI cJ cZ (LG_mk p17.2 (LG_R st) (LG_F st) (LG_S st) (LG_units st))) := hD.sub [0, 17, 18, 19, 20, 21, 22, 23, 24, 25, 26, 27, 1, 2, 3, 4, 5, 6, 7, 8, 9, 10, 11, 12, 13, 14, 15, 16] (by decide) rfl
                refine W.eq (g2 := F0 m 54 ls [.int p17.1]) rfl ?_
                refine lv_if_ne (tgt := 60) hx hb dX5_hold_54 (by decide) (fun c19 => ?_) (fun c19 => ?_)
                · replace hf := it_n c19 hf
                  exact b60 (LG_mk p17.2 (LG_R st) (LG_F st) (LG_S st) (LG_units st)) x1 x2 x3 x4 hf H locs ls ⟨hP, hD, hS⟩ (lv_sub hl [0, 1, 2, 3, 4] rfl)
                · replace hf := it_p c19 hf
                  refine lv_bipush (v := (-3 : Int32)) hx hb dX5_hold_57 (by decide) ?_
                  obtain rfl := Option.some.inj hf
                  rw [hQ]
                  exact W.iret hx hb hr (fun t ht hW => ⟨rfl, ⟨by rw [ht]; exact hP, hD⟩, hS.F ht⟩) hS.2.2 dX5_hold_59
          · replace hf := it_p c12 hf
            refine lv_bipush (v := (-2 : Int32)) hx hb dX5_hold_33 (by decide) ?_
            obtain rfl := Option.some.inj hf
            rw [hQ]
            exact W.iret hx hb hr (fun t ht hW => ⟨rfl, ⟨by rw [ht]; exact hP, hD⟩, hS.F ht⟩) hS.2.2 dX5_hold_35
      · replace hf := it_p c6 hf
        refine lv_iconst (v := (-1 : Int32)) hx hb dX5_hold_16 (by decide) ?_
        obtain rfl := Option.some.inj hf
        rw [hQ]
        exact W.iret hx hb hr (fun t ht hW => ⟨rfl, ⟨by rw [ht]; exact hP, hD⟩, hS.F ht⟩) hS.2.2 dX5_hold_17
  exact main s.heap [] ls ⟨hP, hD, va_S.rf⟩ hl
def rX5_holds : Room := { frames := 2, cells := 0, slots := 0, locals := 46 }
theorem kX5_holds_X5 : ∀ w ∈ wsX50, w ∈ wsX5_holds := fun w h => (List.mem_cons_of_mem _ (List.mem_append_left _ (List.mem_append_right _ h)))
theorem mX5_holds_1 : Cond.fieldLink RX5 10 "SmokeLedger" "holdings" "LSmokeLedger$Holdings;" ∈ wsX5_holds := List.mem_of_getElem? (i := 1) rfl
set_option maxHeartbeats 4000000 in
set_option maxRecDepth 100000 in
theorem ct_X5_holds (l : Launch) (dC : Nat → ClassId) (dI : Nat → Nat → Nat) (a b : Nat → Nat) (cI cJ cZ : ClassId) (st : LG) (x1 : Int32) (x2 : Int32) (x3 : Int32) (res : Int32) (hf : fX5_holds st x1 x2 x3 = some res) : Met l yX5_holds wsX5_holds rX5_holds (Pp (dC, dI) (tyT cI cJ cZ) (WX5 a b cI cJ cZ st) [.ref (a 0), .int x1, .int x2, .int x3]) (Qp (.int res)) 0 0 (fun _ => False) := by
  refine Met.ofW (cc := cX5_holds) (maxL := 4) (ret := (some .int)) (by decide) rfl ?_
  intro p e s m args below meth c s₁ B hml hv
  obtain ⟨hargs, hP, hK⟩ := hv
  have hx := B.exec
  have hb := B.bytes
  have hr := B.returns
  have hts := atoms_spec (ws := wsX5_holds) B.pre
  have hown : s.vm.findClass RX5 = some m.cls := findClass_of_methodNamed B.named
  have hlocks := B.notSynchronized
  have hP : va_P (dC, dI) vwCl (WX5 a b cI cJ cZ st) s.heap := hP
  have hl := lv_entry ([.ref (a 0), .int x1, .int x2, .int x3]) (n := 4) (Nat.le_of_ble_eq_true rfl)
  refine W.eq (hargs ▸ lg_entry_eq m [.ref (a 0), .int x1, .int x2, .int x3] 4) ?_
  generalize (lg_sl ([.ref (a 0), .int x1, .int x2, .int x3]) ++ List.replicate (4 - (lg_sl ([.ref (a 0), .int x1, .int x2, .int x3])).length) Slot.unset).toArray = ls at hl ⊢
  have hl : lv_has ls 4 [(0, .ref (a 0)), (1, .int x1), (2, .int x2), (3, .int x3)] := hl
  obtain ⟨QQ, hQ⟩ : ∃ QQ : State → Prop, QQ = MQ below (Qp (.int res)) args s 0 0 (fun _ => False) := ⟨_, rfl⟩
  rw [← hQ]
  unfold fX5_holds at hf
  refine lv_aload_n hx hb dX5_holds_0 rfl (lv_at hl 0 rfl) ?_
  refine lv_iload_n hx hb dX5_holds_1 rfl (lv_at hl 1 rfl) ?_
  obtain ⟨r1, hc2, hf⟩ := bind_s hf
  refine cpV (v := .int r1) ⟨hx, hb, hml, hown, hts⟩ (ct_X5_isUnit l dC dI a b cI cJ cZ st x1 r1 hc2) (cwV 1 hts gX5_holds_X5_isUnit rfl rfl rfl (by decide +kernel) ⟨(Nat.le_of_ble_eq_true rfl), (Nat.le_of_ble_eq_true rfl)⟩) hK hP [0, 1, 2, 3, 4, 5, 6, 7, 8, 9, 10, 11, 12, 13, 14, 15, 16, 17, 18, 19, 20, 21, 22, 23, 24, 25, 26, 27] rfl rfl rfl rfl hl.1 rfl (Nat.le_of_ble_eq_true rfl) (Nat.le_of_ble_eq_true rfl) (Nat.le_of_ble_eq_true rfl) dX5_holds_2 ?_
  refine lv_if_eq (tgt := 16) hx hb dX5_holds_5 (by decide) (fun c3 => ?_) (fun c3 => ?_)
  · replace hf := it_p c3 hf
    refine lv_iconst (v := (-1 : Int32)) hx hb dX5_holds_16 (by decide) ?_
    obtain rfl := Option.some.inj hf
    rw [hQ]
    exact W.iret hx hb hr (fun t ht hW => ⟨rfl, ht⟩) (fun q hq => absurd hq List.not_mem_nil) dX5_holds_17
  · replace hf := it_n c3 hf
    refine lv_aload_n hx hb dX5_holds_8 rfl (lv_at hl 0 rfl) ?_
    refine lv_iload_n hx hb dX5_holds_9 rfl (lv_at hl 2 rfl) ?_
    obtain ⟨r4, hc5, hf⟩ := bind_s hf
    refine cpV (v := .int r4) ⟨hx, hb, hml, hown, hts⟩ (ct_X5_isUnit l dC dI a b cI cJ cZ st x2 r4 hc5) (cwV 1 hts gX5_holds_X5_isUnit rfl rfl rfl (by decide +kernel) ⟨(Nat.le_of_ble_eq_true rfl), (Nat.le_of_ble_eq_true rfl)⟩) hK hP [0, 1, 2, 3, 4, 5, 6, 7, 8, 9, 10, 11, 12, 13, 14, 15, 16, 17, 18, 19, 20, 21, 22, 23, 24, 25, 26, 27] rfl rfl rfl rfl hl.1 rfl (Nat.le_of_ble_eq_true rfl) (Nat.le_of_ble_eq_true rfl) (Nat.le_of_ble_eq_true rfl) dX5_holds_10 ?_
    refine lv_if_ne (tgt := 18) hx hb dX5_holds_13 (by decide) (fun c6 => ?_) (fun c6 => ?_)
    · replace hf := it_n c6 hf
      refine lv_iload_n hx hb dX5_holds_18 rfl (lv_at hl 3 rfl) ?_
      obtain ⟨r7, hc8, hf⟩ := bind_s hf
      refine cpS (v := .int r7) ⟨hx, hb, hml, hown, hts⟩ (ct_X5_isDay l dC dI cI cJ cZ x3 r7 hc8) (va_cwS 1 hts gX5_holds_X5_isDay rfl rfl rfl (by decide +kernel) ⟨(Nat.le_of_ble_eq_true rfl), (Nat.le_of_ble_eq_true rfl)⟩) hK hP [] rfl rfl hl.1 rfl (Nat.le_of_ble_eq_true rfl) (Nat.le_of_ble_eq_true rfl) (Nat.le_of_ble_eq_true rfl) dX5_holds_19 ?_
      refine lv_if_eq (tgt := 38) hx hb dX5_holds_22 (by decide) (fun c9 => ?_) (fun c9 => ?_)
      · replace hf := it_p c9 hf
        refine lv_bipush (v := (-2 : Int32)) hx hb dX5_holds_38 (by decide) ?_
        obtain rfl := Option.some.inj hf
        rw [hQ]
        exact W.iret hx hb hr (fun t ht hW => ⟨rfl, ht⟩) (fun q hq => absurd hq List.not_mem_nil) dX5_holds_40
      · replace hf := it_n c9 hf
        refine lv_aload_n hx hb dX5_holds_25 rfl (lv_at hl 0 rfl) ?_
        refine va_get (D := (dC, dI)) (ci := 5) (v := .ref (a 1)) (C := RX5) (T := TX5) (N := 5) hx hb hts kX5_holds_X5 hown hK hP 0 rfl rfl 0 (by decide) (hts _ mX5_holds_1) (fun _ h9 => h9) rfl dX5_holds_26 ?_
        refine lv_iload_n hx hb dX5_holds_29 rfl (lv_at hl 1 rfl) ?_
        refine lv_iload_n hx hb dX5_holds_30 rfl (lv_at hl 2 rfl) ?_
        refine lv_iload_n hx hb dX5_holds_31 rfl (lv_at hl 3 rfl) ?_
        obtain ⟨r10, hc11, hf⟩ := bind_s hf
        refine cpV (v := .int r10) ⟨hx, hb, hml, hown, hts⟩ (ct_X1_heldOn l dC dI a b cI cJ cZ (LG_H st) x1 x2 x3 r10 hc11) (cwV 3 hts gX5_holds_X1_heldOn rfl rfl rfl (by decide +kernel) ⟨(Nat.le_of_ble_eq_true rfl), (Nat.le_of_ble_eq_true rfl)⟩) hK hP [1, 2, 3, 4, 5, 6, 7, 8, 9, 10, 11] rfl rfl rfl rfl hl.1 rfl (Nat.le_of_ble_eq_true rfl) (Nat.le_of_ble_eq_true rfl) (Nat.le_of_ble_eq_true rfl) dX5_holds_32 ?_
        refine lv_goto (tgt := 40) hx hb dX5_holds_35 (by decide) ?_
        obtain rfl := Option.some.inj hf
        rw [hQ]
        exact W.iret hx hb hr (fun t ht hW => ⟨rfl, ht⟩) (fun q hq => absurd hq List.not_mem_nil) dX5_holds_40
    · replace hf := it_p c6 hf
      refine lv_iconst (v := (-1 : Int32)) hx hb dX5_holds_16 (by decide) ?_
      obtain rfl := Option.some.inj hf
      rw [hQ]
      exact W.iret hx hb hr (fun t ht hW => ⟨rfl, ht⟩) (fun q hq => absurd hq List.not_mem_nil) dX5_holds_17
def rX5_share : Room := { frames := 4, cells := 0, slots := 0, locals := 108 }
theorem mX5_share_3 : Cond.constantLong RX5 69 (-2) ∈ wsX5_share := List.mem_of_getElem? (i := 3) rfl
theorem kX5_share_X5 : ∀ w ∈ wsX50, w ∈ wsX5_share := fun w h => (List.mem_cons_of_mem _ (List.mem_append_left _ (List.mem_append_right _ h)))
theorem mX5_share_2 : Cond.fieldLink RX5 10 "SmokeLedger" "holdings" "LSmokeLedger$Holdings;" ∈ wsX5_share := List.mem_of_getElem? (i := 2) rfl
theorem mX5_share_1 : Cond.constantLong RX5 63 (-1) ∈ wsX5_share := List.mem_of_getElem? (i := 1) rfl
set_option maxHeartbeats 4000000 in
set_option maxRecDepth 100000 in
theorem ct_X5_share (l : Launch) (dC : Nat → ClassId) (dI : Nat → Nat → Nat) (a b : Nat → Nat) (cI cJ cZ : ClassId) (sz : Nat) (st : LG) (x1 : Int32) (x2 : Int32) (res : Int64 × LG) (hf : fX5_share st x1 x2 = some res) : Met l yX5_share wsX5_share rX5_share (Pm (dC, dI) (tyT cI cJ cZ) (WX5 a b cI cJ cZ st) sz [.ref (a 0), .int x1, .int x2]) (Qm (dC, dI) (some (.long res.1)) (WX5 a b cI cJ cZ res.2) (va_A (WX5 a b cI cJ cZ st) sz)) 0 0 (va_A (WX5 a b cI cJ cZ st) sz) := by
  refine Met.ofW (cc := cX5_share) (maxL := 3) (ret := (some .long)) (by decide) rfl ?_
  intro p e s m args below meth c s₁ B hml hv
  obtain ⟨hargs, hsz, hP, hK, hD0⟩ := hv
  have hx := B.exec
  have hb := B.bytes
  have hr := B.returns
  have hts := atoms_spec (ws := wsX5_share) B.pre
  have hown : s.vm.findClass RX5 = some m.cls := findClass_of_methodNamed B.named
  have hlocks := B.notSynchronized
  subst hsz
  have hD := hD0.self (sz := s.heap.size)
  generalize hAe : va_A (WX5 a b cI cJ cZ st) s.heap.size = A at hD ⊢
  have hA : ∀ q : Nat, s.heap.size ≤ q → A q := fun q h => by rw [← hAe]; exact Or.inr h
  have hl := lv_entry ([.ref (a 0), .int x1, .int x2]) (n := 3) (Nat.le_of_ble_eq_true rfl)
  refine W.eq (hargs ▸ lg_entry_eq m [.ref (a 0), .int x1, .int x2] 3) ?_
  generalize (lg_sl ([.ref (a 0), .int x1, .int x2]) ++ List.replicate (3 - (lg_sl ([.ref (a 0), .int x1, .int x2])).length) Slot.unset).toArray = ls at hl ⊢
  have hl : lv_has ls 3 [(0, .ref (a 0)), (1, .int x1), (2, .int x2)] := hl
  obtain ⟨QQ, hQ⟩ : ∃ QQ : State → Prop, QQ = MQ below (Qm (dC, dI) (some (.long res.1)) (WX5 a b cI cJ cZ res.2) A) args s 0 0 (A) := ⟨_, rfl⟩
  rw [← hQ]
  have main : ∀ (H : Heap) (locs : List Loc) (ls : Array Slot), IN (dC, dI) (WX5 a b cI cJ cZ st) A s.heap H locs → lv_has ls 3 [(0, .ref (a 0)), (1, .int x1), (2, .int x2)] → W p l e (headSpec wsX5_share rX5_share).room s m args below meth c H locs 0 0 QQ (F0 m 0 ls []) := by
    intro H locs ls hin hl
    obtain ⟨hP, hD, hS⟩ := hin
    unfold fX5_share at hf
    refine lv_aload_n hx hb dX5_share_0 rfl (lv_at hl 0 rfl) ?_
    refine lv_iload_n hx hb dX5_share_1 rfl (lv_at hl 1 rfl) ?_
    obtain ⟨r1, hc2, hf⟩ := bind_s hf
    refine cpV (v := .int r1) ⟨hx, hb, hml, hown, hts⟩ (ct_X5_isUnit l dC dI a b cI cJ cZ st x1 r1 hc2) (cwV 1 hts gX5_share_X5_isUnit rfl rfl rfl (by decide +kernel) ⟨(Nat.le_of_ble_eq_true rfl), (Nat.le_of_ble_eq_true rfl)⟩) hK hP [0, 1, 2, 3, 4, 5, 6, 7, 8, 9, 10, 11, 12, 13, 14, 15, 16, 17, 18, 19, 20, 21, 22, 23, 24, 25, 26, 27] rfl rfl rfl rfl hl.1 rfl (Nat.le_of_ble_eq_true rfl) (Nat.le_of_ble_eq_true rfl) (Nat.le_of_ble_eq_true rfl) dX5_share_2 ?_
    refine lv_if_ne (tgt := 12) hx hb dX5_share_5 (by decide) (fun c3 => ?_) (fun c3 => ?_)
    · replace hf := it_n c3 hf
      refine lv_iload_n hx hb dX5_share_12 rfl (lv_at hl 2 rfl) ?_
      obtain ⟨r4, hc5, hf⟩ := bind_s hf
      refine cpS (v := .int r4) ⟨hx, hb, hml, hown, hts⟩ (ct_X5_isDay l dC dI cI cJ cZ x2 r4 hc5) (va_cwS 1 hts gX5_share_X5_isDay rfl rfl rfl (by decide +kernel) ⟨(Nat.le_of_ble_eq_true rfl), (Nat.le_of_ble_eq_true rfl)⟩) hK hP [] rfl rfl hl.1 rfl (Nat.le_of_ble_eq_true rfl) (Nat.le_of_ble_eq_true rfl) (Nat.le_of_ble_eq_true rfl) dX5_share_13 ?_
      refine lv_if_eq (tgt := 31) hx hb dX5_share_16 (by decide) (fun c6 => ?_) (fun c6 => ?_)
      · replace hf := it_p c6 hf
        refine lv_ldc2 (v := (-2 : Int64)) hx hb hown (hts _ mX5_share_3) dX5_share_31 ?_
        obtain rfl := Option.some.inj hf
        rw [hQ]
        exact W.lret hx hb hr (fun t ht hW => ⟨rfl, ⟨by rw [ht]; exact hP, hD⟩, hS.F ht⟩) hS.2.2 dX5_share_34
      · replace hf := it_n c6 hf
        refine lv_aload_n hx hb dX5_share_19 rfl (lv_at hl 0 rfl) ?_
        refine va_get (D := (dC, dI)) (ci := 5) (v := .ref (a 1)) (C := RX5) (T := TX5) (N := 5) hx hb hts kX5_share_X5 hown hK hP 0 rfl rfl 0 (by decide) (hts _ mX5_share_2) (fun _ h9 => h9) rfl dX5_share_20 ?_
        refine lv_iload_n hx hb dX5_share_23 rfl (lv_at hl 1 rfl) ?_
        refine lv_iload_n hx hb dX5_share_24 rfl (lv_at hl 2 rfl) ?_
        obtain ⟨p7, hc8, hf⟩ := bind_s hf
        refine cmV (wr := (a 0, .inr (5, [.ref (a 1), .ref (a 12), .ref (a 19), .ref (a 24), .int (LG_units st)])) :: (WX2 a b cI cJ cZ (LG_R st) ++ (WX0 a b cI cJ cZ (LG_F st) ++ (WX3 a b cI cJ cZ (LG_S st))))) ⟨hx, hb, hml, hown, hts⟩ (ct_X1_shareOn l dC dI a b cI cJ cZ H.size (LG_H st) x1 x2 p7 hc8) (cwV 2 hts gX5_share_X1_shareOn rfl rfl rfl (by decide +kernel) ⟨(Nat.le_of_ble_eq_true rfl), (Nat.le_of_ble_eq_true rfl)⟩) hK hP hD hS hA [1, 2, 3, 4, 5, 6, 7, 8, 9, 10, 11] [0, 12, 13, 14, 15, 16, 17, 18, 19, 20, 21, 22, 23, 24, 25, 26, 27] rfl rfl (by decide) rfl (by decide) (by decide) rfl rfl rfl hl.1 rfl (Nat.le_of_ble_eq_true rfl) (Nat.le_of_ble_eq_true rfl) (Nat.le_of_ble_eq_true rfl) dX5_share_25 (fun H locs hP hD hS => ?_)
        replace hP : va_P (dC, dI) vwCl (WX5 a b cI cJ cZ (LG_mk p7.2 (LG_R st) (LG_F st) (LG_S st) (LG_units st))) H := hP.sub [0, 17, 18, 19, 20, 21, 22, 23, 24, 25, 26, 27, 1, 2, 3, 4, 5, 6, 7, 8, 9, 10, 11, 12, 13, 14, 15, 16] rfl
        replace hD : va_D A (WX5 a b cI cJ cZ (LG_mk p7.2 (LG_R st) (LG_F st) (LG_S st) (LG_units st))) := hD.sub [0, 17, 18, 19, 20, 21, 22, 23, 24, 25, 26, 27, 1, 2, 3, 4, 5, 6, 7, 8, 9, 10, 11, 12, 13, 14, 15, 16] (by decide) rfl
        refine W.eq (g2 := F0 m 28 ls [.long p7.1]) rfl ?_
        refine lv_goto (tgt := 34) hx hb dX5_share_28 (by decide) ?_
        obtain rfl := Option.some.inj hf
        rw [hQ]
        exact W.lret hx hb hr (fun t ht hW => ⟨rfl, ⟨by rw [ht]; exact hP, hD⟩, hS.F ht⟩) hS.2.2 dX5_share_34
    · replace hf := it_p c3 hf
      refine lv_ldc2 (v := (-1 : Int64)) hx hb hown (hts _ mX5_share_1) dX5_share_8 ?_
      obtain rfl := Option.some.inj hf
      rw [hQ]
      exact W.lret hx hb hr (fun t ht hW => ⟨rfl, ⟨by rw [ht]; exact hP, hD⟩, hS.F ht⟩) hS.2.2 dX5_share_11
  exact main s.heap [] ls ⟨hP, hD, va_S.rf⟩ hl
def rX5_days : Room := { frames := 4, cells := 0, slots := 0, locals := 114 }
theorem mX5_days_2 : Cond.constantLong RX5 69 (-2) ∈ wsX5_days := List.mem_of_getElem? (i := 2) rfl
theorem kX5_days_X5 : ∀ w ∈ wsX50, w ∈ wsX5_days := fun w h => (List.mem_cons_of_mem _ (List.mem_append_left _ (List.mem_append_right _ h)))
theorem mX5_days_3 : Cond.fieldLink RX5 10 "SmokeLedger" "holdings" "LSmokeLedger$Holdings;" ∈ wsX5_days := List.mem_of_getElem? (i := 3) rfl
theorem mX5_days_1 : Cond.constantLong RX5 63 (-1) ∈ wsX5_days := List.mem_of_getElem? (i := 1) rfl
set_option maxHeartbeats 4000000 in
set_option maxRecDepth 100000 in
theorem ct_X5_days (l : Launch) (dC : Nat → ClassId) (dI : Nat → Nat → Nat) (a b : Nat → Nat) (cI cJ cZ : ClassId) (sz : Nat) (st : LG) (x1 : Int32) (x2 : Int32) (x3 : Int32) (res : Int64 × LG) (hf : fX5_days st x1 x2 x3 = some res) : Met l yX5_days wsX5_days rX5_days (Pm (dC, dI) (tyT cI cJ cZ) (WX5 a b cI cJ cZ st) sz [.ref (a 0), .int x1, .int x2, .int x3]) (Qm (dC, dI) (some (.long res.1)) (WX5 a b cI cJ cZ res.2) (va_A (WX5 a b cI cJ cZ st) sz)) 0 0 (va_A (WX5 a b cI cJ cZ st) sz) := by
  refine Met.ofW (cc := cX5_days) (maxL := 4) (ret := (some .long)) (by decide) rfl ?_
  intro p e s m args below meth c s₁ B hml hv
  obtain ⟨hargs, hsz, hP, hK, hD0⟩ := hv
  have hx := B.exec
  have hb := B.bytes
  have hr := B.returns
  have hts := atoms_spec (ws := wsX5_days) B.pre
  have hown : s.vm.findClass RX5 = some m.cls := findClass_of_methodNamed B.named
  have hlocks := B.notSynchronized
  subst hsz
  have hD := hD0.self (sz := s.heap.size)
  generalize hAe : va_A (WX5 a b cI cJ cZ st) s.heap.size = A at hD ⊢
  have hA : ∀ q : Nat, s.heap.size ≤ q → A q := fun q h => by rw [← hAe]; exact Or.inr h
  have hl := lv_entry ([.ref (a 0), .int x1, .int x2, .int x3]) (n := 4) (Nat.le_of_ble_eq_true rfl)
  refine W.eq (hargs ▸ lg_entry_eq m [.ref (a 0), .int x1, .int x2, .int x3] 4) ?_
  generalize (lg_sl ([.ref (a 0), .int x1, .int x2, .int x3]) ++ List.replicate (4 - (lg_sl ([.ref (a 0), .int x1, .int x2, .int x3])).length) Slot.unset).toArray = ls at hl ⊢
  have hl : lv_has ls 4 [(0, .ref (a 0)), (1, .int x1), (2, .int x2), (3, .int x3)] := hl
  obtain ⟨QQ, hQ⟩ : ∃ QQ : State → Prop, QQ = MQ below (Qm (dC, dI) (some (.long res.1)) (WX5 a b cI cJ cZ res.2) A) args s 0 0 (A) := ⟨_, rfl⟩
  rw [← hQ]
  have main : ∀ (H : Heap) (locs : List Loc) (ls : Array Slot), IN (dC, dI) (WX5 a b cI cJ cZ st) A s.heap H locs → lv_has ls 4 [(0, .ref (a 0)), (1, .int x1), (2, .int x2), (3, .int x3)] → W p l e (headSpec wsX5_days rX5_days).room s m args below meth c H locs 0 0 QQ (F0 m 0 ls []) := by
    intro H locs ls hin hl
    obtain ⟨hP, hD, hS⟩ := hin
    unfold fX5_days at hf
    refine lv_aload_n hx hb dX5_days_0 rfl (lv_at hl 0 rfl) ?_
    refine lv_iload_n hx hb dX5_days_1 rfl (lv_at hl 1 rfl) ?_
    obtain ⟨r1, hc2, hf⟩ := bind_s hf
    refine cpV (v := .int r1) ⟨hx, hb, hml, hown, hts⟩ (ct_X5_isUnit l dC dI a b cI cJ cZ st x1 r1 hc2) (cwV 1 hts gX5_days_X5_isUnit rfl rfl rfl (by decide +kernel) ⟨(Nat.le_of_ble_eq_true rfl), (Nat.le_of_ble_eq_true rfl)⟩) hK hP [0, 1, 2, 3, 4, 5, 6, 7, 8, 9, 10, 11, 12, 13, 14, 15, 16, 17, 18, 19, 20, 21, 22, 23, 24, 25, 26, 27] rfl rfl rfl rfl hl.1 rfl (Nat.le_of_ble_eq_true rfl) (Nat.le_of_ble_eq_true rfl) (Nat.le_of_ble_eq_true rfl) dX5_days_2 ?_
    refine lv_if_ne (tgt := 12) hx hb dX5_days_5 (by decide) (fun c3 => ?_) (fun c3 => ?_)
    · replace hf := it_n c3 hf
      refine lv_iload_n hx hb dX5_days_12 rfl (lv_at hl 2 rfl) ?_
      obtain ⟨r4, hc5, hf⟩ := bind_s hf
      refine cpS (v := .int r4) ⟨hx, hb, hml, hown, hts⟩ (ct_X5_isDay l dC dI cI cJ cZ x2 r4 hc5) (va_cwS 1 hts gX5_days_X5_isDay rfl rfl rfl (by decide +kernel) ⟨(Nat.le_of_ble_eq_true rfl), (Nat.le_of_ble_eq_true rfl)⟩) hK hP [] rfl rfl hl.1 rfl (Nat.le_of_ble_eq_true rfl) (Nat.le_of_ble_eq_true rfl) (Nat.le_of_ble_eq_true rfl) dX5_days_13 ?_
      refine lv_if_eq (tgt := 31) hx hb dX5_days_16 (by decide) (fun c6 => ?_) (fun c6 => ?_)
      · replace hf := it_p c6 hf
        refine lv_ldc2 (v := (-2 : Int64)) hx hb hown (hts _ mX5_days_2) dX5_days_31 ?_
        obtain rfl := Option.some.inj hf
        rw [hQ]
        exact W.lret hx hb hr (fun t ht hW => ⟨rfl, ⟨by rw [ht]; exact hP, hD⟩, hS.F ht⟩) hS.2.2 dX5_days_34
      · replace hf := it_n c6 hf
        refine lv_iload_n hx hb dX5_days_19 rfl (lv_at hl 3 rfl) ?_
        obtain ⟨r7, hc8, hf⟩ := bind_s hf
        refine cpS (v := .int r7) ⟨hx, hb, hml, hown, hts⟩ (ct_X5_isDay l dC dI cI cJ cZ x3 r7 hc8) (va_cwS 1 hts gX5_days_X5_isDay rfl rfl rfl (by decide +kernel) ⟨(Nat.le_of_ble_eq_true rfl), (Nat.le_of_ble_eq_true rfl)⟩) hK hP [] rfl rfl hl.1 rfl (Nat.le_of_ble_eq_true rfl) (Nat.le_of_ble_eq_true rfl) (Nat.le_of_ble_eq_true rfl) dX5_days_20 ?_
        refine lv_if_eq (tgt := 31) hx hb dX5_days_23 (by decide) (fun c9 => ?_) (fun c9 => ?_)
        · replace hf := it_p c9 hf
          refine lv_ldc2 (v := (-2 : Int64)) hx hb hown (hts _ mX5_days_2) dX5_days_31 ?_
          obtain rfl := Option.some.inj hf
          rw [hQ]
          exact W.lret hx hb hr (fun t ht hW => ⟨rfl, ⟨by rw [ht]; exact hP, hD⟩, hS.F ht⟩) hS.2.2 dX5_days_34
        · replace hf := it_n c9 hf
          refine lv_iload_n hx hb dX5_days_26 rfl (lv_at hl 3 rfl) ?_
          refine lv_iload_n hx hb dX5_days_27 rfl (lv_at hl 2 rfl) ?_
          refine lv_icmp_ge (tgt := 35) hx hb dX5_days_28 (by decide) (fun c10 => ?_) (fun c10 => ?_)
          · replace hf := it_p c10 hf
            refine lv_aload_n hx hb dX5_days_35 rfl (lv_at hl 0 rfl) ?_
            refine va_get (D := (dC, dI)) (ci := 5) (v := .ref (a 1)) (C := RX5) (T := TX5) (N := 5) hx hb hts kX5_days_X5 hown hK hP 0 rfl rfl 0 (by decide) (hts _ mX5_days_3) (fun _ h9 => h9) rfl dX5_days_36 ?_
            refine lv_iload_n hx hb dX5_days_39 rfl (lv_at hl 1 rfl) ?_
            refine lv_iload_n hx hb dX5_days_40 rfl (lv_at hl 2 rfl) ?_
            refine lv_iload_n hx hb dX5_days_41 rfl (lv_at hl 3 rfl) ?_
            obtain ⟨p11, hc12, hf⟩ := bind_s hf
            refine cmV (wr := (a 0, .inr (5, [.ref (a 1), .ref (a 12), .ref (a 19), .ref (a 24), .int (LG_units st)])) :: (WX2 a b cI cJ cZ (LG_R st) ++ (WX0 a b cI cJ cZ (LG_F st) ++ (WX3 a b cI cJ cZ (LG_S st))))) ⟨hx, hb, hml, hown, hts⟩ (ct_X1_sharesSummed l dC dI a b cI cJ cZ H.size (LG_H st) x1 x2 x3 p11 hc12) (cwV 3 hts gX5_days_X1_sharesSummed rfl rfl rfl (by decide +kernel) ⟨(Nat.le_of_ble_eq_true rfl), (Nat.le_of_ble_eq_true rfl)⟩) hK hP hD hS hA [1, 2, 3, 4, 5, 6, 7, 8, 9, 10, 11] [0, 12, 13, 14, 15, 16, 17, 18, 19, 20, 21, 22, 23, 24, 25, 26, 27] rfl rfl (by decide) rfl (by decide) (by decide) rfl rfl rfl hl.1 rfl (Nat.le_of_ble_eq_true rfl) (Nat.le_of_ble_eq_true rfl) (Nat.le_of_ble_eq_true rfl) dX5_days_42 (fun H locs hP hD hS => ?_)
            replace hP : va_P (dC, dI) vwCl (WX5 a b cI cJ cZ (LG_mk p11.2 (LG_R st) (LG_F st) (LG_S st) (LG_units st))) H := hP.sub [0, 17, 18, 19, 20, 21, 22, 23, 24, 25, 26, 27, 1, 2, 3, 4, 5, 6, 7, 8, 9, 10, 11, 12, 13, 14, 15, 16] rfl
            replace hD : va_D A (WX5 a b cI cJ cZ (LG_mk p11.2 (LG_R st) (LG_F st) (LG_S st) (LG_units st))) := hD.sub [0, 17, 18, 19, 20, 21, 22, 23, 24, 25, 26, 27, 1, 2, 3, 4, 5, 6, 7, 8, 9, 10, 11, 12, 13, 14, 15, 16] (by decide) rfl
            refine W.eq (g2 := F0 m 45 ls [.long p11.1]) rfl ?_
            obtain rfl := Option.some.inj hf
            rw [hQ]
            exact W.lret hx hb hr (fun t ht hW => ⟨rfl, ⟨by rw [ht]; exact hP, hD⟩, hS.F ht⟩) hS.2.2 dX5_days_45
          · replace hf := it_n c10 hf
            refine lv_ldc2 (v := (-2 : Int64)) hx hb hown (hts _ mX5_days_2) dX5_days_31 ?_
            obtain rfl := Option.some.inj hf
            rw [hQ]
            exact W.lret hx hb hr (fun t ht hW => ⟨rfl, ⟨by rw [ht]; exact hP, hD⟩, hS.F ht⟩) hS.2.2 dX5_days_34
    · replace hf := it_p c3 hf
      refine lv_ldc2 (v := (-1 : Int64)) hx hb hown (hts _ mX5_days_1) dX5_days_8 ?_
      obtain rfl := Option.some.inj hf
      rw [hQ]
      exact W.lret hx hb hr (fun t ht hW => ⟨rfl, ⟨by rw [ht]; exact hP, hD⟩, hS.F ht⟩) hS.2.2 dX5_days_11
  exact main s.heap [] ls ⟨hP, hD, va_S.rf⟩ hl
def rX5_isKind : Room := { frames := 0, cells := 0, slots := 0, locals := 0 }
set_option maxHeartbeats 4000000 in
set_option maxRecDepth 100000 in
theorem ct_X5_isKind (l : Launch) (dC : Nat → ClassId) (dI : Nat → Nat → Nat) (cI cJ cZ : ClassId) (x0 : Int32) (res : Int32) (hf : fX5_isKind x0 = some res) : Met l yX5_isKind wsX5_isKind rX5_isKind (Pp (dC, dI) (tyT cI cJ cZ) [] [.int x0]) (Qp (.int res)) 0 0 (fun _ => False) := by
  refine Met.ofW (cc := cX5_isKind) (maxL := 1) (ret := (some .boolean)) (by decide) rfl ?_
  intro p e s m args below meth c s₁ B hml hv
  obtain ⟨hargs, hP, hK⟩ := hv
  have hx := B.exec
  have hb := B.bytes
  have hr := B.returns
  have hts := atoms_spec (ws := wsX5_isKind) B.pre
  have hown : s.vm.findClass RX5 = some m.cls := findClass_of_methodNamed B.named
  have hlocks := B.notSynchronized
  have hP : va_P (dC, dI) vwCl [] s.heap := hP
  have hl := lv_entry ([.int x0]) (n := 1) (Nat.le_of_ble_eq_true rfl)
  refine W.eq (hargs ▸ lg_entry_eq m [.int x0] 1) ?_
  generalize (lg_sl ([.int x0]) ++ List.replicate (1 - (lg_sl ([.int x0])).length) Slot.unset).toArray = ls at hl ⊢
  have hl : lv_has ls 1 [(0, .int x0)] := hl
  obtain ⟨QQ, hQ⟩ : ∃ QQ : State → Prop, QQ = MQ below (Qp (.int res)) args s 0 0 (fun _ => False) := ⟨_, rfl⟩
  rw [← hQ]
  unfold fX5_isKind at hf
  refine lv_iload_n hx hb dX5_isKind_0 rfl (lv_at hl 0 rfl) ?_
  refine lv_if_lt (tgt := 13) hx hb dX5_isKind_1 (by decide) (fun c1 => ?_) (fun c1 => ?_)
  · replace hf := it_p c1 hf
    refine lv_iconst (v := (0 : Int32)) hx hb dX5_isKind_13 (by decide) ?_
    obtain rfl := Option.some.inj hf
    rw [hQ]
    exact W.zret hx hb hr rfl (fun t ht hW => ⟨rfl, ht⟩) (fun q hq => absurd hq List.not_mem_nil) dX5_isKind_14
  · replace hf := it_n c1 hf
    refine lv_iload_n hx hb dX5_isKind_4 rfl (lv_at hl 0 rfl) ?_
    refine lv_iconst (v := (4 : Int32)) hx hb dX5_isKind_5 (by decide) ?_
    refine lv_icmp_ge (tgt := 13) hx hb dX5_isKind_6 (by decide) (fun c2 => ?_) (fun c2 => ?_)
    · replace hf := it_p c2 hf
      refine lv_iconst (v := (0 : Int32)) hx hb dX5_isKind_13 (by decide) ?_
      obtain rfl := Option.some.inj hf
      rw [hQ]
      exact W.zret hx hb hr rfl (fun t ht hW => ⟨rfl, ht⟩) (fun q hq => absurd hq List.not_mem_nil) dX5_isKind_14
    · replace hf := it_n c2 hf
      refine lv_iconst (v := (1 : Int32)) hx hb dX5_isKind_9 (by decide) ?_
      refine lv_goto (tgt := 14) hx hb dX5_isKind_10 (by decide) ?_
      obtain rfl := Option.some.inj hf
      rw [hQ]
      exact W.zret hx hb hr rfl (fun t ht hW => ⟨rfl, ht⟩) (fun q hq => absurd hq List.not_mem_nil) dX5_isKind_14
def rX5_row : Room := { frames := 1, cells := 0, slots := 0, locals := 25 }
theorem mX5_row_1 : Cond.constant RX5 78 (100000) ∈ wsX5_row := List.mem_of_getElem? (i := 1) rfl
theorem kX5_row_X5 : ∀ w ∈ wsX50, w ∈ wsX5_row := fun w h => (List.mem_cons_of_mem _ (List.mem_append_left _ (List.mem_append_right _ h)))
theorem mX5_row_2 : Cond.fieldLink RX5 19 "SmokeLedger" "rows" "LSmokeLedger$Rows;" ∈ wsX5_row := List.mem_of_getElem? (i := 2) rfl
set_option maxHeartbeats 4000000 in
set_option maxRecDepth 100000 in
theorem ct_X5_row (l : Launch) (dC : Nat → ClassId) (dI : Nat → Nat → Nat) (a b : Nat → Nat) (cI cJ cZ : ClassId) (sz : Nat) (st : LG) (x1 : Int32) (x2 : Int32) (x3 : Int32) (x4 : Int32) (x5 : Int32) (res : Int32 × LG) (hf : fX5_row st x1 x2 x3 x4 x5 = some res) : Met l yX5_row wsX5_row rX5_row (Pm (dC, dI) (tyT cI cJ cZ) (WX5 a b cI cJ cZ st) sz [.ref (a 0), .int x1, .int x2, .int x3, .int x4, .int x5]) (Qm (dC, dI) (some (.int res.1)) (WX5 a b cI cJ cZ res.2) (va_A (WX5 a b cI cJ cZ st) sz)) 0 0 (va_A (WX5 a b cI cJ cZ st) sz) := by
  refine Met.ofW (cc := cX5_row) (maxL := 6) (ret := (some .int)) (by decide) rfl ?_
  intro p e s m args below meth c s₁ B hml hv
  obtain ⟨hargs, hsz, hP, hK, hD0⟩ := hv
  have hx := B.exec
  have hb := B.bytes
  have hr := B.returns
  have hts := atoms_spec (ws := wsX5_row) B.pre
  have hown : s.vm.findClass RX5 = some m.cls := findClass_of_methodNamed B.named
  have hlocks := B.notSynchronized
  subst hsz
  have hD := hD0.self (sz := s.heap.size)
  generalize hAe : va_A (WX5 a b cI cJ cZ st) s.heap.size = A at hD ⊢
  have hA : ∀ q : Nat, s.heap.size ≤ q → A q := fun q h => by rw [← hAe]; exact Or.inr h
  have hl := lv_entry ([.ref (a 0), .int x1, .int x2, .int x3, .int x4, .int x5]) (n := 6) (Nat.le_of_ble_eq_true rfl)
  refine W.eq (hargs ▸ lg_entry_eq m [.ref (a 0), .int x1, .int x2, .int x3, .int x4, .int x5] 6) ?_
  generalize (lg_sl ([.ref (a 0), .int x1, .int x2, .int x3, .int x4, .int x5]) ++ List.replicate (6 - (lg_sl ([.ref (a 0), .int x1, .int x2, .int x3, .int x4, .int x5])).length) Slot.unset).toArray = ls at hl ⊢
  have hl : lv_has ls 6 [(0, .ref (a 0)), (1, .int x1), (2, .int x2), (3, .int x3), (4, .int x4), (5, .int x5)] := hl
  obtain ⟨QQ, hQ⟩ : ∃ QQ : State → Prop, QQ = MQ below (Qm (dC, dI) (some (.int res.1)) (WX5 a b cI cJ cZ res.2) A) args s 0 0 (A) := ⟨_, rfl⟩
  rw [← hQ]
  have b26 : ∀ (st : LG) (x1 : Int32) (x2 : Int32) (x3 : Int32) (x4 : Int32) (x5 : Int32), fX5_row_b26 st x1 x2 x3 x4 x5 = some res → (∀ (H : Heap) (locs : List Loc) (ls : Array Slot), IN (dC, dI) (WX5 a b cI cJ cZ st) A s.heap H locs → lv_has ls 6 [(0, .ref (a 0)), (1, .int x1), (2, .int x2), (3, .int x3), (4, .int x4), (5, .int x5)] → W p l e (headSpec wsX5_row rX5_row).room s m args below meth c H locs 0 0 QQ (F0 m 26 ls [])) := by
    intro st x1 x2 x3 x4 x5 hf
    intro H locs ls hin hl
    obtain ⟨hP, hD, hS⟩ := hin
    unfold fX5_row_b26 at hf
    refine lv_iload_n hx hb dX5_row_26 rfl (lv_at hl 2 rfl) ?_
    obtain ⟨r5, hc6, hf⟩ := bind_s hf
    refine cpS (v := .int r5) ⟨hx, hb, hml, hown, hts⟩ (ct_X5_isKind l dC dI cI cJ cZ x2 r5 hc6) (va_cwS 1 hts gX5_row_X5_isKind rfl rfl rfl (by decide +kernel) ⟨(Nat.le_of_ble_eq_true rfl), (Nat.le_of_ble_eq_true rfl)⟩) hK hP [] rfl rfl hl.1 rfl (Nat.le_of_ble_eq_true rfl) (Nat.le_of_ble_eq_true rfl) (Nat.le_of_ble_eq_true rfl) dX5_row_27 ?_
    refine lv_if_eq (tgt := 52) hx hb dX5_row_30 (by decide) (fun c7 => ?_) (fun c7 => ?_)
    · replace hf := it_p c7 hf
      refine lv_bipush (v := (-2 : Int32)) hx hb dX5_row_52 (by decide) ?_
      obtain rfl := Option.some.inj hf
      rw [hQ]
      exact W.iret hx hb hr (fun t ht hW => ⟨rfl, ⟨by rw [ht]; exact hP, hD⟩, hS.F ht⟩) hS.2.2 dX5_row_54
    · replace hf := it_n c7 hf
      refine lv_iload_n hx hb dX5_row_33 rfl (lv_at hl 3 rfl) ?_
      refine lv_iconst (v := (1 : Int32)) hx hb dX5_row_34 (by decide) ?_
      refine lv_icmp_lt (tgt := 52) hx hb dX5_row_35 (by decide) (fun c8 => ?_) (fun c8 => ?_)
      · replace hf := it_p c8 hf
        refine lv_bipush (v := (-2 : Int32)) hx hb dX5_row_52 (by decide) ?_
        obtain rfl := Option.some.inj hf
        rw [hQ]
        exact W.iret hx hb hr (fun t ht hW => ⟨rfl, ⟨by rw [ht]; exact hP, hD⟩, hS.F ht⟩) hS.2.2 dX5_row_54
      · replace hf := it_n c8 hf
        refine lv_iload_n hx hb dX5_row_38 rfl (lv_at hl 3 rfl) ?_
        refine lv_ldc (v := (100000 : Int32)) hx hb hown (hts _ mX5_row_1) dX5_row_39 ?_
        refine lv_icmp_gt (tgt := 52) hx hb dX5_row_41 (by decide) (fun c9 => ?_) (fun c9 => ?_)
        · replace hf := it_p c9 hf
          refine lv_bipush (v := (-2 : Int32)) hx hb dX5_row_52 (by decide) ?_
          obtain rfl := Option.some.inj hf
          rw [hQ]
          exact W.iret hx hb hr (fun t ht hW => ⟨rfl, ⟨by rw [ht]; exact hP, hD⟩, hS.F ht⟩) hS.2.2 dX5_row_54
        · replace hf := it_n c9 hf
          refine lv_iload hx hb dX5_row_44 (lv_at hl 4 rfl) ?_
          obtain ⟨r10, hc11, hf⟩ := bind_s hf
          refine cpS (v := .int r10) ⟨hx, hb, hml, hown, hts⟩ (ct_X5_isDay l dC dI cI cJ cZ x4 r10 hc11) (va_cwS 1 hts gX5_row_X5_isDay rfl rfl rfl (by decide +kernel) ⟨(Nat.le_of_ble_eq_true rfl), (Nat.le_of_ble_eq_true rfl)⟩) hK hP [] rfl rfl hl.1 rfl (Nat.le_of_ble_eq_true rfl) (Nat.le_of_ble_eq_true rfl) (Nat.le_of_ble_eq_true rfl) dX5_row_46 ?_
          refine lv_if_ne (tgt := 55) hx hb dX5_row_49 (by decide) (fun c12 => ?_) (fun c12 => ?_)
          · replace hf := it_n c12 hf
            refine lv_iload hx hb dX5_row_55 (lv_at hl 5 rfl) ?_
            refine lv_iload_n hx hb dX5_row_57 rfl (lv_at hl 1 rfl) ?_
            refine lv_icmp_ne (tgt := 64) hx hb dX5_row_58 (by decide) (fun c13 => ?_) (fun c13 => ?_)
            · replace hf := it_n c13 hf
              refine lv_aload_n hx hb dX5_row_64 rfl (lv_at hl 0 rfl) ?_
              refine va_get (D := (dC, dI)) (ci := 5) (v := .ref (a 12)) (C := RX5) (T := TX5) (N := 5) hx hb hts kX5_row_X5 hown hK hP 0 rfl rfl 1 (by decide) (hts _ mX5_row_2) (fun _ h9 => h9) rfl dX5_row_65 ?_
              refine lv_iload_n hx hb dX5_row_68 rfl (lv_at hl 1 rfl) ?_
              refine lv_iload_n hx hb dX5_row_69 rfl (lv_at hl 2 rfl) ?_
              refine lv_iload_n hx hb dX5_row_70 rfl (lv_at hl 3 rfl) ?_
              refine lv_iload hx hb dX5_row_71 (lv_at hl 4 rfl) ?_
              refine lv_iload hx hb dX5_row_73 (lv_at hl 5 rfl) ?_
              obtain ⟨p14, hc15, hf⟩ := bind_s hf
              refine cmV (wr := (a 0, .inr (5, [.ref (a 1), .ref (a 12), .ref (a 19), .ref (a 24), .int (LG_units st)])) :: (WX1 a b cI cJ cZ (LG_H st) ++ (WX0 a b cI cJ cZ (LG_F st) ++ (WX3 a b cI cJ cZ (LG_S st))))) ⟨hx, hb, hml, hown, hts⟩ (ct_X2_add l dC dI a b cI cJ cZ H.size (LG_R st) x1 x2 x3 x4 x5 p14 hc15) (cwV 5 hts gX5_row_X2_add rfl rfl rfl (by decide +kernel) ⟨(Nat.le_of_ble_eq_true rfl), (Nat.le_of_ble_eq_true rfl)⟩) hK hP hD hS hA [12, 13, 14, 15, 16, 17, 18] [0, 1, 2, 3, 4, 5, 6, 7, 8, 9, 10, 11, 19, 20, 21, 22, 23, 24, 25, 26, 27] rfl rfl (by decide) rfl (by decide) (by decide) rfl rfl rfl hl.1 rfl (Nat.le_of_ble_eq_true rfl) (Nat.le_of_ble_eq_true rfl) (Nat.le_of_ble_eq_true rfl) dX5_row_75 (fun H locs hP hD hS => ?_)
              replace hP : va_P (dC, dI) vwCl (WX5 a b cI cJ cZ (LG_mk (LG_H st) p14.2 (LG_F st) (LG_S st) (LG_units st))) H := hP.sub [0, 1, 2, 3, 4, 5, 6, 7, 8, 9, 10, 11, 21, 22, 23, 24, 25, 26, 27, 12, 13, 14, 15, 16, 17, 18, 19, 20] rfl
              replace hD : va_D A (WX5 a b cI cJ cZ (LG_mk (LG_H st) p14.2 (LG_F st) (LG_S st) (LG_units st))) := hD.sub [0, 1, 2, 3, 4, 5, 6, 7, 8, 9, 10, 11, 21, 22, 23, 24, 25, 26, 27, 12, 13, 14, 15, 16, 17, 18, 19, 20] (by decide) rfl
              refine W.eq (g2 := F0 m 78 ls [.int p14.1]) rfl ?_
              obtain rfl := Option.some.inj hf
              rw [hQ]
              exact W.iret hx hb hr (fun t ht hW => ⟨rfl, ⟨by rw [ht]; exact hP, hD⟩, hS.F ht⟩) hS.2.2 dX5_row_78
            · replace hf := it_p c13 hf
              refine lv_bipush (v := (-3 : Int32)) hx hb dX5_row_61 (by decide) ?_
              obtain rfl := Option.some.inj hf
              rw [hQ]
              exact W.iret hx hb hr (fun t ht hW => ⟨rfl, ⟨by rw [ht]; exact hP, hD⟩, hS.F ht⟩) hS.2.2 dX5_row_63
          · replace hf := it_p c12 hf
            refine lv_bipush (v := (-2 : Int32)) hx hb dX5_row_52 (by decide) ?_
            obtain rfl := Option.some.inj hf
            rw [hQ]
            exact W.iret hx hb hr (fun t ht hW => ⟨rfl, ⟨by rw [ht]; exact hP, hD⟩, hS.F ht⟩) hS.2.2 dX5_row_54
  have main : ∀ (H : Heap) (locs : List Loc) (ls : Array Slot), IN (dC, dI) (WX5 a b cI cJ cZ st) A s.heap H locs → lv_has ls 6 [(0, .ref (a 0)), (1, .int x1), (2, .int x2), (3, .int x3), (4, .int x4), (5, .int x5)] → W p l e (headSpec wsX5_row rX5_row).room s m args below meth c H locs 0 0 QQ (F0 m 0 ls []) := by
    intro H locs ls hin hl
    obtain ⟨hP, hD, hS⟩ := hin
    unfold fX5_row at hf
    refine lv_aload_n hx hb dX5_row_0 rfl (lv_at hl 0 rfl) ?_
    refine lv_iload_n hx hb dX5_row_1 rfl (lv_at hl 1 rfl) ?_
    obtain ⟨r1, hc2, hf⟩ := bind_s hf
    refine cpV (v := .int r1) ⟨hx, hb, hml, hown, hts⟩ (ct_X5_isUnit l dC dI a b cI cJ cZ st x1 r1 hc2) (cwV 1 hts gX5_row_X5_isUnit rfl rfl rfl (by decide +kernel) ⟨(Nat.le_of_ble_eq_true rfl), (Nat.le_of_ble_eq_true rfl)⟩) hK hP [0, 1, 2, 3, 4, 5, 6, 7, 8, 9, 10, 11, 12, 13, 14, 15, 16, 17, 18, 19, 20, 21, 22, 23, 24, 25, 26, 27] rfl rfl rfl rfl hl.1 rfl (Nat.le_of_ble_eq_true rfl) (Nat.le_of_ble_eq_true rfl) (Nat.le_of_ble_eq_true rfl) dX5_row_2 ?_
    refine lv_if_eq (tgt := 24) hx hb dX5_row_5 (by decide) (fun c3 => ?_) (fun c3 => ?_)
    · replace hf := it_p c3 hf
      refine lv_iconst (v := (-1 : Int32)) hx hb dX5_row_24 (by decide) ?_
      obtain rfl := Option.some.inj hf
      rw [hQ]
      exact W.iret hx hb hr (fun t ht hW => ⟨rfl, ⟨by rw [ht]; exact hP, hD⟩, hS.F ht⟩) hS.2.2 dX5_row_25
    · replace hf := it_n c3 hf
      refine lv_iload hx hb dX5_row_8 (lv_at hl 5 rfl) ?_
      refine lv_bipush (v := (-9 : Int32)) hx hb dX5_row_10 (by decide) ?_
      refine lv_icmp_eq (tgt := 26) hx hb dX5_row_12 (by decide) (fun c4 => ?_) (fun c4 => ?_)
      · replace hf := it_p c4 hf
        exact b26 st x1 x2 x3 x4 x5 hf H locs ls ⟨hP, hD, hS⟩ (lv_sub hl [0, 1, 2, 3, 4, 5] rfl)
      · replace hf := it_n c4 hf
        refine lv_aload_n hx hb dX5_row_15 rfl (lv_at hl 0 rfl) ?_
        refine lv_iload hx hb dX5_row_16 (lv_at hl 5 rfl) ?_
        obtain ⟨r16, hc17, hf⟩ := bind_s hf
        refine cpV (v := .int r16) ⟨hx, hb, hml, hown, hts⟩ (ct_X5_isUnit l dC dI a b cI cJ cZ st x5 r16 hc17) (cwV 1 hts gX5_row_X5_isUnit rfl rfl rfl (by decide +kernel) ⟨(Nat.le_of_ble_eq_true rfl), (Nat.le_of_ble_eq_true rfl)⟩) hK hP [0, 1, 2, 3, 4, 5, 6, 7, 8, 9, 10, 11, 12, 13, 14, 15, 16, 17, 18, 19, 20, 21, 22, 23, 24, 25, 26, 27] rfl rfl rfl rfl hl.1 rfl (Nat.le_of_ble_eq_true rfl) (Nat.le_of_ble_eq_true rfl) (Nat.le_of_ble_eq_true rfl) dX5_row_18 ?_
        refine lv_if_ne (tgt := 26) hx hb dX5_row_21 (by decide) (fun c18 => ?_) (fun c18 => ?_)
        · replace hf := it_n c18 hf
          exact b26 st x1 x2 x3 x4 x5 hf H locs ls ⟨hP, hD, hS⟩ (lv_sub hl [0, 1, 2, 3, 4, 5] rfl)
        · replace hf := it_p c18 hf
          refine lv_iconst (v := (-1 : Int32)) hx hb dX5_row_24 (by decide) ?_
          obtain rfl := Option.some.inj hf
          rw [hQ]
          exact W.iret hx hb hr (fun t ht hW => ⟨rfl, ⟨by rw [ht]; exact hP, hD⟩, hS.F ht⟩) hS.2.2 dX5_row_25
  exact main s.heap [] ls ⟨hP, hD, va_S.rf⟩ hl
def rX5_isRow : Room := { frames := 0, cells := 0, slots := 0, locals := 0 }
theorem kX5_isRow_X5 : ∀ w ∈ wsX50, w ∈ wsX5_isRow := fun w h => (List.mem_cons_of_mem _ (List.mem_append_left _ (List.mem_append_right _ h)))
theorem mX5_isRow_1 : Cond.fieldLink RX5 19 "SmokeLedger" "rows" "LSmokeLedger$Rows;" ∈ wsX5_isRow := List.mem_of_getElem? (i := 1) rfl
theorem kX5_isRow_X2 : ∀ w ∈ wsX20, w ∈ wsX5_isRow := fun w h => (List.mem_cons_of_mem _ (List.mem_append_right _ h))
theorem mX5_isRow_2 : Cond.fieldLink RX5 132 "SmokeLedger$Rows" "size" "I" ∈ wsX5_isRow := List.mem_of_getElem? (i := 2) rfl
set_option maxHeartbeats 4000000 in
set_option maxRecDepth 100000 in
theorem ct_X5_isRow (l : Launch) (dC : Nat → ClassId) (dI : Nat → Nat → Nat) (a b : Nat → Nat) (cI cJ cZ : ClassId) (st : LG) (x1 : Int32) (res : Int32) (hf : fX5_isRow st x1 = some res) : Met l yX5_isRow wsX5_isRow rX5_isRow (Pp (dC, dI) (tyT cI cJ cZ) (WX5 a b cI cJ cZ st) [.ref (a 0), .int x1]) (Qp (.int res)) 0 0 (fun _ => False) := by
  refine Met.ofW (cc := cX5_isRow) (maxL := 2) (ret := (some .boolean)) (by decide) rfl ?_
  intro p e s m args below meth c s₁ B hml hv
  obtain ⟨hargs, hP, hK⟩ := hv
  have hx := B.exec
  have hb := B.bytes
  have hr := B.returns
  have hts := atoms_spec (ws := wsX5_isRow) B.pre
  have hown : s.vm.findClass RX5 = some m.cls := findClass_of_methodNamed B.named
  have hlocks := B.notSynchronized
  have hP : va_P (dC, dI) vwCl (WX5 a b cI cJ cZ st) s.heap := hP
  have hl := lv_entry ([.ref (a 0), .int x1]) (n := 2) (Nat.le_of_ble_eq_true rfl)
  refine W.eq (hargs ▸ lg_entry_eq m [.ref (a 0), .int x1] 2) ?_
  generalize (lg_sl ([.ref (a 0), .int x1]) ++ List.replicate (2 - (lg_sl ([.ref (a 0), .int x1])).length) Slot.unset).toArray = ls at hl ⊢
  have hl : lv_has ls 2 [(0, .ref (a 0)), (1, .int x1)] := hl
  obtain ⟨QQ, hQ⟩ : ∃ QQ : State → Prop, QQ = MQ below (Qp (.int res)) args s 0 0 (fun _ => False) := ⟨_, rfl⟩
  rw [← hQ]
  unfold fX5_isRow at hf
  refine lv_iload_n hx hb dX5_isRow_0 rfl (lv_at hl 1 rfl) ?_
  refine lv_if_lt (tgt := 19) hx hb dX5_isRow_1 (by decide) (fun c1 => ?_) (fun c1 => ?_)
  · replace hf := it_p c1 hf
    refine lv_iconst (v := (0 : Int32)) hx hb dX5_isRow_19 (by decide) ?_
    obtain rfl := Option.some.inj hf
    rw [hQ]
    exact W.zret hx hb hr rfl (fun t ht hW => ⟨rfl, ht⟩) (fun q hq => absurd hq List.not_mem_nil) dX5_isRow_20
  · replace hf := it_n c1 hf
    refine lv_iload_n hx hb dX5_isRow_4 rfl (lv_at hl 1 rfl) ?_
    refine lv_aload_n hx hb dX5_isRow_5 rfl (lv_at hl 0 rfl) ?_
    refine va_get (D := (dC, dI)) (ci := 5) (v := .ref (a 12)) (C := RX5) (T := TX5) (N := 5) hx hb hts kX5_isRow_X5 hown hK hP 0 rfl rfl 1 (by decide) (hts _ mX5_isRow_1) (fun _ h9 => h9) rfl dX5_isRow_6 ?_
    refine va_get (D := (dC, dI)) (ci := 2) (v := .int (RS_size (LG_R st))) (C := RX2) (T := TX2) (N := 7) hx hb hts kX5_isRow_X2 hown hK hP 12 rfl rfl 6 (by decide) (hts _ mX5_isRow_2) (fun _ h9 => h9) rfl dX5_isRow_9 ?_
    refine lv_icmp_ge (tgt := 19) hx hb dX5_isRow_12 (by decide) (fun c2 => ?_) (fun c2 => ?_)
    · replace hf := it_p c2 hf
      refine lv_iconst (v := (0 : Int32)) hx hb dX5_isRow_19 (by decide) ?_
      obtain rfl := Option.some.inj hf
      rw [hQ]
      exact W.zret hx hb hr rfl (fun t ht hW => ⟨rfl, ht⟩) (fun q hq => absurd hq List.not_mem_nil) dX5_isRow_20
    · replace hf := it_n c2 hf
      refine lv_iconst (v := (1 : Int32)) hx hb dX5_isRow_15 (by decide) ?_
      refine lv_goto (tgt := 20) hx hb dX5_isRow_16 (by decide) ?_
      obtain rfl := Option.some.inj hf
      rw [hQ]
      exact W.zret hx hb hr rfl (fun t ht hW => ⟨rfl, ht⟩) (fun q hq => absurd hq List.not_mem_nil) dX5_isRow_20
def rX5_isDouble : Room := { frames := 4, cells := 0, slots := 0, locals := 108 }
theorem kX5_isDouble_X5 : ∀ w ∈ wsX50, w ∈ wsX5_isDouble := fun w h => (List.mem_cons_of_mem _ (List.mem_append_left _ (List.mem_append_left _ (List.mem_append_right _ h))))
theorem mX5_isDouble_1 : Cond.fieldLink RX5 19 "SmokeLedger" "rows" "LSmokeLedger$Rows;" ∈ wsX5_isDouble := List.mem_of_getElem? (i := 1) rfl
theorem kX5_isDouble_X2 : ∀ w ∈ wsX20, w ∈ wsX5_isDouble := fun w h => (List.mem_cons_of_mem _ (List.mem_append_left _ (List.mem_append_right _ h)))
theorem mX5_isDouble_2 : Cond.fieldLink RX5 99 "SmokeLedger$Rows" "seller" "[I" ∈ wsX5_isDouble := List.mem_of_getElem? (i := 2) rfl
theorem mX5_isDouble_3 : Cond.fieldLink RX5 10 "SmokeLedger" "holdings" "LSmokeLedger$Holdings;" ∈ wsX5_isDouble := List.mem_of_getElem? (i := 3) rfl
theorem mX5_isDouble_4 : Cond.fieldLink RX5 86 "SmokeLedger$Rows" "unit" "[I" ∈ wsX5_isDouble := List.mem_of_getElem? (i := 4) rfl
set_option maxHeartbeats 4000000 in
set_option maxRecDepth 100000 in
theorem ct_X5_isDouble (l : Launch) (dC : Nat → ClassId) (dI : Nat → Nat → Nat) (a b : Nat → Nat) (cI cJ cZ : ClassId) (sz : Nat) (st : LG) (x1 : Int32) (x2 : Int32) (res : Int32 × LG) (hf : fX5_isDouble st x1 x2 = some res) : Met l yX5_isDouble wsX5_isDouble rX5_isDouble (Pm (dC, dI) (tyT cI cJ cZ) (WX5 a b cI cJ cZ st) sz [.ref (a 0), .int x1, .int x2]) (Qm (dC, dI) (some (.int res.1)) (WX5 a b cI cJ cZ res.2) (va_A (WX5 a b cI cJ cZ st) sz)) 0 0 (va_A (WX5 a b cI cJ cZ st) sz) := by
  refine Met.ofW (cc := cX5_isDouble) (maxL := 4) (ret := (some .boolean)) (by decide) rfl ?_
  intro p e s m args below meth c s₁ B hml hv
  obtain ⟨hargs, hsz, hP, hK, hD0⟩ := hv
  have hx := B.exec
  have hb := B.bytes
  have hr := B.returns
  have hts := atoms_spec (ws := wsX5_isDouble) B.pre
  have hown : s.vm.findClass RX5 = some m.cls := findClass_of_methodNamed B.named
  have hlocks := B.notSynchronized
  subst hsz
  have hD := hD0.self (sz := s.heap.size)
  generalize hAe : va_A (WX5 a b cI cJ cZ st) s.heap.size = A at hD ⊢
  have hA : ∀ q : Nat, s.heap.size ≤ q → A q := fun q h => by rw [← hAe]; exact Or.inr h
  have hl := lv_entry ([.ref (a 0), .int x1, .int x2]) (n := 4) (Nat.le_of_ble_eq_true rfl)
  refine W.eq (hargs ▸ lg_entry_eq m [.ref (a 0), .int x1, .int x2] 4) ?_
  generalize (lg_sl ([.ref (a 0), .int x1, .int x2]) ++ List.replicate (4 - (lg_sl ([.ref (a 0), .int x1, .int x2])).length) Slot.unset).toArray = ls at hl ⊢
  have hl : lv_has ls 4 [(0, .ref (a 0)), (1, .int x1), (2, .int x2)] := hl
  obtain ⟨QQ, hQ⟩ : ∃ QQ : State → Prop, QQ = MQ below (Qm (dC, dI) (some (.int res.1)) (WX5 a b cI cJ cZ res.2) A) args s 0 0 (A) := ⟨_, rfl⟩
  rw [← hQ]
  have main : ∀ (H : Heap) (locs : List Loc) (ls : Array Slot), IN (dC, dI) (WX5 a b cI cJ cZ st) A s.heap H locs → lv_has ls 4 [(0, .ref (a 0)), (1, .int x1), (2, .int x2)] → W p l e (headSpec wsX5_isDouble rX5_isDouble).room s m args below meth c H locs 0 0 QQ (F0 m 0 ls []) := by
    intro H locs ls hin hl
    obtain ⟨hP, hD, hS⟩ := hin
    unfold fX5_isDouble at hf
    refine lv_aload_n hx hb dX5_isDouble_0 rfl (lv_at hl 0 rfl) ?_
    refine va_get (D := (dC, dI)) (ci := 5) (v := .ref (a 12)) (C := RX5) (T := TX5) (N := 5) hx hb hts kX5_isDouble_X5 hown hK hP 0 rfl rfl 1 (by decide) (hts _ mX5_isDouble_1) (fun _ h9 => h9) rfl dX5_isDouble_1 ?_
    refine va_get (D := (dC, dI)) (ci := 2) (v := .ref (a 17)) (C := RX2) (T := TX2) (N := 7) hx hb hts kX5_isDouble_X2 hown hK hP 12 rfl rfl 4 (by decide) (hts _ mX5_isDouble_2) (fun _ h9 => h9) rfl dX5_isDouble_4 ?_
    refine lv_iload_n hx hb dX5_isDouble_7 rfl (lv_at hl 1 rfl) ?_
    obtain ⟨hi1, hf⟩ := it_s hf
    refine va_iald hx hb hK hP 17 0 rfl rfl (inb_in hi1) dX5_isDouble_8 ?_
    refine lv_istore_n (lv' := [(3, .int ((RS_seller (LG_R st)) (x1).toNatClampNeg)), (0, .ref (a 0)), (1, .int x1), (2, .int x2)]) hx hb dX5_isDouble_9 rfl hl (by decide) rfl (fun ls hl => ?_)
    refine lv_iload_n hx hb dX5_isDouble_10 rfl (lv_at hl 0 rfl) ?_
    refine lv_bipush (v := (-9 : Int32)) hx hb dX5_isDouble_11 (by decide) ?_
    refine lv_icmp_eq (tgt := 56) hx hb dX5_isDouble_13 (by decide) (fun c2 => ?_) (fun c2 => ?_)
    · replace hf := it_p c2 hf
      refine lv_iconst (v := (0 : Int32)) hx hb dX5_isDouble_56 (by decide) ?_
      obtain rfl := Option.some.inj hf
      rw [hQ]
      exact W.zret hx hb hr rfl (fun t ht hW => ⟨rfl, ⟨by rw [ht]; exact hP, hD⟩, hS.F ht⟩) hS.2.2 dX5_isDouble_57
    · replace hf := it_n c2 hf
      refine lv_aload_n hx hb dX5_isDouble_16 rfl (lv_at hl 1 rfl) ?_
      refine va_get (D := (dC, dI)) (ci := 5) (v := .ref (a 1)) (C := RX5) (T := TX5) (N := 5) hx hb hts kX5_isDouble_X5 hown hK hP 0 rfl rfl 0 (by decide) (hts _ mX5_isDouble_3) (fun _ h9 => h9) rfl dX5_isDouble_17 ?_
      refine lv_aload_n hx hb dX5_isDouble_20 rfl (lv_at hl 1 rfl) ?_
      refine va_get (D := (dC, dI)) (ci := 5) (v := .ref (a 12)) (C := RX5) (T := TX5) (N := 5) hx hb hts kX5_isDouble_X5 hown hK hP 0 rfl rfl 1 (by decide) (hts _ mX5_isDouble_1) (fun _ h9 => h9) rfl dX5_isDouble_21 ?_
      refine va_get (D := (dC, dI)) (ci := 2) (v := .ref (a 13)) (C := RX2) (T := TX2) (N := 7) hx hb hts kX5_isDouble_X2 hown hK hP 12 rfl rfl 0 (by decide) (hts _ mX5_isDouble_4) (fun _ h9 => h9) rfl dX5_isDouble_24 ?_
      refine lv_iload_n hx hb dX5_isDouble_27 rfl (lv_at hl 2 rfl) ?_
      obtain ⟨hi3, hf⟩ := it_s hf
      refine va_iald hx hb hK hP 13 0 rfl rfl (inb_in hi3) dX5_isDouble_28 ?_
      refine lv_iload_n hx hb dX5_isDouble_29 rfl (lv_at hl 3 rfl) ?_
      obtain ⟨p4, hc5, hf⟩ := bind_s hf
      refine cmV (wr := (a 0, .inr (5, [.ref (a 1), .ref (a 12), .ref (a 19), .ref (a 24), .int (LG_units st)])) :: (WX2 a b cI cJ cZ (LG_R st) ++ (WX0 a b cI cJ cZ (LG_F st) ++ (WX3 a b cI cJ cZ (LG_S st))))) ⟨hx, hb, hml, hown, hts⟩ (ct_X1_shareOn l dC dI a b cI cJ cZ H.size (LG_H st) ((RS_unit (LG_R st)) (x1).toNatClampNeg) x2 p4 hc5) (cwV 2 hts gX5_isDouble_X1_shareOn rfl rfl rfl (by decide +kernel) ⟨(Nat.le_of_ble_eq_true rfl), (Nat.le_of_ble_eq_true rfl)⟩) hK hP hD hS hA [1, 2, 3, 4, 5, 6, 7, 8, 9, 10, 11] [0, 12, 13, 14, 15, 16, 17, 18, 19, 20, 21, 22, 23, 24, 25, 26, 27] rfl rfl (by decide) rfl (by decide) (by decide) rfl rfl rfl hl.1 rfl (Nat.le_of_ble_eq_true rfl) (Nat.le_of_ble_eq_true rfl) (Nat.le_of_ble_eq_true rfl) dX5_isDouble_30 (fun H locs hP hD hS => ?_)
      replace hP : va_P (dC, dI) vwCl (WX5 a b cI cJ cZ (LG_mk p4.2 (LG_R st) (LG_F st) (LG_S st) (LG_units st))) H := hP.sub [0, 17, 18, 19, 20, 21, 22, 23, 24, 25, 26, 27, 1, 2, 3, 4, 5, 6, 7, 8, 9, 10, 11, 12, 13, 14, 15, 16] rfl
      replace hD : va_D A (WX5 a b cI cJ cZ (LG_mk p4.2 (LG_R st) (LG_F st) (LG_S st) (LG_units st))) := hD.sub [0, 17, 18, 19, 20, 21, 22, 23, 24, 25, 26, 27, 1, 2, 3, 4, 5, 6, 7, 8, 9, 10, 11, 12, 13, 14, 15, 16] (by decide) rfl
      refine W.eq (g2 := F0 m 33 ls [.long p4.1]) rfl ?_
      refine lv_lconst (v := (0 : Int64)) hx hb dX5_isDouble_33 (by decide) ?_
      refine W.lcmp hx hb dX5_isDouble_34 ?_
      refine lv_if_le (tgt := 56) hx hb dX5_isDouble_35 (by decide) (fun c6 => ?_) (fun c6 => ?_)
      · replace hf := it_p c6 hf
        refine lv_iconst (v := (0 : Int32)) hx hb dX5_isDouble_56 (by decide) ?_
        obtain rfl := Option.some.inj hf
        rw [hQ]
        exact W.zret hx hb hr rfl (fun t ht hW => ⟨rfl, ⟨by rw [ht]; exact hP, hD⟩, hS.F ht⟩) hS.2.2 dX5_isDouble_57
      · replace hf := it_n c6 hf
        refine lv_aload_n hx hb dX5_isDouble_38 rfl (lv_at hl 1 rfl) ?_
        refine va_get (D := (dC, dI)) (ci := 5) (v := .ref (a 1)) (C := RX5) (T := TX5) (N := 5) hx hb hts kX5_isDouble_X5 hown hK hP 0 rfl rfl 0 (by decide) (hts _ mX5_isDouble_3) (fun _ h9 => h9) rfl dX5_isDouble_39 ?_
        refine lv_iload_n hx hb dX5_isDouble_42 rfl (lv_at hl 0 rfl) ?_
        refine lv_iload_n hx hb dX5_isDouble_43 rfl (lv_at hl 3 rfl) ?_
        obtain ⟨p7, hc8, hf⟩ := bind_s hf
        refine cmV (wr := (a 0, .inr (5, [.ref (a 1), .ref (a 12), .ref (a 19), .ref (a 24), .int (LG_units st)])) :: (WX2 a b cI cJ cZ (LG_R st) ++ (WX0 a b cI cJ cZ (LG_F st) ++ (WX3 a b cI cJ cZ (LG_S st))))) ⟨hx, hb, hml, hown, hts⟩ (ct_X1_shareOn l dC dI a b cI cJ cZ H.size p4.2 ((RS_seller (LG_R st)) (x1).toNatClampNeg) x2 p7 hc8) (cwV 2 hts gX5_isDouble_X1_shareOn rfl rfl rfl (by decide +kernel) ⟨(Nat.le_of_ble_eq_true rfl), (Nat.le_of_ble_eq_true rfl)⟩) hK hP hD hS hA [1, 2, 3, 4, 5, 6, 7, 8, 9, 10, 11] [0, 12, 13, 14, 15, 16, 17, 18, 19, 20, 21, 22, 23, 24, 25, 26, 27] rfl rfl (by decide) rfl (by decide) (by decide) rfl rfl rfl hl.1 rfl (Nat.le_of_ble_eq_true rfl) (Nat.le_of_ble_eq_true rfl) (Nat.le_of_ble_eq_true rfl) dX5_isDouble_44 (fun H locs hP hD hS => ?_)
        replace hP : va_P (dC, dI) vwCl (WX5 a b cI cJ cZ (LG_mk p7.2 (LG_R st) (LG_F st) (LG_S st) (LG_units st))) H := hP.sub [0, 17, 18, 19, 20, 21, 22, 23, 24, 25, 26, 27, 1, 2, 3, 4, 5, 6, 7, 8, 9, 10, 11, 12, 13, 14, 15, 16] rfl
        replace hD : va_D A (WX5 a b cI cJ cZ (LG_mk p7.2 (LG_R st) (LG_F st) (LG_S st) (LG_units st))) := hD.sub [0, 17, 18, 19, 20, 21, 22, 23, 24, 25, 26, 27, 1, 2, 3, 4, 5, 6, 7, 8, 9, 10, 11, 12, 13, 14, 15, 16] (by decide) rfl
        refine W.eq (g2 := F0 m 47 ls [.long p7.1]) rfl ?_
        refine lv_lconst (v := (0 : Int64)) hx hb dX5_isDouble_47 (by decide) ?_
        refine W.lcmp hx hb dX5_isDouble_48 ?_
        refine lv_if_le (tgt := 56) hx hb dX5_isDouble_49 (by decide) (fun c9 => ?_) (fun c9 => ?_)
        · replace hf := it_p c9 hf
          refine lv_iconst (v := (0 : Int32)) hx hb dX5_isDouble_56 (by decide) ?_
          obtain rfl := Option.some.inj hf
          rw [hQ]
          exact W.zret hx hb hr rfl (fun t ht hW => ⟨rfl, ⟨by rw [ht]; exact hP, hD⟩, hS.F ht⟩) hS.2.2 dX5_isDouble_57
        · replace hf := it_n c9 hf
          refine lv_iconst (v := (1 : Int32)) hx hb dX5_isDouble_52 (by decide) ?_
          refine lv_goto (tgt := 57) hx hb dX5_isDouble_53 (by decide) ?_
          obtain rfl := Option.some.inj hf
          rw [hQ]
          exact W.zret hx hb hr rfl (fun t ht hW => ⟨rfl, ⟨by rw [ht]; exact hP, hD⟩, hS.F ht⟩) hS.2.2 dX5_isDouble_57
  exact main s.heap [] ls ⟨hP, hD, va_S.rf⟩ hl
def rX5_told : Room := { frames := 5, cells := 0, slots := 0, locals := 131 }
theorem kX5_told_X5 : ∀ w ∈ wsX50, w ∈ wsX5_told := fun w h => (List.mem_cons_of_mem _ (List.mem_append_left _ (List.mem_append_left _ (List.mem_append_right _ h))))
theorem mX5_told_1 : Cond.fieldLink RX5 19 "SmokeLedger" "rows" "LSmokeLedger$Rows;" ∈ wsX5_told := List.mem_of_getElem? (i := 1) rfl
theorem kX5_told_X2 : ∀ w ∈ wsX20, w ∈ wsX5_told := fun w h => (List.mem_cons_of_mem _ (List.mem_append_left _ (List.mem_append_right _ h)))
theorem mX5_told_2 : Cond.fieldLink RX5 86 "SmokeLedger$Rows" "unit" "[I" ∈ wsX5_told := List.mem_of_getElem? (i := 2) rfl
theorem mX5_told_3 : Cond.fieldLink RX5 90 "SmokeLedger$Rows" "kind" "[I" ∈ wsX5_told := List.mem_of_getElem? (i := 3) rfl
theorem mX5_told_4 : Cond.fieldLink RX5 93 "SmokeLedger$Rows" "amount" "[I" ∈ wsX5_told := List.mem_of_getElem? (i := 4) rfl
theorem mX5_told_5 : Cond.fieldLink RX5 96 "SmokeLedger$Rows" "day" "[I" ∈ wsX5_told := List.mem_of_getElem? (i := 5) rfl
theorem mX5_told_6 : Cond.fieldLink RX5 99 "SmokeLedger$Rows" "seller" "[I" ∈ wsX5_told := List.mem_of_getElem? (i := 6) rfl
theorem mX5_told_7 : Cond.fieldLink RX5 105 "SmokeLedger$Rows" "covered" "[I" ∈ wsX5_told := List.mem_of_getElem? (i := 7) rfl
set_option maxHeartbeats 4000000 in
set_option maxRecDepth 100000 in
theorem ct_X5_told (l : Launch) (dC : Nat → ClassId) (dI : Nat → Nat → Nat) (a b : Nat → Nat) (cI cJ cZ : ClassId) (sz : Nat) (st : LG) (x1 : Int32) (x2 : Int32) (res : Int32 × LG) (hf : fX5_told st x1 x2 = some res) : Met l yX5_told wsX5_told rX5_told (Pm (dC, dI) (tyT cI cJ cZ) (WX5 a b cI cJ cZ st) sz [.ref (a 0), .int x1, .int x2]) (Qm (dC, dI) (some (.int res.1)) (WX5 a b cI cJ cZ res.2) (va_A (WX5 a b cI cJ cZ st) sz)) 0 0 (va_A (WX5 a b cI cJ cZ st) sz) := by
  refine Met.ofW (cc := cX5_told) (maxL := 3) (ret := (some .int)) (by decide) rfl ?_
  intro p e s m args below meth c s₁ B hml hv
  obtain ⟨hargs, hsz, hP, hK, hD0⟩ := hv
  have hx := B.exec
  have hb := B.bytes
  have hr := B.returns
  have hts := atoms_spec (ws := wsX5_told) B.pre
  have hown : s.vm.findClass RX5 = some m.cls := findClass_of_methodNamed B.named
  have hlocks := B.notSynchronized
  subst hsz
  have hD := hD0.self (sz := s.heap.size)
  generalize hAe : va_A (WX5 a b cI cJ cZ st) s.heap.size = A at hD ⊢
  have hA : ∀ q : Nat, s.heap.size ≤ q → A q := fun q h => by rw [← hAe]; exact Or.inr h
  have hl := lv_entry ([.ref (a 0), .int x1, .int x2]) (n := 3) (Nat.le_of_ble_eq_true rfl)
  refine W.eq (hargs ▸ lg_entry_eq m [.ref (a 0), .int x1, .int x2] 3) ?_
  generalize (lg_sl ([.ref (a 0), .int x1, .int x2]) ++ List.replicate (3 - (lg_sl ([.ref (a 0), .int x1, .int x2])).length) Slot.unset).toArray = ls at hl ⊢
  have hl : lv_has ls 3 [(0, .ref (a 0)), (1, .int x1), (2, .int x2)] := hl
  obtain ⟨QQ, hQ⟩ : ∃ QQ : State → Prop, QQ = MQ below (Qm (dC, dI) (some (.int res.1)) (WX5 a b cI cJ cZ res.2) A) args s 0 0 (A) := ⟨_, rfl⟩
  rw [← hQ]
  have main : ∀ (H : Heap) (locs : List Loc) (ls : Array Slot), IN (dC, dI) (WX5 a b cI cJ cZ st) A s.heap H locs → lv_has ls 3 [(0, .ref (a 0)), (1, .int x1), (2, .int x2)] → W p l e (headSpec wsX5_told rX5_told).room s m args below meth c H locs 0 0 QQ (F0 m 0 ls []) := by
    intro H locs ls hin hl
    obtain ⟨hP, hD, hS⟩ := hin
    unfold fX5_told at hf
    refine lv_aload_n hx hb dX5_told_0 rfl (lv_at hl 0 rfl) ?_
    refine lv_iload_n hx hb dX5_told_1 rfl (lv_at hl 1 rfl) ?_
    obtain ⟨r1, hc2, hf⟩ := bind_s hf
    refine cpV (v := .int r1) ⟨hx, hb, hml, hown, hts⟩ (ct_X5_isRow l dC dI a b cI cJ cZ st x1 r1 hc2) (cwV 1 hts gX5_told_X5_isRow rfl rfl rfl (by decide +kernel) ⟨(Nat.le_of_ble_eq_true rfl), (Nat.le_of_ble_eq_true rfl)⟩) hK hP [0, 1, 2, 3, 4, 5, 6, 7, 8, 9, 10, 11, 12, 13, 14, 15, 16, 17, 18, 19, 20, 21, 22, 23, 24, 25, 26, 27] rfl rfl rfl rfl hl.1 rfl (Nat.le_of_ble_eq_true rfl) (Nat.le_of_ble_eq_true rfl) (Nat.le_of_ble_eq_true rfl) dX5_told_2 ?_
    refine lv_if_ne (tgt := 10) hx hb dX5_told_5 (by decide) (fun c3 => ?_) (fun c3 => ?_)
    · replace hf := it_n c3 hf
      refine lv_iload_n hx hb dX5_told_10 rfl (lv_at hl 2 rfl) ?_
      by_cases c5 : x2 = 0
      · replace hf := it_p c5 hf
        refine lv_tableIn (off := 41) (tgt := 52) hx hb dX5_told_11 (by rw [c5]; decide) (by rw [c5]; decide) (by rw [c5]; rfl) (by decide) ?_
        refine lv_aload_n hx hb dX5_told_52 rfl (lv_at hl 0 rfl) ?_
        refine va_get (D := (dC, dI)) (ci := 5) (v := .ref (a 12)) (C := RX5) (T := TX5) (N := 5) hx hb hts kX5_told_X5 hown hK hP 0 rfl rfl 1 (by decide) (hts _ mX5_told_1) (fun _ h9 => h9) rfl dX5_told_53 ?_
        refine va_get (D := (dC, dI)) (ci := 2) (v := .ref (a 13)) (C := RX2) (T := TX2) (N := 7) hx hb hts kX5_told_X2 hown hK hP 12 rfl rfl 0 (by decide) (hts _ mX5_told_2) (fun _ h9 => h9) rfl dX5_told_56 ?_
        refine lv_iload_n hx hb dX5_told_59 rfl (lv_at hl 1 rfl) ?_
        obtain ⟨hi4, hf⟩ := it_s hf
        refine va_iald hx hb hK hP 13 0 rfl rfl (inb_in hi4) dX5_told_60 ?_
        obtain rfl := Option.some.inj hf
        rw [hQ]
        exact W.iret hx hb hr (fun t ht hW => ⟨rfl, ⟨by rw [ht]; exact hP, hD⟩, hS.F ht⟩) hS.2.2 dX5_told_61
      · replace hf := it_n c5 hf
        by_cases c7 : x2 = 1
        · replace hf := it_p c7 hf
          refine lv_tableIn (off := 51) (tgt := 62) hx hb dX5_told_11 (by rw [c7]; decide) (by rw [c7]; decide) (by rw [c7]; rfl) (by decide) ?_
          refine lv_aload_n hx hb dX5_told_62 rfl (lv_at hl 0 rfl) ?_
          refine va_get (D := (dC, dI)) (ci := 5) (v := .ref (a 12)) (C := RX5) (T := TX5) (N := 5) hx hb hts kX5_told_X5 hown hK hP 0 rfl rfl 1 (by decide) (hts _ mX5_told_1) (fun _ h9 => h9) rfl dX5_told_63 ?_
          refine va_get (D := (dC, dI)) (ci := 2) (v := .ref (a 14)) (C := RX2) (T := TX2) (N := 7) hx hb hts kX5_told_X2 hown hK hP 12 rfl rfl 1 (by decide) (hts _ mX5_told_3) (fun _ h9 => h9) rfl dX5_told_66 ?_
          refine lv_iload_n hx hb dX5_told_69 rfl (lv_at hl 1 rfl) ?_
          obtain ⟨hi6, hf⟩ := it_s hf
          refine va_iald hx hb hK hP 14 0 rfl rfl (inb_in hi6) dX5_told_70 ?_
          obtain rfl := Option.some.inj hf
          rw [hQ]
          exact W.iret hx hb hr (fun t ht hW => ⟨rfl, ⟨by rw [ht]; exact hP, hD⟩, hS.F ht⟩) hS.2.2 dX5_told_71
        · replace hf := it_n c7 hf
          by_cases c9 : x2 = 2
          · replace hf := it_p c9 hf
            refine lv_tableIn (off := 61) (tgt := 72) hx hb dX5_told_11 (by rw [c9]; decide) (by rw [c9]; decide) (by rw [c9]; rfl) (by decide) ?_
            refine lv_aload_n hx hb dX5_told_72 rfl (lv_at hl 0 rfl) ?_
            refine va_get (D := (dC, dI)) (ci := 5) (v := .ref (a 12)) (C := RX5) (T := TX5) (N := 5) hx hb hts kX5_told_X5 hown hK hP 0 rfl rfl 1 (by decide) (hts _ mX5_told_1) (fun _ h9 => h9) rfl dX5_told_73 ?_
            refine va_get (D := (dC, dI)) (ci := 2) (v := .ref (a 15)) (C := RX2) (T := TX2) (N := 7) hx hb hts kX5_told_X2 hown hK hP 12 rfl rfl 2 (by decide) (hts _ mX5_told_4) (fun _ h9 => h9) rfl dX5_told_76 ?_
            refine lv_iload_n hx hb dX5_told_79 rfl (lv_at hl 1 rfl) ?_
            obtain ⟨hi8, hf⟩ := it_s hf
            refine va_iald hx hb hK hP 15 0 rfl rfl (inb_in hi8) dX5_told_80 ?_
            obtain rfl := Option.some.inj hf
            rw [hQ]
            exact W.iret hx hb hr (fun t ht hW => ⟨rfl, ⟨by rw [ht]; exact hP, hD⟩, hS.F ht⟩) hS.2.2 dX5_told_81
          · replace hf := it_n c9 hf
            by_cases c11 : x2 = 3
            · replace hf := it_p c11 hf
              refine lv_tableIn (off := 71) (tgt := 82) hx hb dX5_told_11 (by rw [c11]; decide) (by rw [c11]; decide) (by rw [c11]; rfl) (by decide) ?_
              refine lv_aload_n hx hb dX5_told_82 rfl (lv_at hl 0 rfl) ?_
              refine va_get (D := (dC, dI)) (ci := 5) (v := .ref (a 12)) (C := RX5) (T := TX5) (N := 5) hx hb hts kX5_told_X5 hown hK hP 0 rfl rfl 1 (by decide) (hts _ mX5_told_1) (fun _ h9 => h9) rfl dX5_told_83 ?_
              refine va_get (D := (dC, dI)) (ci := 2) (v := .ref (a 16)) (C := RX2) (T := TX2) (N := 7) hx hb hts kX5_told_X2 hown hK hP 12 rfl rfl 3 (by decide) (hts _ mX5_told_5) (fun _ h9 => h9) rfl dX5_told_86 ?_
              refine lv_iload_n hx hb dX5_told_89 rfl (lv_at hl 1 rfl) ?_
              obtain ⟨hi10, hf⟩ := it_s hf
              refine va_iald hx hb hK hP 16 0 rfl rfl (inb_in hi10) dX5_told_90 ?_
              obtain rfl := Option.some.inj hf
              rw [hQ]
              exact W.iret hx hb hr (fun t ht hW => ⟨rfl, ⟨by rw [ht]; exact hP, hD⟩, hS.F ht⟩) hS.2.2 dX5_told_91
            · replace hf := it_n c11 hf
              by_cases c13 : x2 = 4
              · replace hf := it_p c13 hf
                refine lv_tableIn (off := 81) (tgt := 92) hx hb dX5_told_11 (by rw [c13]; decide) (by rw [c13]; decide) (by rw [c13]; rfl) (by decide) ?_
                refine lv_aload_n hx hb dX5_told_92 rfl (lv_at hl 0 rfl) ?_
                refine va_get (D := (dC, dI)) (ci := 5) (v := .ref (a 12)) (C := RX5) (T := TX5) (N := 5) hx hb hts kX5_told_X5 hown hK hP 0 rfl rfl 1 (by decide) (hts _ mX5_told_1) (fun _ h9 => h9) rfl dX5_told_93 ?_
                refine va_get (D := (dC, dI)) (ci := 2) (v := .ref (a 17)) (C := RX2) (T := TX2) (N := 7) hx hb hts kX5_told_X2 hown hK hP 12 rfl rfl 4 (by decide) (hts _ mX5_told_6) (fun _ h9 => h9) rfl dX5_told_96 ?_
                refine lv_iload_n hx hb dX5_told_99 rfl (lv_at hl 1 rfl) ?_
                obtain ⟨hi12, hf⟩ := it_s hf
                refine va_iald hx hb hK hP 17 0 rfl rfl (inb_in hi12) dX5_told_100 ?_
                obtain rfl := Option.some.inj hf
                rw [hQ]
                exact W.iret hx hb hr (fun t ht hW => ⟨rfl, ⟨by rw [ht]; exact hP, hD⟩, hS.F ht⟩) hS.2.2 dX5_told_101
              · replace hf := it_n c13 hf
                by_cases c18 : x2 = 5
                · replace hf := it_p c18 hf
                  refine lv_tableIn (off := 91) (tgt := 102) hx hb dX5_told_11 (by rw [c18]; decide) (by rw [c18]; decide) (by rw [c18]; rfl) (by decide) ?_
                  refine lv_aload_n hx hb dX5_told_102 rfl (lv_at hl 0 rfl) ?_
                  refine lv_iload_n hx hb dX5_told_103 rfl (lv_at hl 1 rfl) ?_
                  refine lv_aload_n hx hb dX5_told_104 rfl (lv_at hl 0 rfl) ?_
                  refine va_get (D := (dC, dI)) (ci := 5) (v := .ref (a 12)) (C := RX5) (T := TX5) (N := 5) hx hb hts kX5_told_X5 hown hK hP 0 rfl rfl 1 (by decide) (hts _ mX5_told_1) (fun _ h9 => h9) rfl dX5_told_105 ?_
                  refine va_get (D := (dC, dI)) (ci := 2) (v := .ref (a 16)) (C := RX2) (T := TX2) (N := 7) hx hb hts kX5_told_X2 hown hK hP 12 rfl rfl 3 (by decide) (hts _ mX5_told_5) (fun _ h9 => h9) rfl dX5_told_108 ?_
                  refine lv_iload_n hx hb dX5_told_111 rfl (lv_at hl 1 rfl) ?_
                  obtain ⟨hi14, hf⟩ := it_s hf
                  refine va_iald hx hb hK hP 16 0 rfl rfl (inb_in hi14) dX5_told_112 ?_
                  obtain ⟨p15, hc16, hf⟩ := bind_s hf
                  refine cmV (wr := []) ⟨hx, hb, hml, hown, hts⟩ (ct_X5_isDouble l dC dI a b cI cJ cZ H.size st x1 ((RS_day (LG_R st)) (x1).toNatClampNeg) p15 hc16) (cwV 2 hts gX5_told_X5_isDouble rfl rfl rfl (by decide +kernel) ⟨(Nat.le_of_ble_eq_true rfl), (Nat.le_of_ble_eq_true rfl)⟩) hK hP hD hS hA [0, 1, 2, 3, 4, 5, 6, 7, 8, 9, 10, 11, 12, 13, 14, 15, 16, 17, 18, 19, 20, 21, 22, 23, 24, 25, 26, 27] [] rfl rfl (by decide) rfl (by decide) (by decide) rfl rfl rfl hl.1 rfl (Nat.le_of_ble_eq_true rfl) (Nat.le_of_ble_eq_true rfl) (Nat.le_of_ble_eq_true rfl) dX5_told_113 (fun H locs hP hD hS => ?_)
                  replace hP : va_P (dC, dI) vwCl (WX5 a b cI cJ cZ p15.2) H := hP
                  replace hD : va_D A (WX5 a b cI cJ cZ p15.2) := hD
                  refine W.eq (g2 := F0 m 116 ls [.int p15.1]) rfl ?_
                  refine lv_if_eq (tgt := 123) hx hb dX5_told_116 (by decide) (fun c17 => ?_) (fun c17 => ?_)
                  · replace hf := it_p c17 hf
                    refine lv_iconst (v := (0 : Int32)) hx hb dX5_told_123 (by decide) ?_
                    obtain rfl := Option.some.inj hf
                    rw [hQ]
                    exact W.iret hx hb hr (fun t ht hW => ⟨rfl, ⟨by rw [ht]; exact hP, hD⟩, hS.F ht⟩) hS.2.2 dX5_told_124
                  · replace hf := it_n c17 hf
                    refine lv_iconst (v := (1 : Int32)) hx hb dX5_told_119 (by decide) ?_
                    refine lv_goto (tgt := 124) hx hb dX5_told_120 (by decide) ?_
                    obtain rfl := Option.some.inj hf
                    rw [hQ]
                    exact W.iret hx hb hr (fun t ht hW => ⟨rfl, ⟨by rw [ht]; exact hP, hD⟩, hS.F ht⟩) hS.2.2 dX5_told_124
                · replace hf := it_n c18 hf
                  by_cases c20 : x2 = 6
                  · replace hf := it_p c20 hf
                    refine lv_tableIn (off := 114) (tgt := 125) hx hb dX5_told_11 (by rw [c20]; decide) (by rw [c20]; decide) (by rw [c20]; rfl) (by decide) ?_
                    refine lv_aload_n hx hb dX5_told_125 rfl (lv_at hl 0 rfl) ?_
                    refine va_get (D := (dC, dI)) (ci := 5) (v := .ref (a 12)) (C := RX5) (T := TX5) (N := 5) hx hb hts kX5_told_X5 hown hK hP 0 rfl rfl 1 (by decide) (hts _ mX5_told_1) (fun _ h9 => h9) rfl dX5_told_126 ?_
                    refine va_get (D := (dC, dI)) (ci := 2) (v := .ref (a 18)) (C := RX2) (T := TX2) (N := 7) hx hb hts kX5_told_X2 hown hK hP 12 rfl rfl 5 (by decide) (hts _ mX5_told_7) (fun _ h9 => h9) rfl dX5_told_129 ?_
                    refine lv_iload_n hx hb dX5_told_132 rfl (lv_at hl 1 rfl) ?_
                    obtain ⟨hi19, hf⟩ := it_s hf
                    refine va_iald hx hb hK hP 18 0 rfl rfl (inb_in hi19) dX5_told_133 ?_
                    obtain rfl := Option.some.inj hf
                    rw [hQ]
                    exact W.iret hx hb hr (fun t ht hW => ⟨rfl, ⟨by rw [ht]; exact hP, hD⟩, hS.F ht⟩) hS.2.2 dX5_told_134
                  · replace hf := it_n c20 hf
                    refine lv_tableOut (tgt := 135) hx hb dX5_told_11 (by have := lv_neT (a := 0) c5 rfl; have := lv_neT (a := 1) c7 rfl; have := lv_neT (a := 2) c9 rfl; have := lv_neT (a := 3) c11 rfl; have := lv_neT (a := 4) c13 rfl; have := lv_neT (a := 5) c18 rfl; have := lv_neT (a := 6) c20 rfl; omega) (by decide) ?_
                    refine lv_bipush (v := (-2 : Int32)) hx hb dX5_told_135 (by decide) ?_
                    obtain rfl := Option.some.inj hf
                    rw [hQ]
                    exact W.iret hx hb hr (fun t ht hW => ⟨rfl, ⟨by rw [ht]; exact hP, hD⟩, hS.F ht⟩) hS.2.2 dX5_told_137
    · replace hf := it_p c3 hf
      refine lv_iconst (v := (-1 : Int32)) hx hb dX5_told_8 (by decide) ?_
      obtain rfl := Option.some.inj hf
      rw [hQ]
      exact W.iret hx hb hr (fun t ht hW => ⟨rfl, ⟨by rw [ht]; exact hP, hD⟩, hS.F ht⟩) hS.2.2 dX5_told_9
  exact main s.heap [] ls ⟨hP, hD, va_S.rf⟩ hl
def rX5_isYear : Room := { frames := 0, cells := 0, slots := 0, locals := 0 }
set_option maxHeartbeats 4000000 in
set_option maxRecDepth 100000 in
theorem ct_X5_isYear (l : Launch) (dC : Nat → ClassId) (dI : Nat → Nat → Nat) (cI cJ cZ : ClassId) (x0 : Int32) (res : Int32) (hf : fX5_isYear x0 = some res) : Met l yX5_isYear wsX5_isYear rX5_isYear (Pp (dC, dI) (tyT cI cJ cZ) [] [.int x0]) (Qp (.int res)) 0 0 (fun _ => False) := by
  refine Met.ofW (cc := cX5_isYear) (maxL := 1) (ret := (some .boolean)) (by decide) rfl ?_
  intro p e s m args below meth c s₁ B hml hv
  obtain ⟨hargs, hP, hK⟩ := hv
  have hx := B.exec
  have hb := B.bytes
  have hr := B.returns
  have hts := atoms_spec (ws := wsX5_isYear) B.pre
  have hown : s.vm.findClass RX5 = some m.cls := findClass_of_methodNamed B.named
  have hlocks := B.notSynchronized
  have hP : va_P (dC, dI) vwCl [] s.heap := hP
  have hl := lv_entry ([.int x0]) (n := 1) (Nat.le_of_ble_eq_true rfl)
  refine W.eq (hargs ▸ lg_entry_eq m [.int x0] 1) ?_
  generalize (lg_sl ([.int x0]) ++ List.replicate (1 - (lg_sl ([.int x0])).length) Slot.unset).toArray = ls at hl ⊢
  have hl : lv_has ls 1 [(0, .int x0)] := hl
  obtain ⟨QQ, hQ⟩ : ∃ QQ : State → Prop, QQ = MQ below (Qp (.int res)) args s 0 0 (fun _ => False) := ⟨_, rfl⟩
  rw [← hQ]
  unfold fX5_isYear at hf
  refine lv_iload_n hx hb dX5_isYear_0 rfl (lv_at hl 0 rfl) ?_
  refine lv_if_lt (tgt := 14) hx hb dX5_isYear_1 (by decide) (fun c1 => ?_) (fun c1 => ?_)
  · replace hf := it_p c1 hf
    refine lv_iconst (v := (0 : Int32)) hx hb dX5_isYear_14 (by decide) ?_
    obtain rfl := Option.some.inj hf
    rw [hQ]
    exact W.zret hx hb hr rfl (fun t ht hW => ⟨rfl, ht⟩) (fun q hq => absurd hq List.not_mem_nil) dX5_isYear_15
  · replace hf := it_n c1 hf
    refine lv_iload_n hx hb dX5_isYear_4 rfl (lv_at hl 0 rfl) ?_
    refine lv_bipush (v := (10 : Int32)) hx hb dX5_isYear_5 (by decide) ?_
    refine lv_icmp_ge (tgt := 14) hx hb dX5_isYear_7 (by decide) (fun c2 => ?_) (fun c2 => ?_)
    · replace hf := it_p c2 hf
      refine lv_iconst (v := (0 : Int32)) hx hb dX5_isYear_14 (by decide) ?_
      obtain rfl := Option.some.inj hf
      rw [hQ]
      exact W.zret hx hb hr rfl (fun t ht hW => ⟨rfl, ht⟩) (fun q hq => absurd hq List.not_mem_nil) dX5_isYear_15
    · replace hf := it_n c2 hf
      refine lv_iconst (v := (1 : Int32)) hx hb dX5_isYear_10 (by decide) ?_
      refine lv_goto (tgt := 15) hx hb dX5_isYear_11 (by decide) ?_
      obtain rfl := Option.some.inj hf
      rw [hQ]
      exact W.zret hx hb hr rfl (fun t ht hW => ⟨rfl, ht⟩) (fun q hq => absurd hq List.not_mem_nil) dX5_isYear_15
def rX5_factor : Room := { frames := 1, cells := 0, slots := 0, locals := 24 }
theorem kX5_factor_X5 : ∀ w ∈ wsX50, w ∈ wsX5_factor := fun w h => (List.mem_cons_of_mem _ (List.mem_append_left _ (List.mem_append_right _ h)))
theorem mX5_factor_1 : Cond.fieldLink RX5 26 "SmokeLedger" "factors" "LSmokeLedger$Factors;" ∈ wsX5_factor := List.mem_of_getElem? (i := 1) rfl
set_option maxHeartbeats 4000000 in
set_option maxRecDepth 100000 in
theorem ct_X5_factor (l : Launch) (dC : Nat → ClassId) (dI : Nat → Nat → Nat) (a b : Nat → Nat) (cI cJ cZ : ClassId) (sz : Nat) (st : LG) (x1 : Int32) (x2 : Int32) (x3 : Int32) (x4 : Int32) (res : Int32 × LG) (hf : fX5_factor st x1 x2 x3 x4 = some res) : Met l yX5_factor wsX5_factor rX5_factor (Pm (dC, dI) (tyT cI cJ cZ) (WX5 a b cI cJ cZ st) sz [.ref (a 0), .int x1, .int x2, .int x3, .int x4]) (Qm (dC, dI) (some (.int res.1)) (WX5 a b cI cJ cZ res.2) (va_A (WX5 a b cI cJ cZ st) sz)) 0 0 (va_A (WX5 a b cI cJ cZ st) sz) := by
  refine Met.ofW (cc := cX5_factor) (maxL := 5) (ret := (some .int)) (by decide) rfl ?_
  intro p e s m args below meth c s₁ B hml hv
  obtain ⟨hargs, hsz, hP, hK, hD0⟩ := hv
  have hx := B.exec
  have hb := B.bytes
  have hr := B.returns
  have hts := atoms_spec (ws := wsX5_factor) B.pre
  have hown : s.vm.findClass RX5 = some m.cls := findClass_of_methodNamed B.named
  have hlocks := B.notSynchronized
  subst hsz
  have hD := hD0.self (sz := s.heap.size)
  generalize hAe : va_A (WX5 a b cI cJ cZ st) s.heap.size = A at hD ⊢
  have hA : ∀ q : Nat, s.heap.size ≤ q → A q := fun q h => by rw [← hAe]; exact Or.inr h
  have hl := lv_entry ([.ref (a 0), .int x1, .int x2, .int x3, .int x4]) (n := 5) (Nat.le_of_ble_eq_true rfl)
  refine W.eq (hargs ▸ lg_entry_eq m [.ref (a 0), .int x1, .int x2, .int x3, .int x4] 5) ?_
  generalize (lg_sl ([.ref (a 0), .int x1, .int x2, .int x3, .int x4]) ++ List.replicate (5 - (lg_sl ([.ref (a 0), .int x1, .int x2, .int x3, .int x4])).length) Slot.unset).toArray = ls at hl ⊢
  have hl : lv_has ls 5 [(0, .ref (a 0)), (1, .int x1), (2, .int x2), (3, .int x3), (4, .int x4)] := hl
  obtain ⟨QQ, hQ⟩ : ∃ QQ : State → Prop, QQ = MQ below (Qm (dC, dI) (some (.int res.1)) (WX5 a b cI cJ cZ res.2) A) args s 0 0 (A) := ⟨_, rfl⟩
  rw [← hQ]
  have main : ∀ (H : Heap) (locs : List Loc) (ls : Array Slot), IN (dC, dI) (WX5 a b cI cJ cZ st) A s.heap H locs → lv_has ls 5 [(0, .ref (a 0)), (1, .int x1), (2, .int x2), (3, .int x3), (4, .int x4)] → W p l e (headSpec wsX5_factor rX5_factor).room s m args below meth c H locs 0 0 QQ (F0 m 0 ls []) := by
    intro H locs ls hin hl
    obtain ⟨hP, hD, hS⟩ := hin
    unfold fX5_factor at hf
    refine lv_iload_n hx hb dX5_factor_0 rfl (lv_at hl 1 rfl) ?_
    obtain ⟨r1, hc2, hf⟩ := bind_s hf
    refine cpS (v := .int r1) ⟨hx, hb, hml, hown, hts⟩ (ct_X5_isKind l dC dI cI cJ cZ x1 r1 hc2) (va_cwS 1 hts gX5_factor_X5_isKind rfl rfl rfl (by decide +kernel) ⟨(Nat.le_of_ble_eq_true rfl), (Nat.le_of_ble_eq_true rfl)⟩) hK hP [] rfl rfl hl.1 rfl (Nat.le_of_ble_eq_true rfl) (Nat.le_of_ble_eq_true rfl) (Nat.le_of_ble_eq_true rfl) dX5_factor_1 ?_
    refine lv_if_eq (tgt := 32) hx hb dX5_factor_4 (by decide) (fun c3 => ?_) (fun c3 => ?_)
    · replace hf := it_p c3 hf
      refine lv_bipush (v := (-2 : Int32)) hx hb dX5_factor_32 (by decide) ?_
      obtain rfl := Option.some.inj hf
      rw [hQ]
      exact W.iret hx hb hr (fun t ht hW => ⟨rfl, ⟨by rw [ht]; exact hP, hD⟩, hS.F ht⟩) hS.2.2 dX5_factor_34
    · replace hf := it_n c3 hf
      refine lv_iload_n hx hb dX5_factor_7 rfl (lv_at hl 2 rfl) ?_
      obtain ⟨r4, hc5, hf⟩ := bind_s hf
      refine cpS (v := .int r4) ⟨hx, hb, hml, hown, hts⟩ (ct_X5_isYear l dC dI cI cJ cZ x2 r4 hc5) (va_cwS 1 hts gX5_factor_X5_isYear rfl rfl rfl (by decide +kernel) ⟨(Nat.le_of_ble_eq_true rfl), (Nat.le_of_ble_eq_true rfl)⟩) hK hP [] rfl rfl hl.1 rfl (Nat.le_of_ble_eq_true rfl) (Nat.le_of_ble_eq_true rfl) (Nat.le_of_ble_eq_true rfl) dX5_factor_8 ?_
      refine lv_if_eq (tgt := 32) hx hb dX5_factor_11 (by decide) (fun c6 => ?_) (fun c6 => ?_)
      · replace hf := it_p c6 hf
        refine lv_bipush (v := (-2 : Int32)) hx hb dX5_factor_32 (by decide) ?_
        obtain rfl := Option.some.inj hf
        rw [hQ]
        exact W.iret hx hb hr (fun t ht hW => ⟨rfl, ⟨by rw [ht]; exact hP, hD⟩, hS.F ht⟩) hS.2.2 dX5_factor_34
      · replace hf := it_n c6 hf
        refine lv_iload_n hx hb dX5_factor_14 rfl (lv_at hl 3 rfl) ?_
        refine lv_if_lt (tgt := 32) hx hb dX5_factor_15 (by decide) (fun c7 => ?_) (fun c7 => ?_)
        · replace hf := it_p c7 hf
          refine lv_bipush (v := (-2 : Int32)) hx hb dX5_factor_32 (by decide) ?_
          obtain rfl := Option.some.inj hf
          rw [hQ]
          exact W.iret hx hb hr (fun t ht hW => ⟨rfl, ⟨by rw [ht]; exact hP, hD⟩, hS.F ht⟩) hS.2.2 dX5_factor_34
        · replace hf := it_n c7 hf
          refine lv_iload_n hx hb dX5_factor_18 rfl (lv_at hl 3 rfl) ?_
          refine lv_iload hx hb dX5_factor_19 (lv_at hl 4 rfl) ?_
          refine lv_icmp_gt (tgt := 32) hx hb dX5_factor_21 (by decide) (fun c8 => ?_) (fun c8 => ?_)
          · replace hf := it_p c8 hf
            refine lv_bipush (v := (-2 : Int32)) hx hb dX5_factor_32 (by decide) ?_
            obtain rfl := Option.some.inj hf
            rw [hQ]
            exact W.iret hx hb hr (fun t ht hW => ⟨rfl, ⟨by rw [ht]; exact hP, hD⟩, hS.F ht⟩) hS.2.2 dX5_factor_34
          · replace hf := it_n c8 hf
            refine lv_iload hx hb dX5_factor_24 (lv_at hl 4 rfl) ?_
            refine lv_sipush (v := (1000 : Int32)) hx hb dX5_factor_26 (by decide) ?_
            refine lv_icmp_le (tgt := 35) hx hb dX5_factor_29 (by decide) (fun c9 => ?_) (fun c9 => ?_)
            · replace hf := it_p c9 hf
              refine lv_aload_n hx hb dX5_factor_35 rfl (lv_at hl 0 rfl) ?_
              refine va_get (D := (dC, dI)) (ci := 5) (v := .ref (a 19)) (C := RX5) (T := TX5) (N := 5) hx hb hts kX5_factor_X5 hown hK hP 0 rfl rfl 2 (by decide) (hts _ mX5_factor_1) (fun _ h9 => h9) rfl dX5_factor_36 ?_
              refine lv_iload_n hx hb dX5_factor_39 rfl (lv_at hl 1 rfl) ?_
              refine lv_iload_n hx hb dX5_factor_40 rfl (lv_at hl 2 rfl) ?_
              refine lv_iload_n hx hb dX5_factor_41 rfl (lv_at hl 3 rfl) ?_
              refine lv_iload hx hb dX5_factor_42 (lv_at hl 4 rfl) ?_
              obtain ⟨p10, hc11, hf⟩ := bind_s hf
              refine cmV (wr := (a 0, .inr (5, [.ref (a 1), .ref (a 12), .ref (a 19), .ref (a 24), .int (LG_units st)])) :: (WX1 a b cI cJ cZ (LG_H st) ++ (WX2 a b cI cJ cZ (LG_R st) ++ (WX3 a b cI cJ cZ (LG_S st))))) ⟨hx, hb, hml, hown, hts⟩ (ct_X0_add l dC dI a b cI cJ cZ H.size (LG_F st) x1 x2 x3 x4 p10 hc11) (cwV 4 hts gX5_factor_X0_add rfl rfl rfl (by decide +kernel) ⟨(Nat.le_of_ble_eq_true rfl), (Nat.le_of_ble_eq_true rfl)⟩) hK hP hD hS hA [19, 20, 21, 22, 23] [0, 1, 2, 3, 4, 5, 6, 7, 8, 9, 10, 11, 12, 13, 14, 15, 16, 17, 18, 24, 25, 26, 27] rfl rfl (by decide) rfl (by decide) (by decide) rfl rfl rfl hl.1 rfl (Nat.le_of_ble_eq_true rfl) (Nat.le_of_ble_eq_true rfl) (Nat.le_of_ble_eq_true rfl) dX5_factor_44 (fun H locs hP hD hS => ?_)
              replace hP : va_P (dC, dI) vwCl (WX5 a b cI cJ cZ (LG_mk (LG_H st) (LG_R st) p10.2 (LG_S st) (LG_units st))) H := hP.sub [0, 1, 2, 3, 4, 5, 6, 7, 8, 9, 10, 11, 12, 13, 14, 15, 16, 17, 18, 23, 24, 25, 26, 27, 19, 20, 21, 22] rfl
              replace hD : va_D A (WX5 a b cI cJ cZ (LG_mk (LG_H st) (LG_R st) p10.2 (LG_S st) (LG_units st))) := hD.sub [0, 1, 2, 3, 4, 5, 6, 7, 8, 9, 10, 11, 12, 13, 14, 15, 16, 17, 18, 23, 24, 25, 26, 27, 19, 20, 21, 22] (by decide) rfl
              refine W.eq (g2 := F0 m 47 ls [.int p10.1]) rfl ?_
              obtain rfl := Option.some.inj hf
              rw [hQ]
              exact W.iret hx hb hr (fun t ht hW => ⟨rfl, ⟨by rw [ht]; exact hP, hD⟩, hS.F ht⟩) hS.2.2 dX5_factor_47
            · replace hf := it_n c9 hf
              refine lv_bipush (v := (-2 : Int32)) hx hb dX5_factor_32 (by decide) ?_
              obtain rfl := Option.some.inj hf
              rw [hQ]
              exact W.iret hx hb hr (fun t ht hW => ⟨rfl, ⟨by rw [ht]; exact hP, hD⟩, hS.F ht⟩) hS.2.2 dX5_factor_34
  exact main s.heap [] ls ⟨hP, hD, va_S.rf⟩ hl
def rX5_isAsOf : Room := { frames := 0, cells := 0, slots := 0, locals := 0 }
theorem kX5_isAsOf_X5 : ∀ w ∈ wsX50, w ∈ wsX5_isAsOf := fun w h => (List.mem_cons_of_mem _ (List.mem_append_left _ (List.mem_append_right _ h)))
theorem mX5_isAsOf_1 : Cond.fieldLink RX5 26 "SmokeLedger" "factors" "LSmokeLedger$Factors;" ∈ wsX5_isAsOf := List.mem_of_getElem? (i := 1) rfl
theorem kX5_isAsOf_X0 : ∀ w ∈ wsX00, w ∈ wsX5_isAsOf := fun w h => (List.mem_cons_of_mem _ (List.mem_append_right _ h))
theorem mX5_isAsOf_2 : Cond.fieldLink RX5 193 "SmokeLedger$Factors" "size" "I" ∈ wsX5_isAsOf := List.mem_of_getElem? (i := 2) rfl
set_option maxHeartbeats 4000000 in
set_option maxRecDepth 100000 in
theorem ct_X5_isAsOf (l : Launch) (dC : Nat → ClassId) (dI : Nat → Nat → Nat) (a b : Nat → Nat) (cI cJ cZ : ClassId) (st : LG) (x1 : Int32) (res : Int32) (hf : fX5_isAsOf st x1 = some res) : Met l yX5_isAsOf wsX5_isAsOf rX5_isAsOf (Pp (dC, dI) (tyT cI cJ cZ) (WX5 a b cI cJ cZ st) [.ref (a 0), .int x1]) (Qp (.int res)) 0 0 (fun _ => False) := by
  refine Met.ofW (cc := cX5_isAsOf) (maxL := 2) (ret := (some .boolean)) (by decide) rfl ?_
  intro p e s m args below meth c s₁ B hml hv
  obtain ⟨hargs, hP, hK⟩ := hv
  have hx := B.exec
  have hb := B.bytes
  have hr := B.returns
  have hts := atoms_spec (ws := wsX5_isAsOf) B.pre
  have hown : s.vm.findClass RX5 = some m.cls := findClass_of_methodNamed B.named
  have hlocks := B.notSynchronized
  have hP : va_P (dC, dI) vwCl (WX5 a b cI cJ cZ st) s.heap := hP
  have hl := lv_entry ([.ref (a 0), .int x1]) (n := 2) (Nat.le_of_ble_eq_true rfl)
  refine W.eq (hargs ▸ lg_entry_eq m [.ref (a 0), .int x1] 2) ?_
  generalize (lg_sl ([.ref (a 0), .int x1]) ++ List.replicate (2 - (lg_sl ([.ref (a 0), .int x1])).length) Slot.unset).toArray = ls at hl ⊢
  have hl : lv_has ls 2 [(0, .ref (a 0)), (1, .int x1)] := hl
  obtain ⟨QQ, hQ⟩ : ∃ QQ : State → Prop, QQ = MQ below (Qp (.int res)) args s 0 0 (fun _ => False) := ⟨_, rfl⟩
  rw [← hQ]
  have b21 : fX5_isAsOf_b21 st = some res → (∀ (ls : Array Slot), lv_has ls 2 [] → W p l e (headSpec wsX5_isAsOf rX5_isAsOf).room s m args below meth c s.heap [] 0 0 QQ (F0 m 21 ls [])) := by
    intro hf
    intro ls hl
    unfold fX5_isAsOf_b21 at hf
    refine lv_iconst (v := (1 : Int32)) hx hb dX5_isAsOf_21 (by decide) ?_
    refine lv_goto (tgt := 26) hx hb dX5_isAsOf_22 (by decide) ?_
    obtain rfl := Option.some.inj hf
    rw [hQ]
    exact W.zret hx hb hr rfl (fun t ht hW => ⟨rfl, ht⟩) (fun q hq => absurd hq List.not_mem_nil) dX5_isAsOf_26
  unfold fX5_isAsOf at hf
  refine lv_iload_n hx hb dX5_isAsOf_0 rfl (lv_at hl 1 rfl) ?_
  refine lv_bipush (v := (-9 : Int32)) hx hb dX5_isAsOf_1 (by decide) ?_
  refine lv_icmp_eq (tgt := 21) hx hb dX5_isAsOf_3 (by decide) (fun c1 => ?_) (fun c1 => ?_)
  · replace hf := it_p c1 hf
    exact b21  hf ls (lv_sub hl [] rfl)
  · replace hf := it_n c1 hf
    refine lv_iload_n hx hb dX5_isAsOf_6 rfl (lv_at hl 1 rfl) ?_
    refine lv_if_lt (tgt := 25) hx hb dX5_isAsOf_7 (by decide) (fun c2 => ?_) (fun c2 => ?_)
    · replace hf := it_p c2 hf
      refine lv_iconst (v := (0 : Int32)) hx hb dX5_isAsOf_25 (by decide) ?_
      obtain rfl := Option.some.inj hf
      rw [hQ]
      exact W.zret hx hb hr rfl (fun t ht hW => ⟨rfl, ht⟩) (fun q hq => absurd hq List.not_mem_nil) dX5_isAsOf_26
    · replace hf := it_n c2 hf
      refine lv_iload_n hx hb dX5_isAsOf_10 rfl (lv_at hl 1 rfl) ?_
      refine lv_aload_n hx hb dX5_isAsOf_11 rfl (lv_at hl 0 rfl) ?_
      refine va_get (D := (dC, dI)) (ci := 5) (v := .ref (a 19)) (C := RX5) (T := TX5) (N := 5) hx hb hts kX5_isAsOf_X5 hown hK hP 0 rfl rfl 2 (by decide) (hts _ mX5_isAsOf_1) (fun _ h9 => h9) rfl dX5_isAsOf_12 ?_
      refine va_get (D := (dC, dI)) (ci := 0) (v := .int (FS_size (LG_F st))) (C := RX0) (T := TX0) (N := 5) hx hb hts kX5_isAsOf_X0 hown hK hP 19 rfl rfl 4 (by decide) (hts _ mX5_isAsOf_2) (fun _ h9 => h9) rfl dX5_isAsOf_15 ?_
      refine lv_icmp_ge (tgt := 25) hx hb dX5_isAsOf_18 (by decide) (fun c3 => ?_) (fun c3 => ?_)
      · replace hf := it_p c3 hf
        refine lv_iconst (v := (0 : Int32)) hx hb dX5_isAsOf_25 (by decide) ?_
        obtain rfl := Option.some.inj hf
        rw [hQ]
        exact W.zret hx hb hr rfl (fun t ht hW => ⟨rfl, ht⟩) (fun q hq => absurd hq List.not_mem_nil) dX5_isAsOf_26
      · replace hf := it_n c3 hf
        exact b21  hf ls (lv_sub hl [] rfl)
def rX5_factorAs : Room := { frames := 1, cells := 0, slots := 0, locals := 26 }
theorem kX5_factorAs_X5 : ∀ w ∈ wsX50, w ∈ wsX5_factorAs := fun w h => (List.mem_cons_of_mem _ (List.mem_append_left _ (List.mem_append_right _ h)))
theorem mX5_factorAs_1 : Cond.fieldLink RX5 26 "SmokeLedger" "factors" "LSmokeLedger$Factors;" ∈ wsX5_factorAs := List.mem_of_getElem? (i := 1) rfl
set_option maxHeartbeats 4000000 in
set_option maxRecDepth 100000 in
theorem ct_X5_factorAs (l : Launch) (dC : Nat → ClassId) (dI : Nat → Nat → Nat) (a b : Nat → Nat) (cI cJ cZ : ClassId) (st : LG) (x1 : Int32) (x2 : Int32) (x3 : Int32) (x4 : Int32) (res : Int32) (hf : fX5_factorAs st x1 x2 x3 x4 = some res) : Met l yX5_factorAs wsX5_factorAs rX5_factorAs (Pp (dC, dI) (tyT cI cJ cZ) (WX5 a b cI cJ cZ st) [.ref (a 0), .int x1, .int x2, .int x3, .int x4]) (Qp (.int res)) 0 0 (fun _ => False) := by
  refine Met.ofW (cc := cX5_factorAs) (maxL := 5) (ret := (some .int)) (by decide) rfl ?_
  intro p e s m args below meth c s₁ B hml hv
  obtain ⟨hargs, hP, hK⟩ := hv
  have hx := B.exec
  have hb := B.bytes
  have hr := B.returns
  have hts := atoms_spec (ws := wsX5_factorAs) B.pre
  have hown : s.vm.findClass RX5 = some m.cls := findClass_of_methodNamed B.named
  have hlocks := B.notSynchronized
  have hP : va_P (dC, dI) vwCl (WX5 a b cI cJ cZ st) s.heap := hP
  have hl := lv_entry ([.ref (a 0), .int x1, .int x2, .int x3, .int x4]) (n := 5) (Nat.le_of_ble_eq_true rfl)
  refine W.eq (hargs ▸ lg_entry_eq m [.ref (a 0), .int x1, .int x2, .int x3, .int x4] 5) ?_
  generalize (lg_sl ([.ref (a 0), .int x1, .int x2, .int x3, .int x4]) ++ List.replicate (5 - (lg_sl ([.ref (a 0), .int x1, .int x2, .int x3, .int x4])).length) Slot.unset).toArray = ls at hl ⊢
  have hl : lv_has ls 5 [(0, .ref (a 0)), (1, .int x1), (2, .int x2), (3, .int x3), (4, .int x4)] := hl
  obtain ⟨QQ, hQ⟩ : ∃ QQ : State → Prop, QQ = MQ below (Qp (.int res)) args s 0 0 (fun _ => False) := ⟨_, rfl⟩
  rw [← hQ]
  unfold fX5_factorAs at hf
  refine lv_aload_n hx hb dX5_factorAs_0 rfl (lv_at hl 0 rfl) ?_
  refine lv_iload_n hx hb dX5_factorAs_1 rfl (lv_at hl 3 rfl) ?_
  obtain ⟨r1, hc2, hf⟩ := bind_s hf
  refine cpV (v := .int r1) ⟨hx, hb, hml, hown, hts⟩ (ct_X5_isAsOf l dC dI a b cI cJ cZ st x3 r1 hc2) (cwV 1 hts gX5_factorAs_X5_isAsOf rfl rfl rfl (by decide +kernel) ⟨(Nat.le_of_ble_eq_true rfl), (Nat.le_of_ble_eq_true rfl)⟩) hK hP [0, 1, 2, 3, 4, 5, 6, 7, 8, 9, 10, 11, 12, 13, 14, 15, 16, 17, 18, 19, 20, 21, 22, 23, 24, 25, 26, 27] rfl rfl rfl rfl hl.1 rfl (Nat.le_of_ble_eq_true rfl) (Nat.le_of_ble_eq_true rfl) (Nat.le_of_ble_eq_true rfl) dX5_factorAs_2 ?_
  refine lv_if_ne (tgt := 10) hx hb dX5_factorAs_5 (by decide) (fun c3 => ?_) (fun c3 => ?_)
  · replace hf := it_n c3 hf
    refine lv_iload_n hx hb dX5_factorAs_10 rfl (lv_at hl 1 rfl) ?_
    obtain ⟨r4, hc5, hf⟩ := bind_s hf
    refine cpS (v := .int r4) ⟨hx, hb, hml, hown, hts⟩ (ct_X5_isKind l dC dI cI cJ cZ x1 r4 hc5) (va_cwS 1 hts gX5_factorAs_X5_isKind rfl rfl rfl (by decide +kernel) ⟨(Nat.le_of_ble_eq_true rfl), (Nat.le_of_ble_eq_true rfl)⟩) hK hP [] rfl rfl hl.1 rfl (Nat.le_of_ble_eq_true rfl) (Nat.le_of_ble_eq_true rfl) (Nat.le_of_ble_eq_true rfl) dX5_factorAs_11 ?_
    refine lv_if_eq (tgt := 24) hx hb dX5_factorAs_14 (by decide) (fun c6 => ?_) (fun c6 => ?_)
    · replace hf := it_p c6 hf
      refine lv_bipush (v := (-2 : Int32)) hx hb dX5_factorAs_24 (by decide) ?_
      obtain rfl := Option.some.inj hf
      rw [hQ]
      exact W.iret hx hb hr (fun t ht hW => ⟨rfl, ht⟩) (fun q hq => absurd hq List.not_mem_nil) dX5_factorAs_26
    · replace hf := it_n c6 hf
      refine lv_iload_n hx hb dX5_factorAs_17 rfl (lv_at hl 2 rfl) ?_
      obtain ⟨r7, hc8, hf⟩ := bind_s hf
      refine cpS (v := .int r7) ⟨hx, hb, hml, hown, hts⟩ (ct_X5_isYear l dC dI cI cJ cZ x2 r7 hc8) (va_cwS 1 hts gX5_factorAs_X5_isYear rfl rfl rfl (by decide +kernel) ⟨(Nat.le_of_ble_eq_true rfl), (Nat.le_of_ble_eq_true rfl)⟩) hK hP [] rfl rfl hl.1 rfl (Nat.le_of_ble_eq_true rfl) (Nat.le_of_ble_eq_true rfl) (Nat.le_of_ble_eq_true rfl) dX5_factorAs_18 ?_
      refine lv_if_ne (tgt := 27) hx hb dX5_factorAs_21 (by decide) (fun c9 => ?_) (fun c9 => ?_)
      · replace hf := it_n c9 hf
        refine lv_aload_n hx hb dX5_factorAs_27 rfl (lv_at hl 0 rfl) ?_
        refine va_get (D := (dC, dI)) (ci := 5) (v := .ref (a 19)) (C := RX5) (T := TX5) (N := 5) hx hb hts kX5_factorAs_X5 hown hK hP 0 rfl rfl 2 (by decide) (hts _ mX5_factorAs_1) (fun _ h9 => h9) rfl dX5_factorAs_28 ?_
        refine lv_aload_n hx hb dX5_factorAs_31 rfl (lv_at hl 0 rfl) ?_
        refine va_get (D := (dC, dI)) (ci := 5) (v := .ref (a 19)) (C := RX5) (T := TX5) (N := 5) hx hb hts kX5_factorAs_X5 hown hK hP 0 rfl rfl 2 (by decide) (hts _ mX5_factorAs_1) (fun _ h9 => h9) rfl dX5_factorAs_32 ?_
        refine lv_iload_n hx hb dX5_factorAs_35 rfl (lv_at hl 1 rfl) ?_
        refine lv_iload_n hx hb dX5_factorAs_36 rfl (lv_at hl 2 rfl) ?_
        refine lv_iload_n hx hb dX5_factorAs_37 rfl (lv_at hl 3 rfl) ?_
        obtain ⟨r10, hc11, hf⟩ := bind_s hf
        refine cpV (v := .int r10) ⟨hx, hb, hml, hown, hts⟩ (ct_X0_versionFor l dC dI a b cI cJ cZ (LG_F st) x1 x2 x3 r10 hc11) (cwV 3 hts gX5_factorAs_X0_versionFor rfl rfl rfl (by decide +kernel) ⟨(Nat.le_of_ble_eq_true rfl), (Nat.le_of_ble_eq_true rfl)⟩) hK hP [19, 20, 21, 22, 23] rfl rfl rfl rfl hl.1 rfl (Nat.le_of_ble_eq_true rfl) (Nat.le_of_ble_eq_true rfl) (Nat.le_of_ble_eq_true rfl) dX5_factorAs_38 ?_
        refine lv_iload hx hb dX5_factorAs_41 (lv_at hl 4 rfl) ?_
        obtain ⟨r12, hc13, hf⟩ := bind_s hf
        refine cpV (v := .int r12) ⟨hx, hb, hml, hown, hts⟩ (ct_X0_endOf l dC dI a b cI cJ cZ (LG_F st) r10 x4 r12 hc13) (cwV 2 hts gX5_factorAs_X0_endOf rfl rfl rfl (by decide +kernel) ⟨(Nat.le_of_ble_eq_true rfl), (Nat.le_of_ble_eq_true rfl)⟩) hK hP [19, 20, 21, 22, 23] rfl rfl rfl rfl hl.1 rfl (Nat.le_of_ble_eq_true rfl) (Nat.le_of_ble_eq_true rfl) (Nat.le_of_ble_eq_true rfl) dX5_factorAs_43 ?_
        obtain rfl := Option.some.inj hf
        rw [hQ]
        exact W.iret hx hb hr (fun t ht hW => ⟨rfl, ht⟩) (fun q hq => absurd hq List.not_mem_nil) dX5_factorAs_46
      · replace hf := it_p c9 hf
        refine lv_bipush (v := (-2 : Int32)) hx hb dX5_factorAs_24 (by decide) ?_
        obtain rfl := Option.some.inj hf
        rw [hQ]
        exact W.iret hx hb hr (fun t ht hW => ⟨rfl, ht⟩) (fun q hq => absurd hq List.not_mem_nil) dX5_factorAs_26
  · replace hf := it_p c3 hf
    refine lv_iconst (v := (-1 : Int32)) hx hb dX5_factorAs_8 (by decide) ?_
    obtain rfl := Option.some.inj hf
    rw [hQ]
    exact W.iret hx hb hr (fun t ht hW => ⟨rfl, ht⟩) (fun q hq => absurd hq List.not_mem_nil) dX5_factorAs_9
def rX5_versionOf : Room := { frames := 1, cells := 0, slots := 0, locals := 26 }
theorem kX5_versionOf_X5 : ∀ w ∈ wsX50, w ∈ wsX5_versionOf := fun w h => (List.mem_cons_of_mem _ (List.mem_append_left _ (List.mem_append_left _ (List.mem_append_right _ h))))
theorem mX5_versionOf_1 : Cond.fieldLink RX5 26 "SmokeLedger" "factors" "LSmokeLedger$Factors;" ∈ wsX5_versionOf := List.mem_of_getElem? (i := 1) rfl
theorem mX5_versionOf_2 : Cond.fieldLink RX5 19 "SmokeLedger" "rows" "LSmokeLedger$Rows;" ∈ wsX5_versionOf := List.mem_of_getElem? (i := 2) rfl
theorem kX5_versionOf_X2 : ∀ w ∈ wsX20, w ∈ wsX5_versionOf := fun w h => (List.mem_cons_of_mem _ (List.mem_append_left _ (List.mem_append_right _ h)))
theorem mX5_versionOf_3 : Cond.fieldLink RX5 90 "SmokeLedger$Rows" "kind" "[I" ∈ wsX5_versionOf := List.mem_of_getElem? (i := 3) rfl
set_option maxHeartbeats 4000000 in
set_option maxRecDepth 100000 in
theorem ct_X5_versionOf (l : Launch) (dC : Nat → ClassId) (dI : Nat → Nat → Nat) (a b : Nat → Nat) (cI cJ cZ : ClassId) (st : LG) (x1 : Int32) (x2 : Int32) (res : Int32) (hf : fX5_versionOf st x1 x2 = some res) : Met l yX5_versionOf wsX5_versionOf rX5_versionOf (Pp (dC, dI) (tyT cI cJ cZ) (WX5 a b cI cJ cZ st) [.ref (a 0), .int x1, .int x2]) (Qp (.int res)) 0 0 (fun _ => False) := by
  refine Met.ofW (cc := cX5_versionOf) (maxL := 3) (ret := (some .int)) (by decide) rfl ?_
  intro p e s m args below meth c s₁ B hml hv
  obtain ⟨hargs, hP, hK⟩ := hv
  have hx := B.exec
  have hb := B.bytes
  have hr := B.returns
  have hts := atoms_spec (ws := wsX5_versionOf) B.pre
  have hown : s.vm.findClass RX5 = some m.cls := findClass_of_methodNamed B.named
  have hlocks := B.notSynchronized
  have hP : va_P (dC, dI) vwCl (WX5 a b cI cJ cZ st) s.heap := hP
  have hl := lv_entry ([.ref (a 0), .int x1, .int x2]) (n := 3) (Nat.le_of_ble_eq_true rfl)
  refine W.eq (hargs ▸ lg_entry_eq m [.ref (a 0), .int x1, .int x2] 3) ?_
  generalize (lg_sl ([.ref (a 0), .int x1, .int x2]) ++ List.replicate (3 - (lg_sl ([.ref (a 0), .int x1, .int x2])).length) Slot.unset).toArray = ls at hl ⊢
  have hl : lv_has ls 3 [(0, .ref (a 0)), (1, .int x1), (2, .int x2)] := hl
  obtain ⟨QQ, hQ⟩ : ∃ QQ : State → Prop, QQ = MQ below (Qp (.int res)) args s 0 0 (fun _ => False) := ⟨_, rfl⟩
  rw [← hQ]
  unfold fX5_versionOf at hf
  refine lv_aload_n hx hb dX5_versionOf_0 rfl (lv_at hl 0 rfl) ?_
  refine va_get (D := (dC, dI)) (ci := 5) (v := .ref (a 19)) (C := RX5) (T := TX5) (N := 5) hx hb hts kX5_versionOf_X5 hown hK hP 0 rfl rfl 2 (by decide) (hts _ mX5_versionOf_1) (fun _ h9 => h9) rfl dX5_versionOf_1 ?_
  refine lv_aload_n hx hb dX5_versionOf_4 rfl (lv_at hl 0 rfl) ?_
  refine va_get (D := (dC, dI)) (ci := 5) (v := .ref (a 12)) (C := RX5) (T := TX5) (N := 5) hx hb hts kX5_versionOf_X5 hown hK hP 0 rfl rfl 1 (by decide) (hts _ mX5_versionOf_2) (fun _ h9 => h9) rfl dX5_versionOf_5 ?_
  refine va_get (D := (dC, dI)) (ci := 2) (v := .ref (a 14)) (C := RX2) (T := TX2) (N := 7) hx hb hts kX5_versionOf_X2 hown hK hP 12 rfl rfl 1 (by decide) (hts _ mX5_versionOf_3) (fun _ h9 => h9) rfl dX5_versionOf_8 ?_
  refine lv_iload_n hx hb dX5_versionOf_11 rfl (lv_at hl 1 rfl) ?_
  obtain ⟨hi1, hf⟩ := it_s hf
  refine va_iald hx hb hK hP 14 0 rfl rfl (inb_in hi1) dX5_versionOf_12 ?_
  refine lv_aload_n hx hb dX5_versionOf_13 rfl (lv_at hl 0 rfl) ?_
  refine va_get (D := (dC, dI)) (ci := 5) (v := .ref (a 12)) (C := RX5) (T := TX5) (N := 5) hx hb hts kX5_versionOf_X5 hown hK hP 0 rfl rfl 1 (by decide) (hts _ mX5_versionOf_2) (fun _ h9 => h9) rfl dX5_versionOf_14 ?_
  refine lv_iload_n hx hb dX5_versionOf_17 rfl (lv_at hl 1 rfl) ?_
  obtain ⟨r2, hc3, hf⟩ := bind_s hf
  refine cpV (v := .int r2) ⟨hx, hb, hml, hown, hts⟩ (ct_X2_yearOf l dC dI a b cI cJ cZ (LG_R st) x1 r2 hc3) (cwV 1 hts gX5_versionOf_X2_yearOf rfl rfl rfl (by decide +kernel) ⟨(Nat.le_of_ble_eq_true rfl), (Nat.le_of_ble_eq_true rfl)⟩) hK hP [12, 13, 14, 15, 16, 17, 18] rfl rfl rfl rfl hl.1 rfl (Nat.le_of_ble_eq_true rfl) (Nat.le_of_ble_eq_true rfl) (Nat.le_of_ble_eq_true rfl) dX5_versionOf_18 ?_
  refine lv_iload_n hx hb dX5_versionOf_21 rfl (lv_at hl 2 rfl) ?_
  obtain ⟨r4, hc5, hf⟩ := bind_s hf
  refine cpV (v := .int r4) ⟨hx, hb, hml, hown, hts⟩ (ct_X0_versionFor l dC dI a b cI cJ cZ (LG_F st) ((RS_kind (LG_R st)) (x1).toNatClampNeg) r2 x2 r4 hc5) (cwV 3 hts gX5_versionOf_X0_versionFor rfl rfl rfl (by decide +kernel) ⟨(Nat.le_of_ble_eq_true rfl), (Nat.le_of_ble_eq_true rfl)⟩) hK hP [19, 20, 21, 22, 23] rfl rfl rfl rfl hl.1 rfl (Nat.le_of_ble_eq_true rfl) (Nat.le_of_ble_eq_true rfl) (Nat.le_of_ble_eq_true rfl) dX5_versionOf_22 ?_
  obtain rfl := Option.some.inj hf
  rw [hQ]
  exact W.iret hx hb hr (fun t ht hW => ⟨rfl, ht⟩) (fun q hq => absurd hq List.not_mem_nil) dX5_versionOf_25
def rX5_tonsOf : Room := { frames := 2, cells := 0, slots := 0, locals := 48 }
theorem kX5_tonsOf_X5 : ∀ w ∈ wsX50, w ∈ wsX5_tonsOf := fun w h => (List.mem_cons_of_mem _ (List.mem_append_left _ (List.mem_append_left _ (List.mem_append_left _ (List.mem_append_right _ h)))))
theorem mX5_tonsOf_1 : Cond.fieldLink RX5 26 "SmokeLedger" "factors" "LSmokeLedger$Factors;" ∈ wsX5_tonsOf := List.mem_of_getElem? (i := 1) rfl
theorem kX5_tonsOf_X4 : ∀ w ∈ wsX40, w ∈ wsX5_tonsOf := fun w h => (List.mem_cons_of_mem _ (List.mem_append_left _ (List.mem_append_left _ (List.mem_append_right _ h))))
theorem mX5_tonsOf_2 : Cond.fieldLink RX5 201 "SmokeLedger$Way" "as" "I" ∈ wsX5_tonsOf := List.mem_of_getElem? (i := 2) rfl
theorem mX5_tonsOf_3 : Cond.fieldLink RX5 207 "SmokeLedger$Way" "high" "Z" ∈ wsX5_tonsOf := List.mem_of_getElem? (i := 3) rfl
theorem mX5_tonsOf_5 : Cond.fieldLink RX5 211 "SmokeLedger$Way" "market" "Z" ∈ wsX5_tonsOf := List.mem_of_getElem? (i := 5) rfl
theorem mX5_tonsOf_6 : Cond.fieldLink RX5 19 "SmokeLedger" "rows" "LSmokeLedger$Rows;" ∈ wsX5_tonsOf := List.mem_of_getElem? (i := 6) rfl
theorem kX5_tonsOf_X2 : ∀ w ∈ wsX20, w ∈ wsX5_tonsOf := fun w h => (List.mem_cons_of_mem _ (List.mem_append_left _ (List.mem_append_right _ h)))
theorem mX5_tonsOf_8 : Cond.fieldLink RX5 93 "SmokeLedger$Rows" "amount" "[I" ∈ wsX5_tonsOf := List.mem_of_getElem? (i := 8) rfl
theorem mX5_tonsOf_7 : Cond.fieldLink RX5 90 "SmokeLedger$Rows" "kind" "[I" ∈ wsX5_tonsOf := List.mem_of_getElem? (i := 7) rfl
theorem mX5_tonsOf_4 : Cond.constantLong RX5 146 (-9) ∈ wsX5_tonsOf := List.mem_of_getElem? (i := 4) rfl
set_option maxHeartbeats 4000000 in
set_option maxRecDepth 100000 in
theorem ct_X5_tonsOf (l : Launch) (dC : Nat → ClassId) (dI : Nat → Nat → Nat) (a b : Nat → Nat) (cI cJ cZ : ClassId) (w : Nat) (wa : Int32) (wm : Int32) (wo : Int32) (wh : Int32) (st : LG) (x1 : Int32) (res : Int64) (hf : fX5_tonsOf wa wm wo wh st x1 = some res) : Met l yX5_tonsOf wsX5_tonsOf rX5_tonsOf (Pp (dC, dI) (tyT cI cJ cZ) (WX5 a b cI cJ cZ st ++ [wayC w wa wm wo wh]) [.ref (a 0), .int x1, .ref w]) (Qp (.long res)) 0 0 (fun _ => False) := by
  refine Met.ofW (cc := cX5_tonsOf) (maxL := 6) (ret := (some .long)) (by decide) rfl ?_
  intro p e s m args below meth c s₁ B hml hv
  obtain ⟨hargs, hP, hK⟩ := hv
  have hx := B.exec
  have hb := B.bytes
  have hr := B.returns
  have hts := atoms_spec (ws := wsX5_tonsOf) B.pre
  have hown : s.vm.findClass RX5 = some m.cls := findClass_of_methodNamed B.named
  have hlocks := B.notSynchronized
  have hP : va_P (dC, dI) vwCl (WX5 a b cI cJ cZ st ++ [wayC w wa wm wo wh]) s.heap := hP
  have hl := lv_entry ([.ref (a 0), .int x1, .ref w]) (n := 6) (Nat.le_of_ble_eq_true rfl)
  refine W.eq (hargs ▸ lg_entry_eq m [.ref (a 0), .int x1, .ref w] 6) ?_
  generalize (lg_sl ([.ref (a 0), .int x1, .ref w]) ++ List.replicate (6 - (lg_sl ([.ref (a 0), .int x1, .ref w])).length) Slot.unset).toArray = ls at hl ⊢
  have hl : lv_has ls 6 [(0, .ref (a 0)), (1, .int x1), (2, .ref w)] := hl
  obtain ⟨QQ, hQ⟩ : ∃ QQ : State → Prop, QQ = MQ below (Qp (.long res)) args s 0 0 (fun _ => False) := ⟨_, rfl⟩
  rw [← hQ]
  have b83 : ∀ (x3 : Int32) (k0 : Int32), fX5_tonsOf_b83 wa wm wo wh st x3 k0 = some res → (∀ (ls : Array Slot), lv_has ls 6 [(3, .int x3)] → W p l e (headSpec wsX5_tonsOf rX5_tonsOf).room s m args below meth c s.heap [] 0 0 QQ (F0 m 83 ls [.int k0])) := by
    intro x3 k0 hf
    intro ls hl
    unfold fX5_tonsOf_b83 at hf
    refine lv_istore (lv' := [(5, .int k0), (3, .int x3)]) hx hb dX5_tonsOf_83 hl (by decide) rfl (fun ls hl => ?_)
    refine lv_iload hx hb dX5_tonsOf_85 (lv_at hl 0 rfl) ?_
    refine lv_i2l hx hb dX5_tonsOf_87 rfl ?_
    refine lv_iload_n hx hb dX5_tonsOf_88 rfl (lv_at hl 1 rfl) ?_
    refine lv_i2l hx hb dX5_tonsOf_89 rfl ?_
    refine lv_lmul hx hb dX5_tonsOf_90 ?_
    obtain rfl := Option.some.inj hf
    rw [hQ]
    exact W.lret hx hb hr (fun t ht hW => ⟨rfl, ht⟩) (fun q hq => absurd hq List.not_mem_nil) dX5_tonsOf_91
  have b56 : ∀ (x1 : Int32) (x3 : Int32) (k0 : Int32), fX5_tonsOf_b56 wa wm wo wh st x1 x3 k0 = some res → (∀ (ls : Array Slot), lv_has ls 6 [(0, .ref (a 0)), (1, .int x1), (3, .int x3)] → W p l e (headSpec wsX5_tonsOf rX5_tonsOf).room s m args below meth c s.heap [] 0 0 QQ (F0 m 56 ls [.int k0])) := by
    intro x1 x3 k0 hf
    intro ls hl
    unfold fX5_tonsOf_b56 at hf
    refine lv_istore (lv' := [(4, .int k0), (0, .ref (a 0)), (1, .int x1), (3, .int x3)]) hx hb dX5_tonsOf_56 hl (by decide) rfl (fun ls hl => ?_)
    refine lv_iload hx hb dX5_tonsOf_58 (lv_at hl 0 rfl) ?_
    refine lv_if_eq (tgt := 74) hx hb dX5_tonsOf_60 (by decide) (fun c7 => ?_) (fun c7 => ?_)
    · replace hf := it_p c7 hf
      refine lv_aload_n hx hb dX5_tonsOf_74 rfl (lv_at hl 1 rfl) ?_
      refine va_get (D := (dC, dI)) (ci := 5) (v := .ref (a 12)) (C := RX5) (T := TX5) (N := 5) hx hb hts kX5_tonsOf_X5 hown hK hP 0 rfl rfl 1 (by decide) (hts _ mX5_tonsOf_6) (fun _ h9 => h9) rfl dX5_tonsOf_75 ?_
      refine va_get (D := (dC, dI)) (ci := 2) (v := .ref (a 15)) (C := RX2) (T := TX2) (N := 7) hx hb hts kX5_tonsOf_X2 hown hK hP 12 rfl rfl 2 (by decide) (hts _ mX5_tonsOf_8) (fun _ h9 => h9) rfl dX5_tonsOf_78 ?_
      refine lv_iload_n hx hb dX5_tonsOf_81 rfl (lv_at hl 2 rfl) ?_
      obtain ⟨hi8, hf⟩ := it_s hf
      refine va_iald hx hb hK hP 15 0 rfl rfl (inb_in hi8) dX5_tonsOf_82 ?_
      exact b83 x3 ((RS_amount (LG_R st)) (x1).toNatClampNeg) hf ls (lv_sub hl [3] rfl)
    · replace hf := it_n c7 hf
      refine lv_aload_n hx hb dX5_tonsOf_63 rfl (lv_at hl 1 rfl) ?_
      refine va_get (D := (dC, dI)) (ci := 5) (v := .ref (a 12)) (C := RX5) (T := TX5) (N := 5) hx hb hts kX5_tonsOf_X5 hown hK hP 0 rfl rfl 1 (by decide) (hts _ mX5_tonsOf_6) (fun _ h9 => h9) rfl dX5_tonsOf_64 ?_
      refine lv_iload_n hx hb dX5_tonsOf_67 rfl (lv_at hl 2 rfl) ?_
      obtain ⟨r9, hc10, hf⟩ := bind_s hf
      refine cpV (v := .int r9) ⟨hx, hb, hml, hown, hts⟩ (ct_X2_uncovered l dC dI a b cI cJ cZ (LG_R st) x1 r9 hc10) (cwV 1 hts gX5_tonsOf_X2_uncovered rfl rfl rfl (by decide +kernel) ⟨(Nat.le_of_ble_eq_true rfl), (Nat.le_of_ble_eq_true rfl)⟩) hK hP [12, 13, 14, 15, 16, 17, 18] rfl rfl rfl rfl hl.1 rfl (Nat.le_of_ble_eq_true rfl) (Nat.le_of_ble_eq_true rfl) (Nat.le_of_ble_eq_true rfl) dX5_tonsOf_68 ?_
      refine lv_goto (tgt := 83) hx hb dX5_tonsOf_71 (by decide) ?_
      exact b83 x3 r9 hf ls (lv_sub hl [3] rfl)
  have b55 : ∀ (x1 : Int32) (x3 : Int32), fX5_tonsOf_b55 wa wm wo wh st x1 x3 = some res → (∀ (ls : Array Slot), lv_has ls 6 [(0, .ref (a 0)), (1, .int x1), (3, .int x3)] → W p l e (headSpec wsX5_tonsOf rX5_tonsOf).room s m args below meth c s.heap [] 0 0 QQ (F0 m 55 ls [])) := by
    intro x1 x3 hf
    intro ls hl
    unfold fX5_tonsOf_b55 at hf
    refine lv_iconst (v := (0 : Int32)) hx hb dX5_tonsOf_55 (by decide) ?_
    exact b56 x1 x3 (0 : Int32) hf ls (lv_sub hl [0, 1, 2] rfl)
  unfold fX5_tonsOf at hf
  refine lv_aload_n hx hb dX5_tonsOf_0 rfl (lv_at hl 0 rfl) ?_
  refine va_get (D := (dC, dI)) (ci := 5) (v := .ref (a 19)) (C := RX5) (T := TX5) (N := 5) hx hb hts kX5_tonsOf_X5 hown hK hP 0 rfl rfl 2 (by decide) (hts _ mX5_tonsOf_1) (fun _ h9 => h9) rfl dX5_tonsOf_1 ?_
  refine lv_aload_n hx hb dX5_tonsOf_4 rfl (lv_at hl 0 rfl) ?_
  refine lv_iload_n hx hb dX5_tonsOf_5 rfl (lv_at hl 1 rfl) ?_
  refine lv_aload_n hx hb dX5_tonsOf_6 rfl (lv_at hl 2 rfl) ?_
  refine va_get (D := (dC, dI)) (ci := 4) (v := .int wa) (C := RX4) (T := TX4) (N := 4) hx hb hts kX5_tonsOf_X4 hown hK hP 28 rfl rfl 0 (by decide) (hts _ mX5_tonsOf_2) (fun _ h9 => h9) rfl dX5_tonsOf_7 ?_
  obtain ⟨r1, hc2, hf⟩ := bind_s hf
  refine cpV (v := .int r1) ⟨hx, hb, hml, hown, hts⟩ (ct_X5_versionOf l dC dI a b cI cJ cZ st x1 wa r1 hc2) (cwV 2 hts gX5_tonsOf_X5_versionOf rfl rfl rfl (by decide +kernel) ⟨(Nat.le_of_ble_eq_true rfl), (Nat.le_of_ble_eq_true rfl)⟩) hK hP [0, 1, 2, 3, 4, 5, 6, 7, 8, 9, 10, 11, 12, 13, 14, 15, 16, 17, 18, 19, 20, 21, 22, 23, 24, 25, 26, 27] rfl rfl rfl rfl hl.1 rfl (Nat.le_of_ble_eq_true rfl) (Nat.le_of_ble_eq_true rfl) (Nat.le_of_ble_eq_true rfl) dX5_tonsOf_10 ?_
  refine lv_aload_n hx hb dX5_tonsOf_13 rfl (lv_at hl 2 rfl) ?_
  refine va_get (D := (dC, dI)) (ci := 4) (v := .int wh) (C := RX4) (T := TX4) (N := 4) hx hb hts kX5_tonsOf_X4 hown hK hP 28 rfl rfl 3 (by decide) (hts _ mX5_tonsOf_3) (fun _ h9 => h9) rfl dX5_tonsOf_14 ?_
  obtain ⟨r3, hc4, hf⟩ := bind_s hf
  refine cpV (v := .int r3) ⟨hx, hb, hml, hown, hts⟩ (ct_X0_endOf l dC dI a b cI cJ cZ (LG_F st) r1 wh r3 hc4) (cwV 2 hts gX5_tonsOf_X0_endOf rfl rfl rfl (by decide +kernel) ⟨(Nat.le_of_ble_eq_true rfl), (Nat.le_of_ble_eq_true rfl)⟩) hK hP [19, 20, 21, 22, 23] rfl rfl rfl rfl hl.1 rfl (Nat.le_of_ble_eq_true rfl) (Nat.le_of_ble_eq_true rfl) (Nat.le_of_ble_eq_true rfl) dX5_tonsOf_17 ?_
  refine lv_istore_n (lv' := [(3, .int r3), (0, .ref (a 0)), (1, .int x1), (2, .ref w)]) hx hb dX5_tonsOf_20 rfl hl (by decide) rfl (fun ls hl => ?_)
  refine lv_iload_n hx hb dX5_tonsOf_21 rfl (lv_at hl 0 rfl) ?_
  refine lv_bipush (v := (-9 : Int32)) hx hb dX5_tonsOf_22 (by decide) ?_
  refine lv_icmp_ne (tgt := 31) hx hb dX5_tonsOf_24 (by decide) (fun c5 => ?_) (fun c5 => ?_)
  · replace hf := it_n c5 hf
    refine lv_aload_n hx hb dX5_tonsOf_31 rfl (lv_at hl 3 rfl) ?_
    refine va_get (D := (dC, dI)) (ci := 4) (v := .int wm) (C := RX4) (T := TX4) (N := 4) hx hb hts kX5_tonsOf_X4 hown hK hP 28 rfl rfl 1 (by decide) (hts _ mX5_tonsOf_5) (fun _ h9 => h9) rfl dX5_tonsOf_32 ?_
    refine lv_if_eq (tgt := 55) hx hb dX5_tonsOf_35 (by decide) (fun c6 => ?_) (fun c6 => ?_)
    · replace hf := it_p c6 hf
      exact b55 x1 r3 hf ls (lv_sub hl [1, 2, 0] rfl)
    · replace hf := it_n c6 hf
      refine lv_aload_n hx hb dX5_tonsOf_38 rfl (lv_at hl 1 rfl) ?_
      refine va_get (D := (dC, dI)) (ci := 5) (v := .ref (a 12)) (C := RX5) (T := TX5) (N := 5) hx hb hts kX5_tonsOf_X5 hown hK hP 0 rfl rfl 1 (by decide) (hts _ mX5_tonsOf_6) (fun _ h9 => h9) rfl dX5_tonsOf_39 ?_
      refine va_get (D := (dC, dI)) (ci := 2) (v := .ref (a 14)) (C := RX2) (T := TX2) (N := 7) hx hb hts kX5_tonsOf_X2 hown hK hP 12 rfl rfl 1 (by decide) (hts _ mX5_tonsOf_7) (fun _ h9 => h9) rfl dX5_tonsOf_42 ?_
      refine lv_iload_n hx hb dX5_tonsOf_45 rfl (lv_at hl 2 rfl) ?_
      obtain ⟨hi11, hf⟩ := it_s hf
      refine va_iald hx hb hK hP 14 0 rfl rfl (inb_in hi11) dX5_tonsOf_46 ?_
      refine lv_iconst (v := (1 : Int32)) hx hb dX5_tonsOf_47 (by decide) ?_
      refine lv_icmp_ne (tgt := 55) hx hb dX5_tonsOf_48 (by decide) (fun c12 => ?_) (fun c12 => ?_)
      · replace hf := it_n c12 hf
        exact b55 x1 r3 hf ls (lv_sub hl [1, 2, 0] rfl)
      · replace hf := it_p c12 hf
        refine lv_iconst (v := (1 : Int32)) hx hb dX5_tonsOf_51 (by decide) ?_
        refine lv_goto (tgt := 56) hx hb dX5_tonsOf_52 (by decide) ?_
        exact b56 x1 r3 (1 : Int32) hf ls (lv_sub hl [1, 2, 0] rfl)
  · replace hf := it_p c5 hf
    refine lv_ldc2 (v := (-9 : Int64)) hx hb hown (hts _ mX5_tonsOf_4) dX5_tonsOf_27 ?_
    obtain rfl := Option.some.inj hf
    rw [hQ]
    exact W.lret hx hb hr (fun t ht hW => ⟨rfl, ht⟩) (fun q hq => absurd hq List.not_mem_nil) dX5_tonsOf_30
def rX5_tons : Room := { frames := 3, cells := 1, slots := 4, locals := 73 }
theorem mX5_tons_1 : Cond.constantLong RX5 63 (-1) ∈ wsX5_tons := List.mem_of_getElem? (i := 1) rfl
theorem kX5_tons_X4 : ∀ w ∈ wsX40, w ∈ wsX5_tons := fun w h => (List.mem_cons_of_mem _ (List.mem_append_left _ (List.mem_append_left _ (List.mem_append_left _ (List.mem_append_right _ h)))))
theorem mX5_tons_2 : Cond.classLink RX5 123 RX4 ∈ wsX5_tons := List.mem_of_getElem? (i := 2) rfl
theorem mX5_tons_3 : Cond.instantiable RX4 4 ∈ wsX5_tons := List.mem_of_getElem? (i := 3) rfl
theorem mX5_tons_4 : Cond.initialized RX4 ∈ wsX5_tons := List.mem_of_getElem? (i := 4) rfl
theorem mX5_tons_18 : Cond.methodLink RX5 125 yX4_init ∈ wsX5_tons := List.mem_of_getElem? (i := 18) rfl
theorem mX5_tons_19 : Cond.instanceMethod yX4_init ∈ wsX5_tons := List.mem_of_getElem? (i := 19) rfl
set_option maxHeartbeats 4000000 in
set_option maxRecDepth 100000 in
theorem ct_X5_tons (l : Launch) (dC : Nat → ClassId) (dI : Nat → Nat → Nat) (a b : Nat → Nat) (cI cJ cZ : ClassId) (sz : Nat) (st : LG) (x1 : Int32) (x2 : Int32) (x3 : Int32) (x4 : Int32) (res : Int64 × LG) (hf : fX5_tons st x1 x2 x3 x4 = some res) : Met l yX5_tons wsX5_tons rX5_tons (Pm (dC, dI) (tyT cI cJ cZ) (WX5 a b cI cJ cZ st) sz [.ref (a 0), .int x1, .int x2, .int x3, .int x4]) (Qm (dC, dI) (some (.long res.1)) (WX5 a b cI cJ cZ res.2) (va_A (WX5 a b cI cJ cZ st) sz)) 1 4 (va_A (WX5 a b cI cJ cZ st) sz) := by
  refine Met.ofW (cc := cX5_tons) (maxL := 5) (ret := (some .long)) (by decide) rfl ?_
  intro p e s m args below meth c s₁ B hml hv
  obtain ⟨hargs, hsz, hP, hK, hD0⟩ := hv
  have hx := B.exec
  have hb := B.bytes
  have hr := B.returns
  have hts := atoms_spec (ws := wsX5_tons) B.pre
  have hown : s.vm.findClass RX5 = some m.cls := findClass_of_methodNamed B.named
  have hlocks := B.notSynchronized
  subst hsz
  have hD := hD0.self (sz := s.heap.size)
  generalize hAe : va_A (WX5 a b cI cJ cZ st) s.heap.size = A at hD ⊢
  have hA : ∀ q : Nat, s.heap.size ≤ q → A q := fun q h => by rw [← hAe]; exact Or.inr h
  have hl := lv_entry ([.ref (a 0), .int x1, .int x2, .int x3, .int x4]) (n := 5) (Nat.le_of_ble_eq_true rfl)
  refine W.eq (hargs ▸ lg_entry_eq m [.ref (a 0), .int x1, .int x2, .int x3, .int x4] 5) ?_
  generalize (lg_sl ([.ref (a 0), .int x1, .int x2, .int x3, .int x4]) ++ List.replicate (5 - (lg_sl ([.ref (a 0), .int x1, .int x2, .int x3, .int x4])).length) Slot.unset).toArray = ls at hl ⊢
  have hl : lv_has ls 5 [(0, .ref (a 0)), (1, .int x1), (2, .int x2), (3, .int x3), (4, .int x4)] := hl
  obtain ⟨QQ, hQ⟩ : ∃ QQ : State → Prop, QQ = MQ below (Qm (dC, dI) (some (.long res.1)) (WX5 a b cI cJ cZ res.2) A) args s 1 4 (A) := ⟨_, rfl⟩
  rw [← hQ]
  have main : ∀ (H : Heap) (locs : List Loc) (ls : Array Slot), IN (dC, dI) (WX5 a b cI cJ cZ st) A s.heap H locs → lv_has ls 5 [(0, .ref (a 0)), (1, .int x1), (2, .int x2), (3, .int x3), (4, .int x4)] → W p l e (headSpec wsX5_tons rX5_tons).room s m args below meth c H locs 0 0 QQ (F0 m 0 ls []) := by
    intro H locs ls hin hl
    obtain ⟨hP, hD, hS⟩ := hin
    unfold fX5_tons at hf
    refine lv_aload_n hx hb dX5_tons_0 rfl (lv_at hl 0 rfl) ?_
    refine lv_iload_n hx hb dX5_tons_1 rfl (lv_at hl 1 rfl) ?_
    obtain ⟨r1, hc2, hf⟩ := bind_s hf
    refine cpV (v := .int r1) ⟨hx, hb, hml, hown, hts⟩ (ct_X5_isRow l dC dI a b cI cJ cZ st x1 r1 hc2) (cwV 1 hts gX5_tons_X5_isRow rfl rfl rfl (by decide +kernel) ⟨(Nat.le_of_ble_eq_true rfl), (Nat.le_of_ble_eq_true rfl)⟩) hK hP [0, 1, 2, 3, 4, 5, 6, 7, 8, 9, 10, 11, 12, 13, 14, 15, 16, 17, 18, 19, 20, 21, 22, 23, 24, 25, 26, 27] rfl rfl rfl rfl hl.1 rfl (Nat.le_of_ble_eq_true rfl) (Nat.le_of_ble_eq_true rfl) (Nat.le_of_ble_eq_true rfl) dX5_tons_2 ?_
    refine lv_if_eq (tgt := 16) hx hb dX5_tons_5 (by decide) (fun c3 => ?_) (fun c3 => ?_)
    · replace hf := it_p c3 hf
      refine lv_ldc2 (v := (-1 : Int64)) hx hb hown (hts _ mX5_tons_1) dX5_tons_16 ?_
      obtain rfl := Option.some.inj hf
      refine W.widen (k := 1) (n := 4) (Nat.le_of_ble_eq_true rfl) (Nat.le_of_ble_eq_true rfl) ?_
      rw [hQ]
      exact W.lret hx hb hr (fun t ht hW => ⟨rfl, ⟨by rw [ht]; exact hP, hD⟩, hS.F ht⟩) hS.2.2 dX5_tons_19
    · replace hf := it_n c3 hf
      refine lv_aload_n hx hb dX5_tons_8 rfl (lv_at hl 0 rfl) ?_
      refine lv_iload_n hx hb dX5_tons_9 rfl (lv_at hl 2 rfl) ?_
      obtain ⟨r4, hc5, hf⟩ := bind_s hf
      refine cpV (v := .int r4) ⟨hx, hb, hml, hown, hts⟩ (ct_X5_isAsOf l dC dI a b cI cJ cZ st x2 r4 hc5) (cwV 1 hts gX5_tons_X5_isAsOf rfl rfl rfl (by decide +kernel) ⟨(Nat.le_of_ble_eq_true rfl), (Nat.le_of_ble_eq_true rfl)⟩) hK hP [0, 1, 2, 3, 4, 5, 6, 7, 8, 9, 10, 11, 12, 13, 14, 15, 16, 17, 18, 19, 20, 21, 22, 23, 24, 25, 26, 27] rfl rfl rfl rfl hl.1 rfl (Nat.le_of_ble_eq_true rfl) (Nat.le_of_ble_eq_true rfl) (Nat.le_of_ble_eq_true rfl) dX5_tons_10 ?_
      refine lv_if_ne (tgt := 20) hx hb dX5_tons_13 (by decide) (fun c6 => ?_) (fun c6 => ?_)
      · replace hf := it_n c6 hf
        refine lv_aload_n hx hb dX5_tons_20 rfl (lv_at hl 0 rfl) ?_
        refine lv_iload_n hx hb dX5_tons_21 rfl (lv_at hl 1 rfl) ?_
        refine va_new (ci := 4) (fs := [.int 0, .int 0, .int 0, .int 0]) (C := RX4) (T := TX4) (N := 4) hx hb hts kX5_tons_X4 tyX4 tyX4_ok hown (hts _ mX5_tons_2) (hts _ mX5_tons_3) (hts _ mX5_tons_4) hK hP hD hS hA rfl (fun j hj => by rcases (show j = 0 ∨ j = 1 ∨ j = 2 ∨ j = 3 by omega) with rfl | rfl | rfl | rfl <;> rfl) (Nat.le_of_ble_eq_true rfl) (Nat.le_of_ble_eq_true rfl) dX5_tons_22 (fun w7 H hP hD hS => ?_)
        replace hP : va_P (dC, dI) vwCl (WX5 a b cI cJ cZ st ++ [wayC w7 0 0 0 0]) H := hP
        replace hD : va_D A (WX5 a b cI cJ cZ st ++ [wayC w7 0 0 0 0]) := hD
        refine lv_dup hx hb dX5_tons_25 rfl ?_
        refine lv_iload_n hx hb dX5_tons_26 rfl (lv_at hl 2 rfl) ?_
        refine lv_iload_n hx hb dX5_tons_27 rfl (lv_at hl 3 rfl) ?_
        refine lv_iconst (v := (0 : Int32)) hx hb dX5_tons_28 (by decide) ?_
        refine lv_iload hx hb dX5_tons_29 (lv_at hl 4 rfl) ?_
        obtain ⟨hb_8, hf⟩ := it_s hf
        obtain ⟨hb_9, hf⟩ := it_s hf
        obtain ⟨hb_10, hf⟩ := it_s hf
        refine cmI (wr := (WX5 a b cI cJ cZ st)) ⟨hx, hb, hml, hown, hts⟩ (ct_X4_init l dC dI cI cJ cZ H.size w7 x2 x3 (0 : Int32) x4 hb_8 hb_9 hb_10) (cwI 4 hts gX5_tons_X4_init rfl rfl rfl (hts _ mX5_tons_4) (hts _ mX5_tons_18) (hts _ mX5_tons_19) rfl (by decide +kernel) ⟨(Nat.le_of_ble_eq_true rfl), (Nat.le_of_ble_eq_true rfl)⟩) hK hP hD hS hA [28] [0, 1, 2, 3, 4, 5, 6, 7, 8, 9, 10, 11, 12, 13, 14, 15, 16, 17, 18, 19, 20, 21, 22, 23, 24, 25, 26, 27] rfl rfl (by decide) rfl (by decide) (by decide) rfl hl.1 rfl (Nat.le_of_ble_eq_true rfl) (Nat.le_of_ble_eq_true rfl) (Nat.le_of_ble_eq_true rfl) dX5_tons_31 (fun _ H locs hP hD hS => ?_)
        replace hP : va_P (dC, dI) vwCl (WX5 a b cI cJ cZ st ++ [wayC w7 x2 x3 (0 : Int32) x4]) H := hP
        replace hD : va_D A (WX5 a b cI cJ cZ st ++ [wayC w7 x2 x3 (0 : Int32) x4]) := hD
        obtain ⟨r11, hc12, hf⟩ := bind_s hf
        refine cpV (v := .long r11) ⟨hx, hb, hml, hown, hts⟩ (ct_X5_tonsOf l dC dI a b cI cJ cZ w7 x2 x3 (0 : Int32) x4 st x1 r11 hc12) (cwV 2 hts gX5_tons_X5_tonsOf rfl rfl rfl (by decide +kernel) ⟨(Nat.le_of_ble_eq_true rfl), (Nat.le_of_ble_eq_true rfl)⟩) hK hP [0, 1, 2, 3, 4, 5, 6, 7, 8, 9, 10, 11, 12, 13, 14, 15, 16, 17, 18, 19, 20, 21, 22, 23, 24, 25, 26, 27, 28] rfl rfl rfl rfl hl.1 rfl (Nat.le_of_ble_eq_true rfl) (Nat.le_of_ble_eq_true rfl) (Nat.le_of_ble_eq_true rfl) dX5_tons_34 ?_
        obtain rfl := Option.some.inj hf
        rw [hQ]
        exact W.lret hx hb hr (fun t ht hW => ⟨rfl, ⟨by rw [ht]; exact hP.sub [0, 1, 2, 3, 4, 5, 6, 7, 8, 9, 10, 11, 12, 13, 14, 15, 16, 17, 18, 19, 20, 21, 22, 23, 24, 25, 26, 27] rfl, hD.sub [0, 1, 2, 3, 4, 5, 6, 7, 8, 9, 10, 11, 12, 13, 14, 15, 16, 17, 18, 19, 20, 21, 22, 23, 24, 25, 26, 27] (by decide) rfl⟩, hS.F ht⟩) hS.2.2 dX5_tons_37
      · replace hf := it_p c6 hf
        refine lv_ldc2 (v := (-1 : Int64)) hx hb hown (hts _ mX5_tons_1) dX5_tons_16 ?_
        obtain rfl := Option.some.inj hf
        refine W.widen (k := 1) (n := 4) (Nat.le_of_ble_eq_true rfl) (Nat.le_of_ble_eq_true rfl) ?_
        rw [hQ]
        exact W.lret hx hb hr (fun t ht hW => ⟨rfl, ⟨by rw [ht]; exact hP, hD⟩, hS.F ht⟩) hS.2.2 dX5_tons_19
  exact main s.heap [] ls ⟨hP, hD, va_S.rf⟩ hl
def rX5_isChanged : Room := { frames := 2, cells := 0, slots := 0, locals := 48 }
theorem kX5_isChanged_X5 : ∀ w ∈ wsX50, w ∈ wsX5_isChanged := fun w h => (List.mem_cons_of_mem _ (List.mem_append_left _ (List.mem_append_left _ (List.mem_append_right _ h))))
theorem mX5_isChanged_1 : Cond.fieldLink RX5 19 "SmokeLedger" "rows" "LSmokeLedger$Rows;" ∈ wsX5_isChanged := List.mem_of_getElem? (i := 1) rfl
theorem mX5_isChanged_2 : Cond.fieldLink RX5 26 "SmokeLedger" "factors" "LSmokeLedger$Factors;" ∈ wsX5_isChanged := List.mem_of_getElem? (i := 2) rfl
set_option maxHeartbeats 4000000 in
set_option maxRecDepth 100000 in
theorem ct_X5_isChanged (l : Launch) (dC : Nat → ClassId) (dI : Nat → Nat → Nat) (a b : Nat → Nat) (cI cJ cZ : ClassId) (st : LG) (x1 : Int32) (x2 : Int32) (x3 : Int32) (x4 : Int32) (res : Int32) (hf : fX5_isChanged st x1 x2 x3 x4 = some res) : Met l yX5_isChanged wsX5_isChanged rX5_isChanged (Pp (dC, dI) (tyT cI cJ cZ) (WX5 a b cI cJ cZ st) [.ref (a 0), .int x1, .int x2, .int x3, .int x4]) (Qp (.int res)) 0 0 (fun _ => False) := by
  refine Met.ofW (cc := cX5_isChanged) (maxL := 7) (ret := (some .boolean)) (by decide) rfl ?_
  intro p e s m args below meth c s₁ B hml hv
  obtain ⟨hargs, hP, hK⟩ := hv
  have hx := B.exec
  have hb := B.bytes
  have hr := B.returns
  have hts := atoms_spec (ws := wsX5_isChanged) B.pre
  have hown : s.vm.findClass RX5 = some m.cls := findClass_of_methodNamed B.named
  have hlocks := B.notSynchronized
  have hP : va_P (dC, dI) vwCl (WX5 a b cI cJ cZ st) s.heap := hP
  have hl := lv_entry ([.ref (a 0), .int x1, .int x2, .int x3, .int x4]) (n := 7) (Nat.le_of_ble_eq_true rfl)
  refine W.eq (hargs ▸ lg_entry_eq m [.ref (a 0), .int x1, .int x2, .int x3, .int x4] 7) ?_
  generalize (lg_sl ([.ref (a 0), .int x1, .int x2, .int x3, .int x4]) ++ List.replicate (7 - (lg_sl ([.ref (a 0), .int x1, .int x2, .int x3, .int x4])).length) Slot.unset).toArray = ls at hl ⊢
  have hl : lv_has ls 7 [(0, .ref (a 0)), (1, .int x1), (2, .int x2), (3, .int x3), (4, .int x4)] := hl
  obtain ⟨QQ, hQ⟩ : ∃ QQ : State → Prop, QQ = MQ below (Qp (.int res)) args s 0 0 (fun _ => False) := ⟨_, rfl⟩
  rw [← hQ]
  have b77 : fX5_isChanged_b77 st = some res → (∀ (ls : Array Slot), lv_has ls 7 [] → W p l e (headSpec wsX5_isChanged rX5_isChanged).room s m args below meth c s.heap [] 0 0 QQ (F0 m 77 ls [])) := by
    intro hf
    intro ls hl
    unfold fX5_isChanged_b77 at hf
    refine lv_iconst (v := (1 : Int32)) hx hb dX5_isChanged_77 (by decide) ?_
    refine lv_goto (tgt := 82) hx hb dX5_isChanged_78 (by decide) ?_
    obtain rfl := Option.some.inj hf
    rw [hQ]
    exact W.zret hx hb hr rfl (fun t ht hW => ⟨rfl, ht⟩) (fun q hq => absurd hq List.not_mem_nil) dX5_isChanged_82
  unfold fX5_isChanged at hf
  refine lv_aload_n hx hb dX5_isChanged_0 rfl (lv_at hl 0 rfl) ?_
  refine va_get (D := (dC, dI)) (ci := 5) (v := .ref (a 12)) (C := RX5) (T := TX5) (N := 5) hx hb hts kX5_isChanged_X5 hown hK hP 0 rfl rfl 1 (by decide) (hts _ mX5_isChanged_1) (fun _ h9 => h9) rfl dX5_isChanged_1 ?_
  refine lv_iload_n hx hb dX5_isChanged_4 rfl (lv_at hl 1 rfl) ?_
  refine lv_iload_n hx hb dX5_isChanged_5 rfl (lv_at hl 2 rfl) ?_
  obtain ⟨r1, hc2, hf⟩ := bind_s hf
  refine cpV (v := .int r1) ⟨hx, hb, hml, hown, hts⟩ (ct_X2_isOfYear l dC dI a b cI cJ cZ (LG_R st) x1 x2 r1 hc2) (cwV 2 hts gX5_isChanged_X2_isOfYear rfl rfl rfl (by decide +kernel) ⟨(Nat.le_of_ble_eq_true rfl), (Nat.le_of_ble_eq_true rfl)⟩) hK hP [12, 13, 14, 15, 16, 17, 18] rfl rfl rfl rfl hl.1 rfl (Nat.le_of_ble_eq_true rfl) (Nat.le_of_ble_eq_true rfl) (Nat.le_of_ble_eq_true rfl) dX5_isChanged_6 ?_
  refine lv_if_ne (tgt := 14) hx hb dX5_isChanged_9 (by decide) (fun c3 => ?_) (fun c3 => ?_)
  · replace hf := it_n c3 hf
    refine lv_aload_n hx hb dX5_isChanged_14 rfl (lv_at hl 0 rfl) ?_
    refine lv_iload_n hx hb dX5_isChanged_15 rfl (lv_at hl 1 rfl) ?_
    refine lv_iload_n hx hb dX5_isChanged_16 rfl (lv_at hl 3 rfl) ?_
    obtain ⟨r4, hc5, hf⟩ := bind_s hf
    refine cpV (v := .int r4) ⟨hx, hb, hml, hown, hts⟩ (ct_X5_versionOf l dC dI a b cI cJ cZ st x1 x3 r4 hc5) (cwV 2 hts gX5_isChanged_X5_versionOf rfl rfl rfl (by decide +kernel) ⟨(Nat.le_of_ble_eq_true rfl), (Nat.le_of_ble_eq_true rfl)⟩) hK hP [0, 1, 2, 3, 4, 5, 6, 7, 8, 9, 10, 11, 12, 13, 14, 15, 16, 17, 18, 19, 20, 21, 22, 23, 24, 25, 26, 27] rfl rfl rfl rfl hl.1 rfl (Nat.le_of_ble_eq_true rfl) (Nat.le_of_ble_eq_true rfl) (Nat.le_of_ble_eq_true rfl) dX5_isChanged_17 ?_
    refine lv_istore (lv' := [(5, .int r4), (0, .ref (a 0)), (1, .int x1), (2, .int x2), (3, .int x3), (4, .int x4)]) hx hb dX5_isChanged_20 hl (by decide) rfl (fun ls hl => ?_)
    refine lv_aload_n hx hb dX5_isChanged_22 rfl (lv_at hl 1 rfl) ?_
    refine lv_iload_n hx hb dX5_isChanged_23 rfl (lv_at hl 2 rfl) ?_
    refine lv_iload hx hb dX5_isChanged_24 (lv_at hl 5 rfl) ?_
    obtain ⟨r6, hc7, hf⟩ := bind_s hf
    refine cpV (v := .int r6) ⟨hx, hb, hml, hown, hts⟩ (ct_X5_versionOf l dC dI a b cI cJ cZ st x1 x4 r6 hc7) (cwV 2 hts gX5_isChanged_X5_versionOf rfl rfl rfl (by decide +kernel) ⟨(Nat.le_of_ble_eq_true rfl), (Nat.le_of_ble_eq_true rfl)⟩) hK hP [0, 1, 2, 3, 4, 5, 6, 7, 8, 9, 10, 11, 12, 13, 14, 15, 16, 17, 18, 19, 20, 21, 22, 23, 24, 25, 26, 27] rfl rfl rfl rfl hl.1 rfl (Nat.le_of_ble_eq_true rfl) (Nat.le_of_ble_eq_true rfl) (Nat.le_of_ble_eq_true rfl) dX5_isChanged_26 ?_
    refine lv_istore (lv' := [(6, .int r6), (5, .int r4), (0, .ref (a 0)), (1, .int x1), (2, .int x2), (3, .int x3), (4, .int x4)]) hx hb dX5_isChanged_29 hl (by decide) rfl (fun ls hl => ?_)
    refine lv_aload_n hx hb dX5_isChanged_31 rfl (lv_at hl 2 rfl) ?_
    refine va_get (D := (dC, dI)) (ci := 5) (v := .ref (a 19)) (C := RX5) (T := TX5) (N := 5) hx hb hts kX5_isChanged_X5 hown hK hP 0 rfl rfl 2 (by decide) (hts _ mX5_isChanged_2) (fun _ h9 => h9) rfl dX5_isChanged_32 ?_
    refine lv_iload hx hb dX5_isChanged_35 (lv_at hl 1 rfl) ?_
    refine lv_iconst (v := (0 : Int32)) hx hb dX5_isChanged_37 (by decide) ?_
    obtain ⟨r8, hc9, hf⟩ := bind_s hf
    refine cpV (v := .int r8) ⟨hx, hb, hml, hown, hts⟩ (ct_X0_endOf l dC dI a b cI cJ cZ (LG_F st) r4 (0 : Int32) r8 hc9) (cwV 2 hts gX5_isChanged_X0_endOf rfl rfl rfl (by decide +kernel) ⟨(Nat.le_of_ble_eq_true rfl), (Nat.le_of_ble_eq_true rfl)⟩) hK hP [19, 20, 21, 22, 23] rfl rfl rfl rfl hl.1 rfl (Nat.le_of_ble_eq_true rfl) (Nat.le_of_ble_eq_true rfl) (Nat.le_of_ble_eq_true rfl) dX5_isChanged_38 ?_
    refine lv_aload_n hx hb dX5_isChanged_41 rfl (lv_at hl 2 rfl) ?_
    refine va_get (D := (dC, dI)) (ci := 5) (v := .ref (a 19)) (C := RX5) (T := TX5) (N := 5) hx hb hts kX5_isChanged_X5 hown hK hP 0 rfl rfl 2 (by decide) (hts _ mX5_isChanged_2) (fun _ h9 => h9) rfl dX5_isChanged_42 ?_
    refine lv_iload hx hb dX5_isChanged_45 (lv_at hl 0 rfl) ?_
    refine lv_iconst (v := (0 : Int32)) hx hb dX5_isChanged_47 (by decide) ?_
    obtain ⟨r10, hc11, hf⟩ := bind_s hf
    refine cpV (v := .int r10) ⟨hx, hb, hml, hown, hts⟩ (ct_X0_endOf l dC dI a b cI cJ cZ (LG_F st) r6 (0 : Int32) r10 hc11) (cwV 2 hts gX5_isChanged_X0_endOf rfl rfl rfl (by decide +kernel) ⟨(Nat.le_of_ble_eq_true rfl), (Nat.le_of_ble_eq_true rfl)⟩) hK hP [19, 20, 21, 22, 23] rfl rfl rfl rfl hl.1 rfl (Nat.le_of_ble_eq_true rfl) (Nat.le_of_ble_eq_true rfl) (Nat.le_of_ble_eq_true rfl) dX5_isChanged_48 ?_
    refine lv_icmp_ne (tgt := 77) hx hb dX5_isChanged_51 (by decide) (fun c12 => ?_) (fun c12 => ?_)
    · replace hf := it_n c12 hf
      exact b77  hf ls (lv_sub hl [] rfl)
    · replace hf := it_p c12 hf
      refine lv_aload_n hx hb dX5_isChanged_54 rfl (lv_at hl 2 rfl) ?_
      refine va_get (D := (dC, dI)) (ci := 5) (v := .ref (a 19)) (C := RX5) (T := TX5) (N := 5) hx hb hts kX5_isChanged_X5 hown hK hP 0 rfl rfl 2 (by decide) (hts _ mX5_isChanged_2) (fun _ h9 => h9) rfl dX5_isChanged_55 ?_
      refine lv_iload hx hb dX5_isChanged_58 (lv_at hl 1 rfl) ?_
      refine lv_iconst (v := (1 : Int32)) hx hb dX5_isChanged_60 (by decide) ?_
      obtain ⟨r13, hc14, hf⟩ := bind_s hf
      refine cpV (v := .int r13) ⟨hx, hb, hml, hown, hts⟩ (ct_X0_endOf l dC dI a b cI cJ cZ (LG_F st) r4 (1 : Int32) r13 hc14) (cwV 2 hts gX5_isChanged_X0_endOf rfl rfl rfl (by decide +kernel) ⟨(Nat.le_of_ble_eq_true rfl), (Nat.le_of_ble_eq_true rfl)⟩) hK hP [19, 20, 21, 22, 23] rfl rfl rfl rfl hl.1 rfl (Nat.le_of_ble_eq_true rfl) (Nat.le_of_ble_eq_true rfl) (Nat.le_of_ble_eq_true rfl) dX5_isChanged_61 ?_
      refine lv_aload_n hx hb dX5_isChanged_64 rfl (lv_at hl 2 rfl) ?_
      refine va_get (D := (dC, dI)) (ci := 5) (v := .ref (a 19)) (C := RX5) (T := TX5) (N := 5) hx hb hts kX5_isChanged_X5 hown hK hP 0 rfl rfl 2 (by decide) (hts _ mX5_isChanged_2) (fun _ h9 => h9) rfl dX5_isChanged_65 ?_
      refine lv_iload hx hb dX5_isChanged_68 (lv_at hl 0 rfl) ?_
      refine lv_iconst (v := (1 : Int32)) hx hb dX5_isChanged_70 (by decide) ?_
      obtain ⟨r15, hc16, hf⟩ := bind_s hf
      refine cpV (v := .int r15) ⟨hx, hb, hml, hown, hts⟩ (ct_X0_endOf l dC dI a b cI cJ cZ (LG_F st) r6 (1 : Int32) r15 hc16) (cwV 2 hts gX5_isChanged_X0_endOf rfl rfl rfl (by decide +kernel) ⟨(Nat.le_of_ble_eq_true rfl), (Nat.le_of_ble_eq_true rfl)⟩) hK hP [19, 20, 21, 22, 23] rfl rfl rfl rfl hl.1 rfl (Nat.le_of_ble_eq_true rfl) (Nat.le_of_ble_eq_true rfl) (Nat.le_of_ble_eq_true rfl) dX5_isChanged_71 ?_
      refine lv_icmp_eq (tgt := 81) hx hb dX5_isChanged_74 (by decide) (fun c17 => ?_) (fun c17 => ?_)
      · replace hf := it_p c17 hf
        refine lv_iconst (v := (0 : Int32)) hx hb dX5_isChanged_81 (by decide) ?_
        obtain rfl := Option.some.inj hf
        rw [hQ]
        exact W.zret hx hb hr rfl (fun t ht hW => ⟨rfl, ht⟩) (fun q hq => absurd hq List.not_mem_nil) dX5_isChanged_82
      · replace hf := it_n c17 hf
        exact b77  hf ls (lv_sub hl [] rfl)
  · replace hf := it_p c3 hf
    refine lv_iconst (v := (0 : Int32)) hx hb dX5_isChanged_12 (by decide) ?_
    obtain rfl := Option.some.inj hf
    rw [hQ]
    exact W.zret hx hb hr rfl (fun t ht hW => ⟨rfl, ht⟩) (fun q hq => absurd hq List.not_mem_nil) dX5_isChanged_13
def rX5_changed : Room := { frames := 3, cells := 0, slots := 0, locals := 74 }
theorem kX5_changed_X5 : ∀ w ∈ wsX50, w ∈ wsX5_changed := fun w h => (List.mem_cons_of_mem _ (List.mem_append_left _ (List.mem_append_left _ (List.mem_append_right _ h))))
theorem mX5_changed_1 : Cond.fieldLink RX5 19 "SmokeLedger" "rows" "LSmokeLedger$Rows;" ∈ wsX5_changed := List.mem_of_getElem? (i := 1) rfl
theorem kX5_changed_X2 : ∀ w ∈ wsX20, w ∈ wsX5_changed := fun w h => (List.mem_cons_of_mem _ (List.mem_append_left _ (List.mem_append_right _ h)))
theorem mX5_changed_2 : Cond.fieldLink RX5 132 "SmokeLedger$Rows" "size" "I" ∈ wsX5_changed := List.mem_of_getElem? (i := 2) rfl
set_option maxHeartbeats 4000000 in
set_option maxRecDepth 100000 in
theorem ct_X5_changed (l : Launch) (dC : Nat → ClassId) (dI : Nat → Nat → Nat) (a b : Nat → Nat) (cI cJ cZ : ClassId) (st : LG) (x1 : Int32) (x2 : Int32) (x3 : Int32) (res : Int32) (hf : fX5_changed st x1 x2 x3 = some res) : Met l yX5_changed wsX5_changed rX5_changed (Pp (dC, dI) (tyT cI cJ cZ) (WX5 a b cI cJ cZ st) [.ref (a 0), .int x1, .int x2, .int x3]) (Qp (.int res)) 0 0 (fun _ => False) := by
  refine Met.ofW (cc := cX5_changed) (maxL := 6) (ret := (some .int)) (by decide) rfl ?_
  intro p e s m args below meth c s₁ B hml hv
  obtain ⟨hargs, hP, hK⟩ := hv
  have hx := B.exec
  have hb := B.bytes
  have hr := B.returns
  have hts := atoms_spec (ws := wsX5_changed) B.pre
  have hown : s.vm.findClass RX5 = some m.cls := findClass_of_methodNamed B.named
  have hlocks := B.notSynchronized
  have hP : va_P (dC, dI) vwCl (WX5 a b cI cJ cZ st) s.heap := hP
  have hl := lv_entry ([.ref (a 0), .int x1, .int x2, .int x3]) (n := 6) (Nat.le_of_ble_eq_true rfl)
  refine W.eq (hargs ▸ lg_entry_eq m [.ref (a 0), .int x1, .int x2, .int x3] 6) ?_
  generalize (lg_sl ([.ref (a 0), .int x1, .int x2, .int x3]) ++ List.replicate (6 - (lg_sl ([.ref (a 0), .int x1, .int x2, .int x3])).length) Slot.unset).toArray = ls at hl ⊢
  have hl : lv_has ls 6 [(0, .ref (a 0)), (1, .int x1), (2, .int x2), (3, .int x3)] := hl
  obtain ⟨QQ, hQ⟩ : ∃ QQ : State → Prop, QQ = MQ below (Qp (.int res)) args s 0 0 (fun _ => False) := ⟨_, rfl⟩
  rw [← hQ]
  have l34 : ∀ (x1 : Int32) (x2 : Int32) (x3 : Int32) (fu : Nat) (s0 : Int32 × Int32) (r : Int32 × Int32), loopN (fun (s : Int32 × Int32) => fX5_changed_l34 st x1 x2 x3 s.1 s.2) fu s0 = some r → (∀ (ls : Array Slot), lv_has ls 6 [(0, .ref (a 0)), (1, .int x1), (2, .int x2), (3, .int x3), (4, .int r.1), (5, .int r.2)] → W p l e (headSpec wsX5_changed rX5_changed).room s m args below meth c s.heap [] 0 0 QQ (F0 m 67 ls [])) → (∀ (ls : Array Slot), lv_has ls 6 [(0, .ref (a 0)), (1, .int x1), (2, .int x2), (3, .int x3), (4, .int s0.1), (5, .int s0.2)] → W p l e (headSpec wsX5_changed rX5_changed).room s m args below meth c s.heap [] 0 0 QQ (F0 m 34 ls [])) := by
    intro x1 x2 x3 fu s0 r
    have b61 : ∀ (x1 : Int32) (x2 : Int32) (x3 : Int32) (x4 : Int32) (x5 : Int32) (x : (Int32 × Int32) ⊕ (Int32 × Int32)), fX5_changed_b61 st x1 x2 x3 x4 x5 = some x → (∀ s', x = .inl s' → (∀ (ls : Array Slot), lv_has ls 6 [(0, .ref (a 0)), (1, .int x1), (2, .int x2), (3, .int x3), (4, .int s'.1), (5, .int s'.2)] → W p l e (headSpec wsX5_changed rX5_changed).room s m args below meth c s.heap [] 0 0 QQ (F0 m 34 ls []))) → (∀ r, x = .inr r → (∀ (ls : Array Slot), lv_has ls 6 [(0, .ref (a 0)), (1, .int x1), (2, .int x2), (3, .int x3), (4, .int r.1), (5, .int r.2)] → W p l e (headSpec wsX5_changed rX5_changed).room s m args below meth c s.heap [] 0 0 QQ (F0 m 67 ls []))) → (∀ (ls : Array Slot), lv_has ls 6 [(0, .ref (a 0)), (1, .int x1), (2, .int x2), (3, .int x3), (4, .int x4), (5, .int x5)] → W p l e (headSpec wsX5_changed rX5_changed).room s m args below meth c s.heap [] 0 0 QQ (F0 m 61 ls [])) := by
      intro x1 x2 x3 x4 x5 x hf kc ke
      intro ls hl
      unfold fX5_changed_b61 at hf
      refine lv_iinc (v := (x5 + (1 : Int32))) (lv' := [(5, .int (x5 + (1 : Int32))), (0, .ref (a 0)), (1, .int x1), (2, .int x2), (3, .int x3), (4, .int x4)]) hx hb dX5_changed_61 hl (k := 5) rfl rfl (by decide) rfl (fun ls hl => ?_)
      refine lv_goto (tgt := 34) hx hb dX5_changed_64 (by decide) ?_
      obtain rfl := Option.some.inj hf
      exact kc _ rfl ls (lv_sub hl [1, 2, 3, 4, 5, 0] rfl)
    refine loop_ind (P := fun s0 => ∀ (ls : Array Slot), lv_has ls 6 [(0, .ref (a 0)), (1, .int x1), (2, .int x2), (3, .int x3), (4, .int s0.1), (5, .int s0.2)] → W p l e (headSpec wsX5_changed rX5_changed).room s m args below meth c s.heap [] 0 0 QQ (F0 m 34 ls [])) (Q := fun r => ∀ (ls : Array Slot), lv_has ls 6 [(0, .ref (a 0)), (1, .int x1), (2, .int x2), (3, .int x3), (4, .int r.1), (5, .int r.2)] → W p l e (headSpec wsX5_changed rX5_changed).room s m args below meth c s.heap [] 0 0 QQ (F0 m 67 ls [])) ?_ fu s0 r
    clear fu s0 r
    rintro ⟨x4, x5⟩ x hf kc ke
    replace hf : fX5_changed_l34 st x1 x2 x3 x4 x5 = some x := hf
    replace kc : (∀ s', x = .inl s' → (∀ (ls : Array Slot), lv_has ls 6 [(0, .ref (a 0)), (1, .int x1), (2, .int x2), (3, .int x3), (4, .int s'.1), (5, .int s'.2)] → W p l e (headSpec wsX5_changed rX5_changed).room s m args below meth c s.heap [] 0 0 QQ (F0 m 34 ls []))) := kc
    replace ke : (∀ r, x = .inr r → (∀ (ls : Array Slot), lv_has ls 6 [(0, .ref (a 0)), (1, .int x1), (2, .int x2), (3, .int x3), (4, .int r.1), (5, .int r.2)] → W p l e (headSpec wsX5_changed rX5_changed).room s m args below meth c s.heap [] 0 0 QQ (F0 m 67 ls []))) := ke
    intro ls hl
    unfold fX5_changed_l34 at hf
    refine lv_iload hx hb dX5_changed_34 (lv_at hl 5 rfl) ?_
    refine lv_aload_n hx hb dX5_changed_36 rfl (lv_at hl 0 rfl) ?_
    refine va_get (D := (dC, dI)) (ci := 5) (v := .ref (a 12)) (C := RX5) (T := TX5) (N := 5) hx hb hts kX5_changed_X5 hown hK hP 0 rfl rfl 1 (by decide) (hts _ mX5_changed_1) (fun _ h9 => h9) rfl dX5_changed_37 ?_
    refine va_get (D := (dC, dI)) (ci := 2) (v := .int (RS_size (LG_R st))) (C := RX2) (T := TX2) (N := 7) hx hb hts kX5_changed_X2 hown hK hP 12 rfl rfl 6 (by decide) (hts _ mX5_changed_2) (fun _ h9 => h9) rfl dX5_changed_40 ?_
    refine lv_icmp_ge (tgt := 67) hx hb dX5_changed_43 (by decide) (fun c10 => ?_) (fun c10 => ?_)
    · replace hf := it_p c10 hf
      obtain rfl := Option.some.inj hf
      exact ke _ rfl ls (lv_sub hl [0, 1, 2, 3, 4, 5] rfl)
    · replace hf := it_n c10 hf
      refine lv_aload_n hx hb dX5_changed_46 rfl (lv_at hl 0 rfl) ?_
      refine lv_iload hx hb dX5_changed_47 (lv_at hl 5 rfl) ?_
      refine lv_iload_n hx hb dX5_changed_49 rfl (lv_at hl 1 rfl) ?_
      refine lv_iload_n hx hb dX5_changed_50 rfl (lv_at hl 2 rfl) ?_
      refine lv_iload_n hx hb dX5_changed_51 rfl (lv_at hl 3 rfl) ?_
      obtain ⟨r11, hc12, hf⟩ := bind_s hf
      refine cpV (v := .int r11) ⟨hx, hb, hml, hown, hts⟩ (ct_X5_isChanged l dC dI a b cI cJ cZ st x5 x1 x2 x3 r11 hc12) (cwV 4 hts gX5_changed_X5_isChanged rfl rfl rfl (by decide +kernel) ⟨(Nat.le_of_ble_eq_true rfl), (Nat.le_of_ble_eq_true rfl)⟩) hK hP [0, 1, 2, 3, 4, 5, 6, 7, 8, 9, 10, 11, 12, 13, 14, 15, 16, 17, 18, 19, 20, 21, 22, 23, 24, 25, 26, 27] rfl rfl rfl rfl hl.1 rfl (Nat.le_of_ble_eq_true rfl) (Nat.le_of_ble_eq_true rfl) (Nat.le_of_ble_eq_true rfl) dX5_changed_52 ?_
      refine lv_if_eq (tgt := 61) hx hb dX5_changed_55 (by decide) (fun c13 => ?_) (fun c13 => ?_)
      · replace hf := it_p c13 hf
        exact b61 x1 x2 x3 x4 x5 _ hf kc ke ls (lv_sub hl [0, 1, 2, 3, 4, 5] rfl)
      · replace hf := it_n c13 hf
        refine lv_iinc (v := (x4 + (1 : Int32))) (lv' := [(4, .int (x4 + (1 : Int32))), (0, .ref (a 0)), (1, .int x1), (2, .int x2), (3, .int x3), (5, .int x5)]) hx hb dX5_changed_58 hl (k := 4) rfl rfl (by decide) rfl (fun ls hl => ?_)
        exact b61 x1 x2 x3 (x4 + (1 : Int32)) x5 _ hf kc ke ls (lv_sub hl [1, 2, 3, 4, 0, 5] rfl)
  unfold fX5_changed at hf
  refine lv_aload_n hx hb dX5_changed_0 rfl (lv_at hl 0 rfl) ?_
  refine lv_iload_n hx hb dX5_changed_1 rfl (lv_at hl 2 rfl) ?_
  obtain ⟨r1, hc2, hf⟩ := bind_s hf
  refine cpV (v := .int r1) ⟨hx, hb, hml, hown, hts⟩ (ct_X5_isAsOf l dC dI a b cI cJ cZ st x2 r1 hc2) (cwV 1 hts gX5_changed_X5_isAsOf rfl rfl rfl (by decide +kernel) ⟨(Nat.le_of_ble_eq_true rfl), (Nat.le_of_ble_eq_true rfl)⟩) hK hP [0, 1, 2, 3, 4, 5, 6, 7, 8, 9, 10, 11, 12, 13, 14, 15, 16, 17, 18, 19, 20, 21, 22, 23, 24, 25, 26, 27] rfl rfl rfl rfl hl.1 rfl (Nat.le_of_ble_eq_true rfl) (Nat.le_of_ble_eq_true rfl) (Nat.le_of_ble_eq_true rfl) dX5_changed_2 ?_
  refine lv_if_eq (tgt := 16) hx hb dX5_changed_5 (by decide) (fun c3 => ?_) (fun c3 => ?_)
  · replace hf := it_p c3 hf
    refine lv_iconst (v := (-1 : Int32)) hx hb dX5_changed_16 (by decide) ?_
    obtain rfl := Option.some.inj hf
    rw [hQ]
    exact W.iret hx hb hr (fun t ht hW => ⟨rfl, ht⟩) (fun q hq => absurd hq List.not_mem_nil) dX5_changed_17
  · replace hf := it_n c3 hf
    refine lv_aload_n hx hb dX5_changed_8 rfl (lv_at hl 0 rfl) ?_
    refine lv_iload_n hx hb dX5_changed_9 rfl (lv_at hl 3 rfl) ?_
    obtain ⟨r4, hc5, hf⟩ := bind_s hf
    refine cpV (v := .int r4) ⟨hx, hb, hml, hown, hts⟩ (ct_X5_isAsOf l dC dI a b cI cJ cZ st x3 r4 hc5) (cwV 1 hts gX5_changed_X5_isAsOf rfl rfl rfl (by decide +kernel) ⟨(Nat.le_of_ble_eq_true rfl), (Nat.le_of_ble_eq_true rfl)⟩) hK hP [0, 1, 2, 3, 4, 5, 6, 7, 8, 9, 10, 11, 12, 13, 14, 15, 16, 17, 18, 19, 20, 21, 22, 23, 24, 25, 26, 27] rfl rfl rfl rfl hl.1 rfl (Nat.le_of_ble_eq_true rfl) (Nat.le_of_ble_eq_true rfl) (Nat.le_of_ble_eq_true rfl) dX5_changed_10 ?_
    refine lv_if_ne (tgt := 18) hx hb dX5_changed_13 (by decide) (fun c6 => ?_) (fun c6 => ?_)
    · replace hf := it_n c6 hf
      refine lv_iload_n hx hb dX5_changed_18 rfl (lv_at hl 1 rfl) ?_
      obtain ⟨r7, hc8, hf⟩ := bind_s hf
      refine cpS (v := .int r7) ⟨hx, hb, hml, hown, hts⟩ (ct_X5_isYear l dC dI cI cJ cZ x1 r7 hc8) (va_cwS 1 hts gX5_changed_X5_isYear rfl rfl rfl (by decide +kernel) ⟨(Nat.le_of_ble_eq_true rfl), (Nat.le_of_ble_eq_true rfl)⟩) hK hP [] rfl rfl hl.1 rfl (Nat.le_of_ble_eq_true rfl) (Nat.le_of_ble_eq_true rfl) (Nat.le_of_ble_eq_true rfl) dX5_changed_19 ?_
      refine lv_if_ne (tgt := 28) hx hb dX5_changed_22 (by decide) (fun c9 => ?_) (fun c9 => ?_)
      · replace hf := it_n c9 hf
        refine lv_iconst (v := (0 : Int32)) hx hb dX5_changed_28 (by decide) ?_
        refine lv_istore (lv' := [(4, .int (0 : Int32)), (0, .ref (a 0)), (1, .int x1), (2, .int x2), (3, .int x3)]) hx hb dX5_changed_29 hl (by decide) rfl (fun ls hl => ?_)
        refine lv_iconst (v := (0 : Int32)) hx hb dX5_changed_31 (by decide) ?_
        refine lv_istore (lv' := [(5, .int (0 : Int32)), (4, .int (0 : Int32)), (0, .ref (a 0)), (1, .int x1), (2, .int x2), (3, .int x3)]) hx hb dX5_changed_32 hl (by decide) rfl (fun ls hl => ?_)
        obtain ⟨y14, hlp, hf⟩ := bind_s hf
        refine l34 x1 x2 x3 fuelN ((0 : Int32), (0 : Int32)) y14 hlp ?_ ls (lv_sub hl [2, 3, 4, 5, 1, 0] rfl)
        intro ls hl
        refine lv_iload hx hb dX5_changed_67 (lv_at hl 4 rfl) ?_
        obtain rfl := Option.some.inj hf
        rw [hQ]
        exact W.iret hx hb hr (fun t ht hW => ⟨rfl, ht⟩) (fun q hq => absurd hq List.not_mem_nil) dX5_changed_69
      · replace hf := it_p c9 hf
        refine lv_bipush (v := (-2 : Int32)) hx hb dX5_changed_25 (by decide) ?_
        obtain rfl := Option.some.inj hf
        rw [hQ]
        exact W.iret hx hb hr (fun t ht hW => ⟨rfl, ht⟩) (fun q hq => absurd hq List.not_mem_nil) dX5_changed_27
    · replace hf := it_p c6 hf
      refine lv_iconst (v := (-1 : Int32)) hx hb dX5_changed_16 (by decide) ?_
      obtain rfl := Option.some.inj hf
      rw [hQ]
      exact W.iret hx hb hr (fun t ht hW => ⟨rfl, ht⟩) (fun q hq => absurd hq List.not_mem_nil) dX5_changed_17
def rX5_change : Room := { frames := 3, cells := 0, slots := 0, locals := 74 }
theorem kX5_change_X5 : ∀ w ∈ wsX50, w ∈ wsX5_change := fun w h => (List.mem_cons_of_mem _ (List.mem_append_left _ (List.mem_append_left _ (List.mem_append_right _ h))))
theorem mX5_change_1 : Cond.fieldLink RX5 19 "SmokeLedger" "rows" "LSmokeLedger$Rows;" ∈ wsX5_change := List.mem_of_getElem? (i := 1) rfl
theorem kX5_change_X2 : ∀ w ∈ wsX20, w ∈ wsX5_change := fun w h => (List.mem_cons_of_mem _ (List.mem_append_left _ (List.mem_append_right _ h)))
theorem mX5_change_2 : Cond.fieldLink RX5 132 "SmokeLedger$Rows" "size" "I" ∈ wsX5_change := List.mem_of_getElem? (i := 2) rfl
set_option maxHeartbeats 4000000 in
set_option maxRecDepth 100000 in
theorem ct_X5_change (l : Launch) (dC : Nat → ClassId) (dI : Nat → Nat → Nat) (a b : Nat → Nat) (cI cJ cZ : ClassId) (st : LG) (x1 : Int32) (x2 : Int32) (x3 : Int32) (x4 : Int32) (res : Int32) (hf : fX5_change st x1 x2 x3 x4 = some res) : Met l yX5_change wsX5_change rX5_change (Pp (dC, dI) (tyT cI cJ cZ) (WX5 a b cI cJ cZ st) [.ref (a 0), .int x1, .int x2, .int x3, .int x4]) (Qp (.int res)) 0 0 (fun _ => False) := by
  refine Met.ofW (cc := cX5_change) (maxL := 7) (ret := (some .int)) (by decide) rfl ?_
  intro p e s m args below meth c s₁ B hml hv
  obtain ⟨hargs, hP, hK⟩ := hv
  have hx := B.exec
  have hb := B.bytes
  have hr := B.returns
  have hts := atoms_spec (ws := wsX5_change) B.pre
  have hown : s.vm.findClass RX5 = some m.cls := findClass_of_methodNamed B.named
  have hlocks := B.notSynchronized
  have hP : va_P (dC, dI) vwCl (WX5 a b cI cJ cZ st) s.heap := hP
  have hl := lv_entry ([.ref (a 0), .int x1, .int x2, .int x3, .int x4]) (n := 7) (Nat.le_of_ble_eq_true rfl)
  refine W.eq (hargs ▸ lg_entry_eq m [.ref (a 0), .int x1, .int x2, .int x3, .int x4] 7) ?_
  generalize (lg_sl ([.ref (a 0), .int x1, .int x2, .int x3, .int x4]) ++ List.replicate (7 - (lg_sl ([.ref (a 0), .int x1, .int x2, .int x3, .int x4])).length) Slot.unset).toArray = ls at hl ⊢
  have hl : lv_has ls 7 [(0, .ref (a 0)), (1, .int x1), (2, .int x2), (3, .int x3), (4, .int x4)] := hl
  obtain ⟨QQ, hQ⟩ : ∃ QQ : State → Prop, QQ = MQ below (Qp (.int res)) args s 0 0 (fun _ => False) := ⟨_, rfl⟩
  rw [← hQ]
  have l35 : ∀ (x1 : Int32) (x2 : Int32) (x3 : Int32) (x4 : Int32) (fu : Nat) (s0 : Int32 × Int32) (r : (Int32 × Int32) ⊕ (Int32)), loopN (fun (s : Int32 × Int32) => fX5_change_l35 st x1 x2 x3 x4 s.1 s.2) fu s0 = some r → ((∀ s', r = .inl s' → (∀ (ls : Array Slot), lv_has ls 7 [(0, .ref (a 0)), (1, .int x1), (2, .int x2), (3, .int x3), (4, .int x4), (5, .int s'.1), (6, .int s'.2)] → W p l e (headSpec wsX5_change rX5_change).room s m args below meth c s.heap [] 0 0 QQ (F0 m 78 ls []))) ∧ (∀ v, r = .inr v → some v = some res)) → (∀ (ls : Array Slot), lv_has ls 7 [(0, .ref (a 0)), (1, .int x1), (2, .int x2), (3, .int x3), (4, .int x4), (5, .int s0.1), (6, .int s0.2)] → W p l e (headSpec wsX5_change rX5_change).room s m args below meth c s.heap [] 0 0 QQ (F0 m 35 ls [])) := by
    intro x1 x2 x3 x4 fu s0 r
    have b72 : ∀ (x1 : Int32) (x2 : Int32) (x3 : Int32) (x4 : Int32) (x5 : Int32) (x6 : Int32) (x : (Int32 × Int32) ⊕ ((Int32 × Int32) ⊕ (Int32))), fX5_change_b72 st x1 x2 x3 x4 x5 x6 = some x → (∀ s', x = .inl s' → (∀ (ls : Array Slot), lv_has ls 7 [(0, .ref (a 0)), (1, .int x1), (2, .int x2), (3, .int x3), (4, .int x4), (5, .int s'.1), (6, .int s'.2)] → W p l e (headSpec wsX5_change rX5_change).room s m args below meth c s.heap [] 0 0 QQ (F0 m 35 ls []))) → (∀ r, x = .inr r → ((∀ s', r = .inl s' → (∀ (ls : Array Slot), lv_has ls 7 [(0, .ref (a 0)), (1, .int x1), (2, .int x2), (3, .int x3), (4, .int x4), (5, .int s'.1), (6, .int s'.2)] → W p l e (headSpec wsX5_change rX5_change).room s m args below meth c s.heap [] 0 0 QQ (F0 m 78 ls []))) ∧ (∀ v, r = .inr v → some v = some res))) → (∀ (ls : Array Slot), lv_has ls 7 [(0, .ref (a 0)), (1, .int x1), (2, .int x2), (3, .int x3), (4, .int x4), (5, .int x5), (6, .int x6)] → W p l e (headSpec wsX5_change rX5_change).room s m args below meth c s.heap [] 0 0 QQ (F0 m 72 ls [])) := by
      intro x1 x2 x3 x4 x5 x6 x hf kc ke
      intro ls hl
      unfold fX5_change_b72 at hf
      refine lv_iinc (v := (x6 + (1 : Int32))) (lv' := [(6, .int (x6 + (1 : Int32))), (0, .ref (a 0)), (1, .int x1), (2, .int x2), (3, .int x3), (4, .int x4), (5, .int x5)]) hx hb dX5_change_72 hl (k := 6) rfl rfl (by decide) rfl (fun ls hl => ?_)
      refine lv_goto (tgt := 35) hx hb dX5_change_75 (by decide) ?_
      obtain rfl := Option.some.inj hf
      exact kc _ rfl ls (lv_sub hl [1, 2, 3, 4, 5, 6, 0] rfl)
    refine loop_ind (P := fun s0 => ∀ (ls : Array Slot), lv_has ls 7 [(0, .ref (a 0)), (1, .int x1), (2, .int x2), (3, .int x3), (4, .int x4), (5, .int s0.1), (6, .int s0.2)] → W p l e (headSpec wsX5_change rX5_change).room s m args below meth c s.heap [] 0 0 QQ (F0 m 35 ls [])) (Q := fun r => (∀ s', r = .inl s' → (∀ (ls : Array Slot), lv_has ls 7 [(0, .ref (a 0)), (1, .int x1), (2, .int x2), (3, .int x3), (4, .int x4), (5, .int s'.1), (6, .int s'.2)] → W p l e (headSpec wsX5_change rX5_change).room s m args below meth c s.heap [] 0 0 QQ (F0 m 78 ls []))) ∧ (∀ v, r = .inr v → some v = some res)) ?_ fu s0 r
    clear fu s0 r
    rintro ⟨x5, x6⟩ x hf kc ke
    replace hf : fX5_change_l35 st x1 x2 x3 x4 x5 x6 = some x := hf
    replace kc : (∀ s', x = .inl s' → (∀ (ls : Array Slot), lv_has ls 7 [(0, .ref (a 0)), (1, .int x1), (2, .int x2), (3, .int x3), (4, .int x4), (5, .int s'.1), (6, .int s'.2)] → W p l e (headSpec wsX5_change rX5_change).room s m args below meth c s.heap [] 0 0 QQ (F0 m 35 ls []))) := kc
    replace ke : (∀ r, x = .inr r → ((∀ s', r = .inl s' → (∀ (ls : Array Slot), lv_has ls 7 [(0, .ref (a 0)), (1, .int x1), (2, .int x2), (3, .int x3), (4, .int x4), (5, .int s'.1), (6, .int s'.2)] → W p l e (headSpec wsX5_change rX5_change).room s m args below meth c s.heap [] 0 0 QQ (F0 m 78 ls []))) ∧ (∀ v, r = .inr v → some v = some res))) := ke
    intro ls hl
    unfold fX5_change_l35 at hf
    refine lv_iload hx hb dX5_change_35 (lv_at hl 6 rfl) ?_
    refine lv_aload_n hx hb dX5_change_37 rfl (lv_at hl 0 rfl) ?_
    refine va_get (D := (dC, dI)) (ci := 5) (v := .ref (a 12)) (C := RX5) (T := TX5) (N := 5) hx hb hts kX5_change_X5 hown hK hP 0 rfl rfl 1 (by decide) (hts _ mX5_change_1) (fun _ h9 => h9) rfl dX5_change_38 ?_
    refine va_get (D := (dC, dI)) (ci := 2) (v := .int (RS_size (LG_R st))) (C := RX2) (T := TX2) (N := 7) hx hb hts kX5_change_X2 hown hK hP 12 rfl rfl 6 (by decide) (hts _ mX5_change_2) (fun _ h9 => h9) rfl dX5_change_41 ?_
    refine lv_icmp_ge (tgt := 78) hx hb dX5_change_44 (by decide) (fun c10 => ?_) (fun c10 => ?_)
    · replace hf := it_p c10 hf
      obtain rfl := Option.some.inj hf
      exact (ke _ rfl).1 _ rfl ls (lv_sub hl [0, 1, 2, 3, 4, 5, 6] rfl)
    · replace hf := it_n c10 hf
      refine lv_aload_n hx hb dX5_change_47 rfl (lv_at hl 0 rfl) ?_
      refine lv_iload hx hb dX5_change_48 (lv_at hl 6 rfl) ?_
      refine lv_iload_n hx hb dX5_change_50 rfl (lv_at hl 2 rfl) ?_
      refine lv_iload_n hx hb dX5_change_51 rfl (lv_at hl 3 rfl) ?_
      refine lv_iload hx hb dX5_change_52 (lv_at hl 4 rfl) ?_
      obtain ⟨r11, hc12, hf⟩ := bind_s hf
      refine cpV (v := .int r11) ⟨hx, hb, hml, hown, hts⟩ (ct_X5_isChanged l dC dI a b cI cJ cZ st x6 x2 x3 x4 r11 hc12) (cwV 4 hts gX5_change_X5_isChanged rfl rfl rfl (by decide +kernel) ⟨(Nat.le_of_ble_eq_true rfl), (Nat.le_of_ble_eq_true rfl)⟩) hK hP [0, 1, 2, 3, 4, 5, 6, 7, 8, 9, 10, 11, 12, 13, 14, 15, 16, 17, 18, 19, 20, 21, 22, 23, 24, 25, 26, 27] rfl rfl rfl rfl hl.1 rfl (Nat.le_of_ble_eq_true rfl) (Nat.le_of_ble_eq_true rfl) (Nat.le_of_ble_eq_true rfl) dX5_change_54 ?_
      refine lv_if_eq (tgt := 72) hx hb dX5_change_57 (by decide) (fun c13 => ?_) (fun c13 => ?_)
      · replace hf := it_p c13 hf
        exact b72 x1 x2 x3 x4 x5 x6 _ hf kc ke ls (lv_sub hl [0, 1, 2, 3, 4, 5, 6] rfl)
      · replace hf := it_n c13 hf
        refine lv_iload hx hb dX5_change_60 (lv_at hl 5 rfl) ?_
        refine lv_iload_n hx hb dX5_change_62 rfl (lv_at hl 1 rfl) ?_
        refine lv_icmp_ne (tgt := 69) hx hb dX5_change_63 (by decide) (fun c14 => ?_) (fun c14 => ?_)
        · replace hf := it_n c14 hf
          refine lv_iinc (v := (x5 + (1 : Int32))) (lv' := [(5, .int (x5 + (1 : Int32))), (0, .ref (a 0)), (1, .int x1), (2, .int x2), (3, .int x3), (4, .int x4), (6, .int x6)]) hx hb dX5_change_69 hl (k := 5) rfl rfl (by decide) rfl (fun ls hl => ?_)
          exact b72 x1 x2 x3 x4 (x5 + (1 : Int32)) x6 _ hf kc ke ls (lv_sub hl [1, 2, 3, 4, 5, 0, 6] rfl)
        · replace hf := it_p c14 hf
          refine lv_iload hx hb dX5_change_66 (lv_at hl 6 rfl) ?_
          obtain rfl := Option.some.inj hf
          replace hf := (ke _ rfl).2 _ rfl
          obtain rfl := Option.some.inj hf
          rw [hQ]
          exact W.iret hx hb hr (fun t ht hW => ⟨rfl, ht⟩) (fun q hq => absurd hq List.not_mem_nil) dX5_change_68
  unfold fX5_change at hf
  refine lv_aload_n hx hb dX5_change_0 rfl (lv_at hl 0 rfl) ?_
  refine lv_iload_n hx hb dX5_change_1 rfl (lv_at hl 3 rfl) ?_
  obtain ⟨r1, hc2, hf⟩ := bind_s hf
  refine cpV (v := .int r1) ⟨hx, hb, hml, hown, hts⟩ (ct_X5_isAsOf l dC dI a b cI cJ cZ st x3 r1 hc2) (cwV 1 hts gX5_change_X5_isAsOf rfl rfl rfl (by decide +kernel) ⟨(Nat.le_of_ble_eq_true rfl), (Nat.le_of_ble_eq_true rfl)⟩) hK hP [0, 1, 2, 3, 4, 5, 6, 7, 8, 9, 10, 11, 12, 13, 14, 15, 16, 17, 18, 19, 20, 21, 22, 23, 24, 25, 26, 27] rfl rfl rfl rfl hl.1 rfl (Nat.le_of_ble_eq_true rfl) (Nat.le_of_ble_eq_true rfl) (Nat.le_of_ble_eq_true rfl) dX5_change_2 ?_
  refine lv_if_eq (tgt := 17) hx hb dX5_change_5 (by decide) (fun c3 => ?_) (fun c3 => ?_)
  · replace hf := it_p c3 hf
    refine lv_iconst (v := (-1 : Int32)) hx hb dX5_change_17 (by decide) ?_
    obtain rfl := Option.some.inj hf
    rw [hQ]
    exact W.iret hx hb hr (fun t ht hW => ⟨rfl, ht⟩) (fun q hq => absurd hq List.not_mem_nil) dX5_change_18
  · replace hf := it_n c3 hf
    refine lv_aload_n hx hb dX5_change_8 rfl (lv_at hl 0 rfl) ?_
    refine lv_iload hx hb dX5_change_9 (lv_at hl 4 rfl) ?_
    obtain ⟨r4, hc5, hf⟩ := bind_s hf
    refine cpV (v := .int r4) ⟨hx, hb, hml, hown, hts⟩ (ct_X5_isAsOf l dC dI a b cI cJ cZ st x4 r4 hc5) (cwV 1 hts gX5_change_X5_isAsOf rfl rfl rfl (by decide +kernel) ⟨(Nat.le_of_ble_eq_true rfl), (Nat.le_of_ble_eq_true rfl)⟩) hK hP [0, 1, 2, 3, 4, 5, 6, 7, 8, 9, 10, 11, 12, 13, 14, 15, 16, 17, 18, 19, 20, 21, 22, 23, 24, 25, 26, 27] rfl rfl rfl rfl hl.1 rfl (Nat.le_of_ble_eq_true rfl) (Nat.le_of_ble_eq_true rfl) (Nat.le_of_ble_eq_true rfl) dX5_change_11 ?_
    refine lv_if_ne (tgt := 19) hx hb dX5_change_14 (by decide) (fun c6 => ?_) (fun c6 => ?_)
    · replace hf := it_n c6 hf
      refine lv_iload_n hx hb dX5_change_19 rfl (lv_at hl 2 rfl) ?_
      obtain ⟨r7, hc8, hf⟩ := bind_s hf
      refine cpS (v := .int r7) ⟨hx, hb, hml, hown, hts⟩ (ct_X5_isYear l dC dI cI cJ cZ x2 r7 hc8) (va_cwS 1 hts gX5_change_X5_isYear rfl rfl rfl (by decide +kernel) ⟨(Nat.le_of_ble_eq_true rfl), (Nat.le_of_ble_eq_true rfl)⟩) hK hP [] rfl rfl hl.1 rfl (Nat.le_of_ble_eq_true rfl) (Nat.le_of_ble_eq_true rfl) (Nat.le_of_ble_eq_true rfl) dX5_change_20 ?_
      refine lv_if_ne (tgt := 29) hx hb dX5_change_23 (by decide) (fun c9 => ?_) (fun c9 => ?_)
      · replace hf := it_n c9 hf
        refine lv_iconst (v := (0 : Int32)) hx hb dX5_change_29 (by decide) ?_
        refine lv_istore (lv' := [(5, .int (0 : Int32)), (0, .ref (a 0)), (1, .int x1), (2, .int x2), (3, .int x3), (4, .int x4)]) hx hb dX5_change_30 hl (by decide) rfl (fun ls hl => ?_)
        refine lv_iconst (v := (0 : Int32)) hx hb dX5_change_32 (by decide) ?_
        refine lv_istore (lv' := [(6, .int (0 : Int32)), (5, .int (0 : Int32)), (0, .ref (a 0)), (1, .int x1), (2, .int x2), (3, .int x3), (4, .int x4)]) hx hb dX5_change_33 hl (by decide) rfl (fun ls hl => ?_)
        obtain ⟨y15, hlp, hf⟩ := bind_s hf
        refine l35 x1 x2 x3 x4 fuelN ((0 : Int32), (0 : Int32)) y15 hlp ?_ ls (lv_sub hl [2, 3, 4, 5, 6, 1, 0] rfl)
        refine ⟨fun e_ he_ => ?_, fun v_ hv_ => ?_⟩
        · subst he_
          replace hf : (some (-9 : Int32)) = some res := hf
          intro ls hl
          refine lv_bipush (v := (-9 : Int32)) hx hb dX5_change_78 (by decide) ?_
          obtain rfl := Option.some.inj hf
          rw [hQ]
          exact W.iret hx hb hr (fun t ht hW => ⟨rfl, ht⟩) (fun q hq => absurd hq List.not_mem_nil) dX5_change_80
        · subst hv_
          exact hf
      · replace hf := it_p c9 hf
        refine lv_bipush (v := (-2 : Int32)) hx hb dX5_change_26 (by decide) ?_
        obtain rfl := Option.some.inj hf
        rw [hQ]
        exact W.iret hx hb hr (fun t ht hW => ⟨rfl, ht⟩) (fun q hq => absurd hq List.not_mem_nil) dX5_change_28
    · replace hf := it_p c6 hf
      refine lv_iconst (v := (-1 : Int32)) hx hb dX5_change_17 (by decide) ?_
      obtain rfl := Option.some.inj hf
      rw [hQ]
      exact W.iret hx hb hr (fun t ht hW => ⟨rfl, ht⟩) (fun q hq => absurd hq List.not_mem_nil) dX5_change_18
def rX5_totalOf : Room := { frames := 5, cells := 0, slots := 0, locals := 131 }
theorem kX5_totalOf_X5 : ∀ w ∈ wsX50, w ∈ wsX5_totalOf := fun w h => (List.mem_cons_of_mem _ (List.mem_append_left _ (List.mem_append_left _ (List.mem_append_left _ (List.mem_append_left _ (List.mem_append_right _ h))))))
theorem mX5_totalOf_1 : Cond.fieldLink RX5 19 "SmokeLedger" "rows" "LSmokeLedger$Rows;" ∈ wsX5_totalOf := List.mem_of_getElem? (i := 1) rfl
theorem kX5_totalOf_X2 : ∀ w ∈ wsX20, w ∈ wsX5_totalOf := fun w h => (List.mem_cons_of_mem _ (List.mem_append_left _ (List.mem_append_left _ (List.mem_append_left _ (List.mem_append_right _ h)))))
theorem mX5_totalOf_2 : Cond.fieldLink RX5 132 "SmokeLedger$Rows" "size" "I" ∈ wsX5_totalOf := List.mem_of_getElem? (i := 2) rfl
theorem mX5_totalOf_5 : Cond.fieldLink RX5 10 "SmokeLedger" "holdings" "LSmokeLedger$Holdings;" ∈ wsX5_totalOf := List.mem_of_getElem? (i := 5) rfl
theorem mX5_totalOf_3 : Cond.fieldLink RX5 86 "SmokeLedger$Rows" "unit" "[I" ∈ wsX5_totalOf := List.mem_of_getElem? (i := 3) rfl
theorem kX5_totalOf_X4 : ∀ w ∈ wsX40, w ∈ wsX5_totalOf := fun w h => (List.mem_cons_of_mem _ (List.mem_append_left _ (List.mem_append_left _ (List.mem_append_right _ h))))
theorem mX5_totalOf_6 : Cond.fieldLink RX5 214 "SmokeLedger$Way" "once" "Z" ∈ wsX5_totalOf := List.mem_of_getElem? (i := 6) rfl
theorem mX5_totalOf_7 : Cond.constantLong RX5 146 (-9) ∈ wsX5_totalOf := List.mem_of_getElem? (i := 7) rfl
theorem mX5_totalOf_4 : Cond.fieldLink RX5 96 "SmokeLedger$Rows" "day" "[I" ∈ wsX5_totalOf := List.mem_of_getElem? (i := 4) rfl
set_option maxHeartbeats 4000000 in
set_option maxRecDepth 100000 in
theorem ct_X5_totalOf (l : Launch) (dC : Nat → ClassId) (dI : Nat → Nat → Nat) (a b : Nat → Nat) (cI cJ cZ : ClassId) (sz : Nat) (w : Nat) (wa : Int32) (wm : Int32) (wo : Int32) (wh : Int32) (st : LG) (x1 : Int32) (x2 : Int32) (x3 : Int32) (res : Int64 × LG) (hf : fX5_totalOf wa wm wo wh st x1 x2 x3 = some res) : Met l yX5_totalOf wsX5_totalOf rX5_totalOf (Pm (dC, dI) (tyT cI cJ cZ) (WX5 a b cI cJ cZ st ++ [wayC w wa wm wo wh]) sz [.ref (a 0), .int x1, .int x2, .int x3, .ref w]) (Qm (dC, dI) (some (.long res.1)) (WX5 a b cI cJ cZ res.2 ++ [wayC w wa wm wo wh]) (va_A (WX5 a b cI cJ cZ st ++ [wayC w wa wm wo wh]) sz)) 0 0 (va_A (WX5 a b cI cJ cZ st ++ [wayC w wa wm wo wh]) sz) := by
  refine Met.ofW (cc := cX5_totalOf) (maxL := 13) (ret := (some .long)) (by decide) rfl ?_
  intro p e s m args below meth c s₁ B hml hv
  obtain ⟨hargs, hsz, hP, hK, hD0⟩ := hv
  have hx := B.exec
  have hb := B.bytes
  have hr := B.returns
  have hts := atoms_spec (ws := wsX5_totalOf) B.pre
  have hown : s.vm.findClass RX5 = some m.cls := findClass_of_methodNamed B.named
  have hlocks := B.notSynchronized
  subst hsz
  have hD := hD0.self (sz := s.heap.size)
  generalize hAe : va_A (WX5 a b cI cJ cZ st ++ [wayC w wa wm wo wh]) s.heap.size = A at hD ⊢
  have hA : ∀ q : Nat, s.heap.size ≤ q → A q := fun q h => by rw [← hAe]; exact Or.inr h
  have hl := lv_entry ([.ref (a 0), .int x1, .int x2, .int x3, .ref w]) (n := 13) (Nat.le_of_ble_eq_true rfl)
  refine W.eq (hargs ▸ lg_entry_eq m [.ref (a 0), .int x1, .int x2, .int x3, .ref w] 13) ?_
  generalize (lg_sl ([.ref (a 0), .int x1, .int x2, .int x3, .ref w]) ++ List.replicate (13 - (lg_sl ([.ref (a 0), .int x1, .int x2, .int x3, .ref w])).length) Slot.unset).toArray = ls at hl ⊢
  have hl : lv_has ls 13 [(0, .ref (a 0)), (1, .int x1), (2, .int x2), (3, .int x3), (4, .ref w)] := hl
  obtain ⟨QQ, hQ⟩ : ∃ QQ : State → Prop, QQ = MQ below (Qm (dC, dI) (some (.long res.1)) (WX5 a b cI cJ cZ res.2 ++ [wayC w wa wm wo wh]) A) args s 0 0 (A) := ⟨_, rfl⟩
  rw [← hQ]
  have l6 : ∀ (x1 : Int32) (x2 : Int32) (x3 : Int32) (fu : Nat) (s0 : LG × Int64 × Int32) (r : (LG × Int64 × Int32) ⊕ (Int64 × LG)), loopN (fun (s : LG × Int64 × Int32) => fX5_totalOf_l6 wa wm wo wh x1 x2 x3 s.1 s.2.1 s.2.2) fu s0 = some r → ((∀ s', r = .inl s' → (∀ (H : Heap) (locs : List Loc) (ls : Array Slot), IN (dC, dI) (WX5 a b cI cJ cZ s'.1 ++ [wayC w wa wm wo wh]) A s.heap H locs → lv_has ls 13 [(0, .ref (a 0)), (1, .int x1), (2, .int x2), (3, .int x3), (4, .ref w), (5, .long s'.2.1), (7, .int s'.2.2)] → W p l e (headSpec wsX5_totalOf rX5_totalOf).room s m args below meth c H locs 0 0 QQ (F0 m 165 ls []))) ∧ (∀ v, r = .inr v → some v = some res)) → (∀ (H : Heap) (locs : List Loc) (ls : Array Slot), IN (dC, dI) (WX5 a b cI cJ cZ s0.1 ++ [wayC w wa wm wo wh]) A s.heap H locs → lv_has ls 13 [(0, .ref (a 0)), (1, .int x1), (2, .int x2), (3, .int x3), (4, .ref w), (5, .long s0.2.1), (7, .int s0.2.2)] → W p l e (headSpec wsX5_totalOf rX5_totalOf).room s m args below meth c H locs 0 0 QQ (F0 m 6 ls [])) := by
    intro x1 x2 x3 fu s0 r
    have b159 : ∀ (st : LG) (x1 : Int32) (x2 : Int32) (x3 : Int32) (x5 : Int64) (x7 : Int32) (x : (LG × Int64 × Int32) ⊕ ((LG × Int64 × Int32) ⊕ (Int64 × LG))), fX5_totalOf_b159 wa wm wo wh st x1 x2 x3 x5 x7 = some x → (∀ s', x = .inl s' → (∀ (H : Heap) (locs : List Loc) (ls : Array Slot), IN (dC, dI) (WX5 a b cI cJ cZ s'.1 ++ [wayC w wa wm wo wh]) A s.heap H locs → lv_has ls 13 [(0, .ref (a 0)), (1, .int x1), (2, .int x2), (3, .int x3), (4, .ref w), (5, .long s'.2.1), (7, .int s'.2.2)] → W p l e (headSpec wsX5_totalOf rX5_totalOf).room s m args below meth c H locs 0 0 QQ (F0 m 6 ls []))) → (∀ r, x = .inr r → ((∀ s', r = .inl s' → (∀ (H : Heap) (locs : List Loc) (ls : Array Slot), IN (dC, dI) (WX5 a b cI cJ cZ s'.1 ++ [wayC w wa wm wo wh]) A s.heap H locs → lv_has ls 13 [(0, .ref (a 0)), (1, .int x1), (2, .int x2), (3, .int x3), (4, .ref w), (5, .long s'.2.1), (7, .int s'.2.2)] → W p l e (headSpec wsX5_totalOf rX5_totalOf).room s m args below meth c H locs 0 0 QQ (F0 m 165 ls []))) ∧ (∀ v, r = .inr v → some v = some res))) → (∀ (H : Heap) (locs : List Loc) (ls : Array Slot), IN (dC, dI) (WX5 a b cI cJ cZ st ++ [wayC w wa wm wo wh]) A s.heap H locs → lv_has ls 13 [(0, .ref (a 0)), (1, .int x1), (2, .int x2), (3, .int x3), (4, .ref w), (5, .long x5), (7, .int x7)] → W p l e (headSpec wsX5_totalOf rX5_totalOf).room s m args below meth c H locs 0 0 QQ (F0 m 159 ls [])) := by
      intro st x1 x2 x3 x5 x7 x hf kc ke
      intro H locs ls hin hl
      obtain ⟨hP, hD, hS⟩ := hin
      unfold fX5_totalOf_b159 at hf
      refine lv_iinc (v := (x7 + (1 : Int32))) (lv' := [(7, .int (x7 + (1 : Int32))), (0, .ref (a 0)), (1, .int x1), (2, .int x2), (3, .int x3), (4, .ref w), (5, .long x5)]) hx hb dX5_totalOf_159 hl (k := 6) rfl rfl (by decide) rfl (fun ls hl => ?_)
      refine lv_goto (tgt := 6) hx hb dX5_totalOf_162 (by decide) ?_
      obtain rfl := Option.some.inj hf
      exact kc _ rfl H locs ls ⟨hP, hD, hS⟩ (lv_sub hl [1, 2, 3, 4, 5, 6, 0] rfl)
    have b126 : ∀ (st : LG) (x1 : Int32) (x2 : Int32) (x3 : Int32) (x5 : Int64) (x7 : Int32) (x9 : Int64) (x : (LG × Int64 × Int32) ⊕ ((LG × Int64 × Int32) ⊕ (Int64 × LG))), fX5_totalOf_b126 wa wm wo wh st x1 x2 x3 x5 x7 x9 = some x → (∀ s', x = .inl s' → (∀ (H : Heap) (locs : List Loc) (ls : Array Slot), IN (dC, dI) (WX5 a b cI cJ cZ s'.1 ++ [wayC w wa wm wo wh]) A s.heap H locs → lv_has ls 13 [(0, .ref (a 0)), (1, .int x1), (2, .int x2), (3, .int x3), (4, .ref w), (5, .long s'.2.1), (7, .int s'.2.2)] → W p l e (headSpec wsX5_totalOf rX5_totalOf).room s m args below meth c H locs 0 0 QQ (F0 m 6 ls []))) → (∀ r, x = .inr r → ((∀ s', r = .inl s' → (∀ (H : Heap) (locs : List Loc) (ls : Array Slot), IN (dC, dI) (WX5 a b cI cJ cZ s'.1 ++ [wayC w wa wm wo wh]) A s.heap H locs → lv_has ls 13 [(0, .ref (a 0)), (1, .int x1), (2, .int x2), (3, .int x3), (4, .ref w), (5, .long s'.2.1), (7, .int s'.2.2)] → W p l e (headSpec wsX5_totalOf rX5_totalOf).room s m args below meth c H locs 0 0 QQ (F0 m 165 ls []))) ∧ (∀ v, r = .inr v → some v = some res))) → (∀ (H : Heap) (locs : List Loc) (ls : Array Slot), IN (dC, dI) (WX5 a b cI cJ cZ st ++ [wayC w wa wm wo wh]) A s.heap H locs → lv_has ls 13 [(0, .ref (a 0)), (1, .int x1), (2, .int x2), (3, .int x3), (4, .ref w), (5, .long x5), (7, .int x7), (9, .long x9)] → W p l e (headSpec wsX5_totalOf rX5_totalOf).room s m args below meth c H locs 0 0 QQ (F0 m 126 ls [])) := by
      intro st x1 x2 x3 x5 x7 x9 x hf kc ke
      intro H locs ls hin hl
      obtain ⟨hP, hD, hS⟩ := hin
      unfold fX5_totalOf_b126 at hf
      refine lv_aload_n hx hb dX5_totalOf_126 rfl (lv_at hl 0 rfl) ?_
      refine lv_iload hx hb dX5_totalOf_127 (lv_at hl 6 rfl) ?_
      refine lv_aload hx hb dX5_totalOf_129 (lv_at hl 4 rfl) ?_
      obtain ⟨r12, hc13, hf⟩ := bind_s hf
      refine cpV (v := .long r12) ⟨hx, hb, hml, hown, hts⟩ (ct_X5_tonsOf l dC dI a b cI cJ cZ w wa wm wo wh st x7 r12 hc13) (cwV 2 hts gX5_totalOf_X5_tonsOf rfl rfl rfl (by decide +kernel) ⟨(Nat.le_of_ble_eq_true rfl), (Nat.le_of_ble_eq_true rfl)⟩) hK hP [0, 1, 2, 3, 4, 5, 6, 7, 8, 9, 10, 11, 12, 13, 14, 15, 16, 17, 18, 19, 20, 21, 22, 23, 24, 25, 26, 27, 28] rfl rfl rfl rfl hl.1 rfl (Nat.le_of_ble_eq_true rfl) (Nat.le_of_ble_eq_true rfl) (Nat.le_of_ble_eq_true rfl) dX5_totalOf_131 ?_
      refine lv_lstore (lv' := [(11, .long r12), (0, .ref (a 0)), (1, .int x1), (2, .int x2), (3, .int x3), (4, .ref w), (5, .long x5), (7, .int x7), (9, .long x9)]) hx hb dX5_totalOf_134 hl (by decide) rfl (fun ls hl => ?_)
      refine lv_lload hx hb dX5_totalOf_136 (lv_at hl 0 rfl) ?_
      refine lv_ldc2 (v := (-9 : Int64)) hx hb hown (hts _ mX5_totalOf_7) dX5_totalOf_138 ?_
      refine W.lcmp hx hb dX5_totalOf_141 ?_
      refine lv_if_ne (tgt := 149) hx hb dX5_totalOf_142 (by decide) (fun c14 => ?_) (fun c14 => ?_)
      · replace hf := it_n c14 hf
        refine lv_lload hx hb dX5_totalOf_149 (lv_at hl 6 rfl) ?_
        refine lv_lload hx hb dX5_totalOf_151 (lv_at hl 0 rfl) ?_
        refine lv_lload hx hb dX5_totalOf_153 (lv_at hl 8 rfl) ?_
        refine lv_lmul hx hb dX5_totalOf_155 ?_
        refine lv_ladd hx hb dX5_totalOf_156 ?_
        refine lv_lstore (lv' := [(5, .long (x5 + (r12 * x9))), (11, .long r12), (0, .ref (a 0)), (1, .int x1), (2, .int x2), (3, .int x3), (4, .ref w), (7, .int x7), (9, .long x9)]) hx hb dX5_totalOf_157 hl (by decide) rfl (fun ls hl => ?_)
        exact b159 st x1 x2 x3 (x5 + (r12 * x9)) x7 _ hf kc ke H locs ls ⟨hP, hD, hS⟩ (lv_sub hl [2, 3, 4, 5, 6, 0, 7] rfl)
      · replace hf := it_p c14 hf
        refine lv_ldc2 (v := (-9 : Int64)) hx hb hown (hts _ mX5_totalOf_7) dX5_totalOf_145 ?_
        obtain rfl := Option.some.inj hf
        replace hf := (ke _ rfl).2 _ rfl
        obtain rfl := Option.some.inj hf
        rw [hQ]
        exact W.lret hx hb hr (fun t ht hW => ⟨rfl, ⟨by rw [ht]; exact hP, hD⟩, hS.F ht⟩) hS.2.2 dX5_totalOf_148
    have b74 : ∀ (st : LG) (x1 : Int32) (x2 : Int32) (x3 : Int32) (x5 : Int64) (x7 : Int32) (k0 : Int32) (x : (LG × Int64 × Int32) ⊕ ((LG × Int64 × Int32) ⊕ (Int64 × LG))), fX5_totalOf_b74 wa wm wo wh st x1 x2 x3 x5 x7 k0 = some x → (∀ s', x = .inl s' → (∀ (H : Heap) (locs : List Loc) (ls : Array Slot), IN (dC, dI) (WX5 a b cI cJ cZ s'.1 ++ [wayC w wa wm wo wh]) A s.heap H locs → lv_has ls 13 [(0, .ref (a 0)), (1, .int x1), (2, .int x2), (3, .int x3), (4, .ref w), (5, .long s'.2.1), (7, .int s'.2.2)] → W p l e (headSpec wsX5_totalOf rX5_totalOf).room s m args below meth c H locs 0 0 QQ (F0 m 6 ls []))) → (∀ r, x = .inr r → ((∀ s', r = .inl s' → (∀ (H : Heap) (locs : List Loc) (ls : Array Slot), IN (dC, dI) (WX5 a b cI cJ cZ s'.1 ++ [wayC w wa wm wo wh]) A s.heap H locs → lv_has ls 13 [(0, .ref (a 0)), (1, .int x1), (2, .int x2), (3, .int x3), (4, .ref w), (5, .long s'.2.1), (7, .int s'.2.2)] → W p l e (headSpec wsX5_totalOf rX5_totalOf).room s m args below meth c H locs 0 0 QQ (F0 m 165 ls []))) ∧ (∀ v, r = .inr v → some v = some res))) → (∀ (H : Heap) (locs : List Loc) (ls : Array Slot), IN (dC, dI) (WX5 a b cI cJ cZ st ++ [wayC w wa wm wo wh]) A s.heap H locs → lv_has ls 13 [(0, .ref (a 0)), (1, .int x1), (2, .int x2), (3, .int x3), (4, .ref w), (5, .long x5), (7, .int x7)] → W p l e (headSpec wsX5_totalOf rX5_totalOf).room s m args below meth c H locs 0 0 QQ (F0 m 74 ls [.int k0])) := by
      intro st x1 x2 x3 x5 x7 k0 x hf kc ke
      intro H locs ls hin hl
      obtain ⟨hP, hD, hS⟩ := hin
      unfold fX5_totalOf_b74 at hf
      refine lv_istore (lv' := [(8, .int k0), (0, .ref (a 0)), (1, .int x1), (2, .int x2), (3, .int x3), (4, .ref w), (5, .long x5), (7, .int x7)]) hx hb dX5_totalOf_74 hl (by decide) rfl (fun ls hl => ?_)
      refine lv_aload_n hx hb dX5_totalOf_76 rfl (lv_at hl 1 rfl) ?_
      refine va_get (D := (dC, dI)) (ci := 5) (v := .ref (a 1)) (C := RX5) (T := TX5) (N := 5) hx hb hts kX5_totalOf_X5 hown hK hP 0 rfl rfl 0 (by decide) (hts _ mX5_totalOf_5) (fun _ h9 => h9) rfl dX5_totalOf_77 ?_
      refine lv_aload_n hx hb dX5_totalOf_80 rfl (lv_at hl 1 rfl) ?_
      refine va_get (D := (dC, dI)) (ci := 5) (v := .ref (a 12)) (C := RX5) (T := TX5) (N := 5) hx hb hts kX5_totalOf_X5 hown hK hP 0 rfl rfl 1 (by decide) (hts _ mX5_totalOf_1) (fun _ h9 => h9) rfl dX5_totalOf_81 ?_
      refine va_get (D := (dC, dI)) (ci := 2) (v := .ref (a 13)) (C := RX2) (T := TX2) (N := 7) hx hb hts kX5_totalOf_X2 hown hK hP 12 rfl rfl 0 (by decide) (hts _ mX5_totalOf_3) (fun _ h9 => h9) rfl dX5_totalOf_84 ?_
      refine lv_iload hx hb dX5_totalOf_87 (lv_at hl 7 rfl) ?_
      obtain ⟨hi7, hf⟩ := it_s hf
      refine va_iald hx hb hK hP 13 0 rfl rfl (inb_in hi7) dX5_totalOf_89 ?_
      refine lv_iload hx hb dX5_totalOf_90 (lv_at hl 0 rfl) ?_
      obtain ⟨p8, hc9, hf⟩ := bind_s hf
      refine cmV (wr := (a 0, .inr (5, [.ref (a 1), .ref (a 12), .ref (a 19), .ref (a 24), .int (LG_units st)])) :: ((WX2 a b cI cJ cZ (LG_R st) ++ (WX0 a b cI cJ cZ (LG_F st) ++ (WX3 a b cI cJ cZ (LG_S st)))) ++ [wayC w wa wm wo wh])) ⟨hx, hb, hml, hown, hts⟩ (ct_X1_shareOn l dC dI a b cI cJ cZ H.size (LG_H st) ((RS_unit (LG_R st)) (x7).toNatClampNeg) k0 p8 hc9) (cwV 2 hts gX5_totalOf_X1_shareOn rfl rfl rfl (by decide +kernel) ⟨(Nat.le_of_ble_eq_true rfl), (Nat.le_of_ble_eq_true rfl)⟩) hK hP hD hS hA [1, 2, 3, 4, 5, 6, 7, 8, 9, 10, 11] [0, 12, 13, 14, 15, 16, 17, 18, 19, 20, 21, 22, 23, 24, 25, 26, 27, 28] rfl rfl (by decide) rfl (by decide) (by decide) rfl rfl rfl hl.1 rfl (Nat.le_of_ble_eq_true rfl) (Nat.le_of_ble_eq_true rfl) (Nat.le_of_ble_eq_true rfl) dX5_totalOf_92 (fun H locs hP hD hS => ?_)
      replace hP : va_P (dC, dI) vwCl (WX5 a b cI cJ cZ (LG_mk p8.2 (LG_R st) (LG_F st) (LG_S st) (LG_units st)) ++ [wayC w wa wm wo wh]) H := hP.sub [0, 18, 19, 20, 21, 22, 23, 24, 25, 26, 27, 28, 1, 2, 3, 4, 5, 6, 7, 8, 9, 10, 11, 12, 13, 14, 15, 16, 17] rfl
      replace hD : va_D A (WX5 a b cI cJ cZ (LG_mk p8.2 (LG_R st) (LG_F st) (LG_S st) (LG_units st)) ++ [wayC w wa wm wo wh]) := hD.sub [0, 18, 19, 20, 21, 22, 23, 24, 25, 26, 27, 28, 1, 2, 3, 4, 5, 6, 7, 8, 9, 10, 11, 12, 13, 14, 15, 16, 17] (by decide) rfl
      refine W.eq (g2 := F0 m 95 ls [.long p8.1]) rfl ?_
      refine lv_lstore (lv' := [(9, .long p8.1), (8, .int k0), (0, .ref (a 0)), (1, .int x1), (2, .int x2), (3, .int x3), (4, .ref w), (5, .long x5), (7, .int x7)]) hx hb dX5_totalOf_95 hl (by decide) rfl (fun ls hl => ?_)
      refine lv_lload hx hb dX5_totalOf_97 (lv_at hl 0 rfl) ?_
      refine lv_lconst (v := (0 : Int64)) hx hb dX5_totalOf_99 (by decide) ?_
      refine W.lcmp hx hb dX5_totalOf_100 ?_
      refine lv_if_eq (tgt := 159) hx hb dX5_totalOf_101 (by decide) (fun c10 => ?_) (fun c10 => ?_)
      · replace hf := it_p c10 hf
        exact b159 (LG_mk p8.2 (LG_R st) (LG_F st) (LG_S st) (LG_units st)) x1 x2 x3 x5 x7 _ hf kc ke H locs ls ⟨hP, hD, hS⟩ (lv_sub hl [2, 3, 4, 5, 6, 7, 8] rfl)
      · replace hf := it_n c10 hf
        refine lv_aload hx hb dX5_totalOf_104 (lv_at hl 6 rfl) ?_
        refine va_get (D := (dC, dI)) (ci := 4) (v := .int wo) (C := RX4) (T := TX4) (N := 4) hx hb hts kX5_totalOf_X4 hown hK hP 28 rfl rfl 2 (by decide) (hts _ mX5_totalOf_6) (fun _ h9 => h9) rfl dX5_totalOf_106 ?_
        refine lv_if_eq (tgt := 126) hx hb dX5_totalOf_109 (by decide) (fun c11 => ?_) (fun c11 => ?_)
        · replace hf := it_p c11 hf
          exact b126 (LG_mk p8.2 (LG_R st) (LG_F st) (LG_S st) (LG_units st)) x1 x2 x3 x5 x7 p8.1 _ hf kc ke H locs ls ⟨hP, hD, hS⟩ (lv_sub hl [2, 3, 4, 5, 6, 7, 8, 0] rfl)
        · replace hf := it_n c11 hf
          refine lv_aload_n hx hb dX5_totalOf_112 rfl (lv_at hl 2 rfl) ?_
          refine lv_iload hx hb dX5_totalOf_113 (lv_at hl 8 rfl) ?_
          refine lv_iload hx hb dX5_totalOf_115 (lv_at hl 1 rfl) ?_
          obtain ⟨p15, hc16, hf⟩ := bind_s hf
          refine cmV (wr := [wayC w wa wm wo wh]) ⟨hx, hb, hml, hown, hts⟩ (ct_X5_isDouble l dC dI a b cI cJ cZ H.size (LG_mk p8.2 (LG_R st) (LG_F st) (LG_S st) (LG_units st)) x7 k0 p15 hc16) (cwV 2 hts gX5_totalOf_X5_isDouble rfl rfl rfl (by decide +kernel) ⟨(Nat.le_of_ble_eq_true rfl), (Nat.le_of_ble_eq_true rfl)⟩) hK hP hD hS hA [0, 1, 2, 3, 4, 5, 6, 7, 8, 9, 10, 11, 12, 13, 14, 15, 16, 17, 18, 19, 20, 21, 22, 23, 24, 25, 26, 27] [28] rfl rfl (by decide) rfl (by decide) (by decide) rfl rfl rfl hl.1 rfl (Nat.le_of_ble_eq_true rfl) (Nat.le_of_ble_eq_true rfl) (Nat.le_of_ble_eq_true rfl) dX5_totalOf_117 (fun H locs hP hD hS => ?_)
          replace hP : va_P (dC, dI) vwCl (WX5 a b cI cJ cZ p15.2 ++ [wayC w wa wm wo wh]) H := hP.sub [1, 2, 3, 4, 5, 6, 7, 8, 9, 10, 11, 12, 13, 14, 15, 16, 17, 18, 19, 20, 21, 22, 23, 24, 25, 26, 27, 28, 0] rfl
          replace hD : va_D A (WX5 a b cI cJ cZ p15.2 ++ [wayC w wa wm wo wh]) := hD.sub [1, 2, 3, 4, 5, 6, 7, 8, 9, 10, 11, 12, 13, 14, 15, 16, 17, 18, 19, 20, 21, 22, 23, 24, 25, 26, 27, 28, 0] (by decide) rfl
          refine W.eq (g2 := F0 m 120 ls [.int p15.1]) rfl ?_
          refine lv_if_eq (tgt := 126) hx hb dX5_totalOf_120 (by decide) (fun c17 => ?_) (fun c17 => ?_)
          · replace hf := it_p c17 hf
            exact b126 p15.2 x1 x2 x3 x5 x7 p8.1 _ hf kc ke H locs ls ⟨hP, hD, hS⟩ (lv_sub hl [2, 3, 4, 5, 6, 7, 8, 0] rfl)
          · replace hf := it_n c17 hf
            refine lv_goto (tgt := 159) hx hb dX5_totalOf_123 (by decide) ?_
            exact b159 p15.2 x1 x2 x3 x5 x7 _ hf kc ke H locs ls ⟨hP, hD, hS⟩ (lv_sub hl [2, 3, 4, 5, 6, 7, 8] rfl)
    have b54 : ∀ (st : LG) (x1 : Int32) (x2 : Int32) (x3 : Int32) (x5 : Int64) (x7 : Int32) (x : (LG × Int64 × Int32) ⊕ ((LG × Int64 × Int32) ⊕ (Int64 × LG))), fX5_totalOf_b54 wa wm wo wh st x1 x2 x3 x5 x7 = some x → (∀ s', x = .inl s' → (∀ (H : Heap) (locs : List Loc) (ls : Array Slot), IN (dC, dI) (WX5 a b cI cJ cZ s'.1 ++ [wayC w wa wm wo wh]) A s.heap H locs → lv_has ls 13 [(0, .ref (a 0)), (1, .int x1), (2, .int x2), (3, .int x3), (4, .ref w), (5, .long s'.2.1), (7, .int s'.2.2)] → W p l e (headSpec wsX5_totalOf rX5_totalOf).room s m args below meth c H locs 0 0 QQ (F0 m 6 ls []))) → (∀ r, x = .inr r → ((∀ s', r = .inl s' → (∀ (H : Heap) (locs : List Loc) (ls : Array Slot), IN (dC, dI) (WX5 a b cI cJ cZ s'.1 ++ [wayC w wa wm wo wh]) A s.heap H locs → lv_has ls 13 [(0, .ref (a 0)), (1, .int x1), (2, .int x2), (3, .int x3), (4, .ref w), (5, .long s'.2.1), (7, .int s'.2.2)] → W p l e (headSpec wsX5_totalOf rX5_totalOf).room s m args below meth c H locs 0 0 QQ (F0 m 165 ls []))) ∧ (∀ v, r = .inr v → some v = some res))) → (∀ (H : Heap) (locs : List Loc) (ls : Array Slot), IN (dC, dI) (WX5 a b cI cJ cZ st ++ [wayC w wa wm wo wh]) A s.heap H locs → lv_has ls 13 [(0, .ref (a 0)), (1, .int x1), (2, .int x2), (3, .int x3), (4, .ref w), (5, .long x5), (7, .int x7)] → W p l e (headSpec wsX5_totalOf rX5_totalOf).room s m args below meth c H locs 0 0 QQ (F0 m 54 ls [])) := by
      intro st x1 x2 x3 x5 x7 x hf kc ke
      intro H locs ls hin hl
      obtain ⟨hP, hD, hS⟩ := hin
      unfold fX5_totalOf_b54 at hf
      refine lv_iload_n hx hb dX5_totalOf_54 rfl (lv_at hl 3 rfl) ?_
      refine lv_bipush (v := (-9 : Int32)) hx hb dX5_totalOf_55 (by decide) ?_
      refine lv_icmp_ne (tgt := 73) hx hb dX5_totalOf_57 (by decide) (fun c6 => ?_) (fun c6 => ?_)
      · replace hf := it_n c6 hf
        refine lv_iload_n hx hb dX5_totalOf_73 rfl (lv_at hl 3 rfl) ?_
        exact b74 st x1 x2 x3 x5 x7 x3 _ hf kc ke H locs ls ⟨hP, hD, hS⟩ (lv_sub hl [0, 1, 2, 3, 4, 5, 6] rfl)
      · replace hf := it_p c6 hf
        refine lv_aload_n hx hb dX5_totalOf_60 rfl (lv_at hl 0 rfl) ?_
        refine va_get (D := (dC, dI)) (ci := 5) (v := .ref (a 12)) (C := RX5) (T := TX5) (N := 5) hx hb hts kX5_totalOf_X5 hown hK hP 0 rfl rfl 1 (by decide) (hts _ mX5_totalOf_1) (fun _ h9 => h9) rfl dX5_totalOf_61 ?_
        refine va_get (D := (dC, dI)) (ci := 2) (v := .ref (a 16)) (C := RX2) (T := TX2) (N := 7) hx hb hts kX5_totalOf_X2 hown hK hP 12 rfl rfl 3 (by decide) (hts _ mX5_totalOf_4) (fun _ h9 => h9) rfl dX5_totalOf_64 ?_
        refine lv_iload hx hb dX5_totalOf_67 (lv_at hl 6 rfl) ?_
        obtain ⟨hi18, hf⟩ := it_s hf
        refine va_iald hx hb hK hP 16 0 rfl rfl (inb_in hi18) dX5_totalOf_69 ?_
        refine lv_goto (tgt := 74) hx hb dX5_totalOf_70 (by decide) ?_
        exact b74 st x1 x2 x3 x5 x7 ((RS_day (LG_R st)) (x7).toNatClampNeg) _ hf kc ke H locs ls ⟨hP, hD, hS⟩ (lv_sub hl [0, 1, 2, 3, 4, 5, 6] rfl)
    refine loop_ind (P := fun s0 => ∀ (H : Heap) (locs : List Loc) (ls : Array Slot), IN (dC, dI) (WX5 a b cI cJ cZ s0.1 ++ [wayC w wa wm wo wh]) A s.heap H locs → lv_has ls 13 [(0, .ref (a 0)), (1, .int x1), (2, .int x2), (3, .int x3), (4, .ref w), (5, .long s0.2.1), (7, .int s0.2.2)] → W p l e (headSpec wsX5_totalOf rX5_totalOf).room s m args below meth c H locs 0 0 QQ (F0 m 6 ls [])) (Q := fun r => (∀ s', r = .inl s' → (∀ (H : Heap) (locs : List Loc) (ls : Array Slot), IN (dC, dI) (WX5 a b cI cJ cZ s'.1 ++ [wayC w wa wm wo wh]) A s.heap H locs → lv_has ls 13 [(0, .ref (a 0)), (1, .int x1), (2, .int x2), (3, .int x3), (4, .ref w), (5, .long s'.2.1), (7, .int s'.2.2)] → W p l e (headSpec wsX5_totalOf rX5_totalOf).room s m args below meth c H locs 0 0 QQ (F0 m 165 ls []))) ∧ (∀ v, r = .inr v → some v = some res)) ?_ fu s0 r
    clear fu s0 r
    rintro ⟨st, x5, x7⟩ x hf kc ke
    replace hf : fX5_totalOf_l6 wa wm wo wh x1 x2 x3 st x5 x7 = some x := hf
    replace kc : (∀ s', x = .inl s' → (∀ (H : Heap) (locs : List Loc) (ls : Array Slot), IN (dC, dI) (WX5 a b cI cJ cZ s'.1 ++ [wayC w wa wm wo wh]) A s.heap H locs → lv_has ls 13 [(0, .ref (a 0)), (1, .int x1), (2, .int x2), (3, .int x3), (4, .ref w), (5, .long s'.2.1), (7, .int s'.2.2)] → W p l e (headSpec wsX5_totalOf rX5_totalOf).room s m args below meth c H locs 0 0 QQ (F0 m 6 ls []))) := kc
    replace ke : (∀ r, x = .inr r → ((∀ s', r = .inl s' → (∀ (H : Heap) (locs : List Loc) (ls : Array Slot), IN (dC, dI) (WX5 a b cI cJ cZ s'.1 ++ [wayC w wa wm wo wh]) A s.heap H locs → lv_has ls 13 [(0, .ref (a 0)), (1, .int x1), (2, .int x2), (3, .int x3), (4, .ref w), (5, .long s'.2.1), (7, .int s'.2.2)] → W p l e (headSpec wsX5_totalOf rX5_totalOf).room s m args below meth c H locs 0 0 QQ (F0 m 165 ls []))) ∧ (∀ v, r = .inr v → some v = some res))) := ke
    intro H locs ls hin hl
    obtain ⟨hP, hD, hS⟩ := hin
    unfold fX5_totalOf_l6 at hf
    refine lv_iload hx hb dX5_totalOf_6 (lv_at hl 6 rfl) ?_
    refine lv_aload_n hx hb dX5_totalOf_8 rfl (lv_at hl 0 rfl) ?_
    refine va_get (D := (dC, dI)) (ci := 5) (v := .ref (a 12)) (C := RX5) (T := TX5) (N := 5) hx hb hts kX5_totalOf_X5 hown hK hP 0 rfl rfl 1 (by decide) (hts _ mX5_totalOf_1) (fun _ h9 => h9) rfl dX5_totalOf_9 ?_
    refine va_get (D := (dC, dI)) (ci := 2) (v := .int (RS_size (LG_R st))) (C := RX2) (T := TX2) (N := 7) hx hb hts kX5_totalOf_X2 hown hK hP 12 rfl rfl 6 (by decide) (hts _ mX5_totalOf_2) (fun _ h9 => h9) rfl dX5_totalOf_12 ?_
    refine lv_icmp_ge (tgt := 165) hx hb dX5_totalOf_15 (by decide) (fun c1 => ?_) (fun c1 => ?_)
    · replace hf := it_p c1 hf
      obtain rfl := Option.some.inj hf
      exact (ke _ rfl).1 _ rfl H locs ls ⟨hP, hD, hS⟩ (lv_sub hl [0, 1, 2, 3, 4, 5, 6] rfl)
    · replace hf := it_n c1 hf
      refine lv_aload_n hx hb dX5_totalOf_18 rfl (lv_at hl 0 rfl) ?_
      refine va_get (D := (dC, dI)) (ci := 5) (v := .ref (a 12)) (C := RX5) (T := TX5) (N := 5) hx hb hts kX5_totalOf_X5 hown hK hP 0 rfl rfl 1 (by decide) (hts _ mX5_totalOf_1) (fun _ h9 => h9) rfl dX5_totalOf_19 ?_
      refine lv_iload hx hb dX5_totalOf_22 (lv_at hl 6 rfl) ?_
      refine lv_iload_n hx hb dX5_totalOf_24 rfl (lv_at hl 2 rfl) ?_
      obtain ⟨r2, hc3, hf⟩ := bind_s hf
      refine cpV (v := .int r2) ⟨hx, hb, hml, hown, hts⟩ (ct_X2_isOfYear l dC dI a b cI cJ cZ (LG_R st) x7 x2 r2 hc3) (cwV 2 hts gX5_totalOf_X2_isOfYear rfl rfl rfl (by decide +kernel) ⟨(Nat.le_of_ble_eq_true rfl), (Nat.le_of_ble_eq_true rfl)⟩) hK hP [12, 13, 14, 15, 16, 17, 18] rfl rfl rfl rfl hl.1 rfl (Nat.le_of_ble_eq_true rfl) (Nat.le_of_ble_eq_true rfl) (Nat.le_of_ble_eq_true rfl) dX5_totalOf_25 ?_
      refine lv_if_eq (tgt := 159) hx hb dX5_totalOf_28 (by decide) (fun c4 => ?_) (fun c4 => ?_)
      · replace hf := it_p c4 hf
        exact b159 st x1 x2 x3 x5 x7 _ hf kc ke H locs ls ⟨hP, hD, hS⟩ (lv_sub hl [0, 1, 2, 3, 4, 5, 6] rfl)
      · replace hf := it_n c4 hf
        refine lv_iload_n hx hb dX5_totalOf_31 rfl (lv_at hl 1 rfl) ?_
        refine lv_bipush (v := (-9 : Int32)) hx hb dX5_totalOf_32 (by decide) ?_
        refine lv_icmp_eq (tgt := 54) hx hb dX5_totalOf_34 (by decide) (fun c5 => ?_) (fun c5 => ?_)
        · replace hf := it_p c5 hf
          exact b54 st x1 x2 x3 x5 x7 _ hf kc ke H locs ls ⟨hP, hD, hS⟩ (lv_sub hl [0, 1, 2, 3, 4, 5, 6] rfl)
        · replace hf := it_n c5 hf
          refine lv_aload_n hx hb dX5_totalOf_37 rfl (lv_at hl 0 rfl) ?_
          refine va_get (D := (dC, dI)) (ci := 5) (v := .ref (a 12)) (C := RX5) (T := TX5) (N := 5) hx hb hts kX5_totalOf_X5 hown hK hP 0 rfl rfl 1 (by decide) (hts _ mX5_totalOf_1) (fun _ h9 => h9) rfl dX5_totalOf_38 ?_
          refine va_get (D := (dC, dI)) (ci := 2) (v := .ref (a 13)) (C := RX2) (T := TX2) (N := 7) hx hb hts kX5_totalOf_X2 hown hK hP 12 rfl rfl 0 (by decide) (hts _ mX5_totalOf_3) (fun _ h9 => h9) rfl dX5_totalOf_41 ?_
          refine lv_iload hx hb dX5_totalOf_44 (lv_at hl 6 rfl) ?_
          obtain ⟨hi19, hf⟩ := it_s hf
          refine va_iald hx hb hK hP 13 0 rfl rfl (inb_in hi19) dX5_totalOf_46 ?_
          refine lv_iload_n hx hb dX5_totalOf_47 rfl (lv_at hl 1 rfl) ?_
          refine lv_icmp_eq (tgt := 54) hx hb dX5_totalOf_48 (by decide) (fun c20 => ?_) (fun c20 => ?_)
          · replace hf := it_p c20 hf
            exact b54 st x1 x2 x3 x5 x7 _ hf kc ke H locs ls ⟨hP, hD, hS⟩ (lv_sub hl [0, 1, 2, 3, 4, 5, 6] rfl)
          · replace hf := it_n c20 hf
            refine lv_goto (tgt := 159) hx hb dX5_totalOf_51 (by decide) ?_
            exact b159 st x1 x2 x3 x5 x7 _ hf kc ke H locs ls ⟨hP, hD, hS⟩ (lv_sub hl [0, 1, 2, 3, 4, 5, 6] rfl)
  have main : ∀ (H : Heap) (locs : List Loc) (ls : Array Slot), IN (dC, dI) (WX5 a b cI cJ cZ st ++ [wayC w wa wm wo wh]) A s.heap H locs → lv_has ls 13 [(0, .ref (a 0)), (1, .int x1), (2, .int x2), (3, .int x3), (4, .ref w)] → W p l e (headSpec wsX5_totalOf rX5_totalOf).room s m args below meth c H locs 0 0 QQ (F0 m 0 ls []) := by
    intro H locs ls hin hl
    obtain ⟨hP, hD, hS⟩ := hin
    unfold fX5_totalOf at hf
    refine lv_lconst (v := (0 : Int64)) hx hb dX5_totalOf_0 (by decide) ?_
    refine lv_lstore (lv' := [(5, .long (0 : Int64)), (0, .ref (a 0)), (1, .int x1), (2, .int x2), (3, .int x3), (4, .ref w)]) hx hb dX5_totalOf_1 hl (by decide) rfl (fun ls hl => ?_)
    refine lv_iconst (v := (0 : Int32)) hx hb dX5_totalOf_3 (by decide) ?_
    refine lv_istore (lv' := [(7, .int (0 : Int32)), (5, .long (0 : Int64)), (0, .ref (a 0)), (1, .int x1), (2, .int x2), (3, .int x3), (4, .ref w)]) hx hb dX5_totalOf_4 hl (by decide) rfl (fun ls hl => ?_)
    obtain ⟨y21, hlp, hf⟩ := bind_s hf
    refine l6 x1 x2 x3 fuelN (st, (0 : Int64), (0 : Int32)) y21 hlp ?_ H locs ls ⟨hP, hD, hS⟩ (lv_sub hl [2, 3, 4, 5, 6, 1, 0] rfl)
    refine ⟨fun e_ he_ => ?_, fun v_ hv_ => ?_⟩
    · subst he_
      replace hf : (some (e_.2.1, e_.1)) = some res := hf
      intro H locs ls hin hl
      obtain ⟨hP, hD, hS⟩ := hin
      refine lv_lload hx hb dX5_totalOf_165 (lv_at hl 5 rfl) ?_
      obtain rfl := Option.some.inj hf
      rw [hQ]
      exact W.lret hx hb hr (fun t ht hW => ⟨rfl, ⟨by rw [ht]; exact hP, hD⟩, hS.F ht⟩) hS.2.2 dX5_totalOf_167
    · subst hv_
      exact hf
  exact main s.heap [] ls ⟨hP, hD, va_S.rf⟩ hl
def rX5_total : Room := { frames := 6, cells := 1, slots := 4, locals := 163 }
theorem kX5_total_X4 : ∀ w ∈ wsX40, w ∈ wsX5_total := fun w h => (List.mem_cons_of_mem _ (List.mem_append_left _ (List.mem_append_left _ (List.mem_append_left _ (List.mem_append_left _ (List.mem_append_right _ h))))))
theorem mX5_total_3 : Cond.classLink RX5 123 RX4 ∈ wsX5_total := List.mem_of_getElem? (i := 3) rfl
theorem mX5_total_4 : Cond.instantiable RX4 4 ∈ wsX5_total := List.mem_of_getElem? (i := 4) rfl
theorem mX5_total_5 : Cond.initialized RX4 ∈ wsX5_total := List.mem_of_getElem? (i := 5) rfl
theorem mX5_total_16 : Cond.methodLink RX5 125 yX4_init ∈ wsX5_total := List.mem_of_getElem? (i := 16) rfl
theorem mX5_total_17 : Cond.instanceMethod yX4_init ∈ wsX5_total := List.mem_of_getElem? (i := 17) rfl
theorem mX5_total_2 : Cond.constantLong RX5 63 (-1) ∈ wsX5_total := List.mem_of_getElem? (i := 2) rfl
theorem mX5_total_1 : Cond.constantLong RX5 69 (-2) ∈ wsX5_total := List.mem_of_getElem? (i := 1) rfl
set_option maxHeartbeats 4000000 in
set_option maxRecDepth 100000 in
theorem ct_X5_total (l : Launch) (dC : Nat → ClassId) (dI : Nat → Nat → Nat) (a b : Nat → Nat) (cI cJ cZ : ClassId) (sz : Nat) (st : LG) (x1 : Int32) (x2 : Int32) (x3 : Int32) (x4 : Int32) (x5 : Int32) (res : Int64 × LG) (hf : fX5_total st x1 x2 x3 x4 x5 = some res) : Met l yX5_total wsX5_total rX5_total (Pm (dC, dI) (tyT cI cJ cZ) (WX5 a b cI cJ cZ st) sz [.ref (a 0), .int x1, .int x2, .int x3, .int x4, .int x5]) (Qm (dC, dI) (some (.long res.1)) (WX5 a b cI cJ cZ res.2) (va_A (WX5 a b cI cJ cZ st) sz)) 1 4 (va_A (WX5 a b cI cJ cZ st) sz) := by
  refine Met.ofW (cc := cX5_total) (maxL := 6) (ret := (some .long)) (by decide) rfl ?_
  intro p e s m args below meth c s₁ B hml hv
  obtain ⟨hargs, hsz, hP, hK, hD0⟩ := hv
  have hx := B.exec
  have hb := B.bytes
  have hr := B.returns
  have hts := atoms_spec (ws := wsX5_total) B.pre
  have hown : s.vm.findClass RX5 = some m.cls := findClass_of_methodNamed B.named
  have hlocks := B.notSynchronized
  subst hsz
  have hD := hD0.self (sz := s.heap.size)
  generalize hAe : va_A (WX5 a b cI cJ cZ st) s.heap.size = A at hD ⊢
  have hA : ∀ q : Nat, s.heap.size ≤ q → A q := fun q h => by rw [← hAe]; exact Or.inr h
  have hl := lv_entry ([.ref (a 0), .int x1, .int x2, .int x3, .int x4, .int x5]) (n := 6) (Nat.le_of_ble_eq_true rfl)
  refine W.eq (hargs ▸ lg_entry_eq m [.ref (a 0), .int x1, .int x2, .int x3, .int x4, .int x5] 6) ?_
  generalize (lg_sl ([.ref (a 0), .int x1, .int x2, .int x3, .int x4, .int x5]) ++ List.replicate (6 - (lg_sl ([.ref (a 0), .int x1, .int x2, .int x3, .int x4, .int x5])).length) Slot.unset).toArray = ls at hl ⊢
  have hl : lv_has ls 6 [(0, .ref (a 0)), (1, .int x1), (2, .int x2), (3, .int x3), (4, .int x4), (5, .int x5)] := hl
  obtain ⟨QQ, hQ⟩ : ∃ QQ : State → Prop, QQ = MQ below (Qm (dC, dI) (some (.long res.1)) (WX5 a b cI cJ cZ res.2) A) args s 1 4 (A) := ⟨_, rfl⟩
  rw [← hQ]
  have main : ∀ (H : Heap) (locs : List Loc) (ls : Array Slot), IN (dC, dI) (WX5 a b cI cJ cZ st) A s.heap H locs → lv_has ls 6 [(0, .ref (a 0)), (1, .int x1), (2, .int x2), (3, .int x3), (4, .int x4), (5, .int x5)] → W p l e (headSpec wsX5_total rX5_total).room s m args below meth c H locs 0 0 QQ (F0 m 0 ls []) := by
    intro H locs ls hin hl
    obtain ⟨hP, hD, hS⟩ := hin
    unfold fX5_total at hf
    refine lv_iload_n hx hb dX5_total_0 rfl (lv_at hl 1 rfl) ?_
    obtain ⟨r1, hc2, hf⟩ := bind_s hf
    refine cpS (v := .int r1) ⟨hx, hb, hml, hown, hts⟩ (ct_X5_isYear l dC dI cI cJ cZ x1 r1 hc2) (va_cwS 1 hts gX5_total_X5_isYear rfl rfl rfl (by decide +kernel) ⟨(Nat.le_of_ble_eq_true rfl), (Nat.le_of_ble_eq_true rfl)⟩) hK hP [] rfl rfl hl.1 rfl (Nat.le_of_ble_eq_true rfl) (Nat.le_of_ble_eq_true rfl) (Nat.le_of_ble_eq_true rfl) dX5_total_1 ?_
    refine lv_if_ne (tgt := 11) hx hb dX5_total_4 (by decide) (fun c3 => ?_) (fun c3 => ?_)
    · replace hf := it_n c3 hf
      refine lv_aload_n hx hb dX5_total_11 rfl (lv_at hl 0 rfl) ?_
      refine lv_iload_n hx hb dX5_total_12 rfl (lv_at hl 2 rfl) ?_
      obtain ⟨r4, hc5, hf⟩ := bind_s hf
      refine cpV (v := .int r4) ⟨hx, hb, hml, hown, hts⟩ (ct_X5_isAsOf l dC dI a b cI cJ cZ st x2 r4 hc5) (cwV 1 hts gX5_total_X5_isAsOf rfl rfl rfl (by decide +kernel) ⟨(Nat.le_of_ble_eq_true rfl), (Nat.le_of_ble_eq_true rfl)⟩) hK hP [0, 1, 2, 3, 4, 5, 6, 7, 8, 9, 10, 11, 12, 13, 14, 15, 16, 17, 18, 19, 20, 21, 22, 23, 24, 25, 26, 27] rfl rfl rfl rfl hl.1 rfl (Nat.le_of_ble_eq_true rfl) (Nat.le_of_ble_eq_true rfl) (Nat.le_of_ble_eq_true rfl) dX5_total_13 ?_
      refine lv_if_ne (tgt := 23) hx hb dX5_total_16 (by decide) (fun c6 => ?_) (fun c6 => ?_)
      · replace hf := it_n c6 hf
        refine lv_aload_n hx hb dX5_total_23 rfl (lv_at hl 0 rfl) ?_
        refine lv_bipush (v := (-9 : Int32)) hx hb dX5_total_24 (by decide) ?_
        refine lv_iload_n hx hb dX5_total_26 rfl (lv_at hl 1 rfl) ?_
        refine lv_bipush (v := (-9 : Int32)) hx hb dX5_total_27 (by decide) ?_
        refine va_new (ci := 4) (fs := [.int 0, .int 0, .int 0, .int 0]) (C := RX4) (T := TX4) (N := 4) hx hb hts kX5_total_X4 tyX4 tyX4_ok hown (hts _ mX5_total_3) (hts _ mX5_total_4) (hts _ mX5_total_5) hK hP hD hS hA rfl (fun j hj => by rcases (show j = 0 ∨ j = 1 ∨ j = 2 ∨ j = 3 by omega) with rfl | rfl | rfl | rfl <;> rfl) (Nat.le_of_ble_eq_true rfl) (Nat.le_of_ble_eq_true rfl) dX5_total_29 (fun w7 H hP hD hS => ?_)
        replace hP : va_P (dC, dI) vwCl (WX5 a b cI cJ cZ st ++ [wayC w7 0 0 0 0]) H := hP
        replace hD : va_D A (WX5 a b cI cJ cZ st ++ [wayC w7 0 0 0 0]) := hD
        refine lv_dup hx hb dX5_total_32 rfl ?_
        refine lv_iload_n hx hb dX5_total_33 rfl (lv_at hl 2 rfl) ?_
        refine lv_iload_n hx hb dX5_total_34 rfl (lv_at hl 3 rfl) ?_
        refine lv_iload hx hb dX5_total_35 (lv_at hl 4 rfl) ?_
        refine lv_iload hx hb dX5_total_37 (lv_at hl 5 rfl) ?_
        obtain ⟨hb_8, hf⟩ := it_s hf
        obtain ⟨hb_9, hf⟩ := it_s hf
        obtain ⟨hb_10, hf⟩ := it_s hf
        refine cmI (wr := (WX5 a b cI cJ cZ st)) ⟨hx, hb, hml, hown, hts⟩ (ct_X4_init l dC dI cI cJ cZ H.size w7 x2 x3 x4 x5 hb_8 hb_9 hb_10) (cwI 4 hts gX5_total_X4_init rfl rfl rfl (hts _ mX5_total_5) (hts _ mX5_total_16) (hts _ mX5_total_17) rfl (by decide +kernel) ⟨(Nat.le_of_ble_eq_true rfl), (Nat.le_of_ble_eq_true rfl)⟩) hK hP hD hS hA [28] [0, 1, 2, 3, 4, 5, 6, 7, 8, 9, 10, 11, 12, 13, 14, 15, 16, 17, 18, 19, 20, 21, 22, 23, 24, 25, 26, 27] rfl rfl (by decide) rfl (by decide) (by decide) rfl hl.1 rfl (Nat.le_of_ble_eq_true rfl) (Nat.le_of_ble_eq_true rfl) (Nat.le_of_ble_eq_true rfl) dX5_total_39 (fun _ H locs hP hD hS => ?_)
        replace hP : va_P (dC, dI) vwCl (WX5 a b cI cJ cZ st ++ [wayC w7 x2 x3 x4 x5]) H := hP
        replace hD : va_D A (WX5 a b cI cJ cZ st ++ [wayC w7 x2 x3 x4 x5]) := hD
        obtain ⟨p11, hc12, hf⟩ := bind_s hf
        refine cmV (wr := []) ⟨hx, hb, hml, hown, hts⟩ (ct_X5_totalOf l dC dI a b cI cJ cZ H.size w7 x2 x3 x4 x5 st (-9 : Int32) x1 (-9 : Int32) p11 hc12) (cwV 4 hts gX5_total_X5_totalOf rfl rfl rfl (by decide +kernel) ⟨(Nat.le_of_ble_eq_true rfl), (Nat.le_of_ble_eq_true rfl)⟩) hK hP hD hS hA [0, 1, 2, 3, 4, 5, 6, 7, 8, 9, 10, 11, 12, 13, 14, 15, 16, 17, 18, 19, 20, 21, 22, 23, 24, 25, 26, 27, 28] [] rfl rfl (by decide) rfl (by decide) (by decide) rfl rfl rfl hl.1 rfl (Nat.le_of_ble_eq_true rfl) (Nat.le_of_ble_eq_true rfl) (Nat.le_of_ble_eq_true rfl) dX5_total_42 (fun H locs hP hD hS => ?_)
        replace hP : va_P (dC, dI) vwCl (WX5 a b cI cJ cZ p11.2) H := hP.sub [0, 1, 2, 3, 4, 5, 6, 7, 8, 9, 10, 11, 12, 13, 14, 15, 16, 17, 18, 19, 20, 21, 22, 23, 24, 25, 26, 27] rfl
        replace hD : va_D A (WX5 a b cI cJ cZ p11.2) := hD.sub [0, 1, 2, 3, 4, 5, 6, 7, 8, 9, 10, 11, 12, 13, 14, 15, 16, 17, 18, 19, 20, 21, 22, 23, 24, 25, 26, 27] (by decide) rfl
        refine W.eq (g2 := F0 m 45 ls [.long p11.1]) rfl ?_
        obtain rfl := Option.some.inj hf
        rw [hQ]
        exact W.lret hx hb hr (fun t ht hW => ⟨rfl, ⟨by rw [ht]; exact hP, hD⟩, hS.F ht⟩) hS.2.2 dX5_total_45
      · replace hf := it_p c6 hf
        refine lv_ldc2 (v := (-1 : Int64)) hx hb hown (hts _ mX5_total_2) dX5_total_19 ?_
        obtain rfl := Option.some.inj hf
        refine W.widen (k := 1) (n := 4) (Nat.le_of_ble_eq_true rfl) (Nat.le_of_ble_eq_true rfl) ?_
        rw [hQ]
        exact W.lret hx hb hr (fun t ht hW => ⟨rfl, ⟨by rw [ht]; exact hP, hD⟩, hS.F ht⟩) hS.2.2 dX5_total_22
    · replace hf := it_p c3 hf
      refine lv_ldc2 (v := (-2 : Int64)) hx hb hown (hts _ mX5_total_1) dX5_total_7 ?_
      obtain rfl := Option.some.inj hf
      refine W.widen (k := 1) (n := 4) (Nat.le_of_ble_eq_true rfl) (Nat.le_of_ble_eq_true rfl) ?_
      rw [hQ]
      exact W.lret hx hb hr (fun t ht hW => ⟨rfl, ⟨by rw [ht]; exact hP, hD⟩, hS.F ht⟩) hS.2.2 dX5_total_10
  exact main s.heap [] ls ⟨hP, hD, va_S.rf⟩ hl
def rX5_anew : Room := { frames := 6, cells := 1, slots := 4, locals := 163 }
theorem mX5_anew_1 : Cond.constantLong RX5 69 (-2) ∈ wsX5_anew := List.mem_of_getElem? (i := 1) rfl
theorem kX5_anew_X4 : ∀ w ∈ wsX40, w ∈ wsX5_anew := fun w h => (List.mem_cons_of_mem _ (List.mem_append_left _ (List.mem_append_left _ (List.mem_append_left _ (List.mem_append_left _ (List.mem_append_right _ h))))))
theorem mX5_anew_3 : Cond.classLink RX5 123 RX4 ∈ wsX5_anew := List.mem_of_getElem? (i := 3) rfl
theorem mX5_anew_4 : Cond.instantiable RX4 4 ∈ wsX5_anew := List.mem_of_getElem? (i := 4) rfl
theorem mX5_anew_5 : Cond.initialized RX4 ∈ wsX5_anew := List.mem_of_getElem? (i := 5) rfl
theorem mX5_anew_19 : Cond.methodLink RX5 125 yX4_init ∈ wsX5_anew := List.mem_of_getElem? (i := 19) rfl
theorem mX5_anew_20 : Cond.instanceMethod yX4_init ∈ wsX5_anew := List.mem_of_getElem? (i := 20) rfl
theorem mX5_anew_2 : Cond.constantLong RX5 63 (-1) ∈ wsX5_anew := List.mem_of_getElem? (i := 2) rfl
set_option maxHeartbeats 4000000 in
set_option maxRecDepth 100000 in
theorem ct_X5_anew (l : Launch) (dC : Nat → ClassId) (dI : Nat → Nat → Nat) (a b : Nat → Nat) (cI cJ cZ : ClassId) (sz : Nat) (st : LG) (x1 : Int32) (x2 : Int32) (x3 : Int32) (x4 : Int32) (x5 : Int32) (x6 : Int32) (res : Int64 × LG) (hf : fX5_anew st x1 x2 x3 x4 x5 x6 = some res) : Met l yX5_anew wsX5_anew rX5_anew (Pm (dC, dI) (tyT cI cJ cZ) (WX5 a b cI cJ cZ st) sz [.ref (a 0), .int x1, .int x2, .int x3, .int x4, .int x5, .int x6]) (Qm (dC, dI) (some (.long res.1)) (WX5 a b cI cJ cZ res.2) (va_A (WX5 a b cI cJ cZ st) sz)) 1 4 (va_A (WX5 a b cI cJ cZ st) sz) := by
  refine Met.ofW (cc := cX5_anew) (maxL := 7) (ret := (some .long)) (by decide) rfl ?_
  intro p e s m args below meth c s₁ B hml hv
  obtain ⟨hargs, hsz, hP, hK, hD0⟩ := hv
  have hx := B.exec
  have hb := B.bytes
  have hr := B.returns
  have hts := atoms_spec (ws := wsX5_anew) B.pre
  have hown : s.vm.findClass RX5 = some m.cls := findClass_of_methodNamed B.named
  have hlocks := B.notSynchronized
  subst hsz
  have hD := hD0.self (sz := s.heap.size)
  generalize hAe : va_A (WX5 a b cI cJ cZ st) s.heap.size = A at hD ⊢
  have hA : ∀ q : Nat, s.heap.size ≤ q → A q := fun q h => by rw [← hAe]; exact Or.inr h
  have hl := lv_entry ([.ref (a 0), .int x1, .int x2, .int x3, .int x4, .int x5, .int x6]) (n := 7) (Nat.le_of_ble_eq_true rfl)
  refine W.eq (hargs ▸ lg_entry_eq m [.ref (a 0), .int x1, .int x2, .int x3, .int x4, .int x5, .int x6] 7) ?_
  generalize (lg_sl ([.ref (a 0), .int x1, .int x2, .int x3, .int x4, .int x5, .int x6]) ++ List.replicate (7 - (lg_sl ([.ref (a 0), .int x1, .int x2, .int x3, .int x4, .int x5, .int x6])).length) Slot.unset).toArray = ls at hl ⊢
  have hl : lv_has ls 7 [(0, .ref (a 0)), (1, .int x1), (2, .int x2), (3, .int x3), (4, .int x4), (5, .int x5), (6, .int x6)] := hl
  obtain ⟨QQ, hQ⟩ : ∃ QQ : State → Prop, QQ = MQ below (Qm (dC, dI) (some (.long res.1)) (WX5 a b cI cJ cZ res.2) A) args s 1 4 (A) := ⟨_, rfl⟩
  rw [← hQ]
  have main : ∀ (H : Heap) (locs : List Loc) (ls : Array Slot), IN (dC, dI) (WX5 a b cI cJ cZ st) A s.heap H locs → lv_has ls 7 [(0, .ref (a 0)), (1, .int x1), (2, .int x2), (3, .int x3), (4, .int x4), (5, .int x5), (6, .int x6)] → W p l e (headSpec wsX5_anew rX5_anew).room s m args below meth c H locs 0 0 QQ (F0 m 0 ls []) := by
    intro H locs ls hin hl
    obtain ⟨hP, hD, hS⟩ := hin
    unfold fX5_anew at hf
    refine lv_iload_n hx hb dX5_anew_0 rfl (lv_at hl 1 rfl) ?_
    obtain ⟨r1, hc2, hf⟩ := bind_s hf
    refine cpS (v := .int r1) ⟨hx, hb, hml, hown, hts⟩ (ct_X5_isYear l dC dI cI cJ cZ x1 r1 hc2) (va_cwS 1 hts gX5_anew_X5_isYear rfl rfl rfl (by decide +kernel) ⟨(Nat.le_of_ble_eq_true rfl), (Nat.le_of_ble_eq_true rfl)⟩) hK hP [] rfl rfl hl.1 rfl (Nat.le_of_ble_eq_true rfl) (Nat.le_of_ble_eq_true rfl) (Nat.le_of_ble_eq_true rfl) dX5_anew_1 ?_
    refine lv_if_eq (tgt := 14) hx hb dX5_anew_4 (by decide) (fun c3 => ?_) (fun c3 => ?_)
    · replace hf := it_p c3 hf
      refine lv_ldc2 (v := (-2 : Int64)) hx hb hown (hts _ mX5_anew_1) dX5_anew_14 ?_
      obtain rfl := Option.some.inj hf
      refine W.widen (k := 1) (n := 4) (Nat.le_of_ble_eq_true rfl) (Nat.le_of_ble_eq_true rfl) ?_
      rw [hQ]
      exact W.lret hx hb hr (fun t ht hW => ⟨rfl, ⟨by rw [ht]; exact hP, hD⟩, hS.F ht⟩) hS.2.2 dX5_anew_17
    · replace hf := it_n c3 hf
      refine lv_iload_n hx hb dX5_anew_7 rfl (lv_at hl 2 rfl) ?_
      obtain ⟨r4, hc5, hf⟩ := bind_s hf
      refine cpS (v := .int r4) ⟨hx, hb, hml, hown, hts⟩ (ct_X5_isDay l dC dI cI cJ cZ x2 r4 hc5) (va_cwS 1 hts gX5_anew_X5_isDay rfl rfl rfl (by decide +kernel) ⟨(Nat.le_of_ble_eq_true rfl), (Nat.le_of_ble_eq_true rfl)⟩) hK hP [] rfl rfl hl.1 rfl (Nat.le_of_ble_eq_true rfl) (Nat.le_of_ble_eq_true rfl) (Nat.le_of_ble_eq_true rfl) dX5_anew_8 ?_
      refine lv_if_ne (tgt := 18) hx hb dX5_anew_11 (by decide) (fun c6 => ?_) (fun c6 => ?_)
      · replace hf := it_n c6 hf
        refine lv_aload_n hx hb dX5_anew_18 rfl (lv_at hl 0 rfl) ?_
        refine lv_iload_n hx hb dX5_anew_19 rfl (lv_at hl 3 rfl) ?_
        obtain ⟨r7, hc8, hf⟩ := bind_s hf
        refine cpV (v := .int r7) ⟨hx, hb, hml, hown, hts⟩ (ct_X5_isAsOf l dC dI a b cI cJ cZ st x3 r7 hc8) (cwV 1 hts gX5_anew_X5_isAsOf rfl rfl rfl (by decide +kernel) ⟨(Nat.le_of_ble_eq_true rfl), (Nat.le_of_ble_eq_true rfl)⟩) hK hP [0, 1, 2, 3, 4, 5, 6, 7, 8, 9, 10, 11, 12, 13, 14, 15, 16, 17, 18, 19, 20, 21, 22, 23, 24, 25, 26, 27] rfl rfl rfl rfl hl.1 rfl (Nat.le_of_ble_eq_true rfl) (Nat.le_of_ble_eq_true rfl) (Nat.le_of_ble_eq_true rfl) dX5_anew_20 ?_
        refine lv_if_ne (tgt := 30) hx hb dX5_anew_23 (by decide) (fun c9 => ?_) (fun c9 => ?_)
        · replace hf := it_n c9 hf
          refine lv_aload_n hx hb dX5_anew_30 rfl (lv_at hl 0 rfl) ?_
          refine lv_bipush (v := (-9 : Int32)) hx hb dX5_anew_31 (by decide) ?_
          refine lv_iload_n hx hb dX5_anew_33 rfl (lv_at hl 1 rfl) ?_
          refine lv_iload_n hx hb dX5_anew_34 rfl (lv_at hl 2 rfl) ?_
          refine va_new (ci := 4) (fs := [.int 0, .int 0, .int 0, .int 0]) (C := RX4) (T := TX4) (N := 4) hx hb hts kX5_anew_X4 tyX4 tyX4_ok hown (hts _ mX5_anew_3) (hts _ mX5_anew_4) (hts _ mX5_anew_5) hK hP hD hS hA rfl (fun j hj => by rcases (show j = 0 ∨ j = 1 ∨ j = 2 ∨ j = 3 by omega) with rfl | rfl | rfl | rfl <;> rfl) (Nat.le_of_ble_eq_true rfl) (Nat.le_of_ble_eq_true rfl) dX5_anew_35 (fun w10 H hP hD hS => ?_)
          replace hP : va_P (dC, dI) vwCl (WX5 a b cI cJ cZ st ++ [wayC w10 0 0 0 0]) H := hP
          replace hD : va_D A (WX5 a b cI cJ cZ st ++ [wayC w10 0 0 0 0]) := hD
          refine lv_dup hx hb dX5_anew_38 rfl ?_
          refine lv_iload_n hx hb dX5_anew_39 rfl (lv_at hl 3 rfl) ?_
          refine lv_iload hx hb dX5_anew_40 (lv_at hl 4 rfl) ?_
          refine lv_iload hx hb dX5_anew_42 (lv_at hl 5 rfl) ?_
          refine lv_iload hx hb dX5_anew_44 (lv_at hl 6 rfl) ?_
          obtain ⟨hb_11, hf⟩ := it_s hf
          obtain ⟨hb_12, hf⟩ := it_s hf
          obtain ⟨hb_13, hf⟩ := it_s hf
          refine cmI (wr := (WX5 a b cI cJ cZ st)) ⟨hx, hb, hml, hown, hts⟩ (ct_X4_init l dC dI cI cJ cZ H.size w10 x3 x4 x5 x6 hb_11 hb_12 hb_13) (cwI 4 hts gX5_anew_X4_init rfl rfl rfl (hts _ mX5_anew_5) (hts _ mX5_anew_19) (hts _ mX5_anew_20) rfl (by decide +kernel) ⟨(Nat.le_of_ble_eq_true rfl), (Nat.le_of_ble_eq_true rfl)⟩) hK hP hD hS hA [28] [0, 1, 2, 3, 4, 5, 6, 7, 8, 9, 10, 11, 12, 13, 14, 15, 16, 17, 18, 19, 20, 21, 22, 23, 24, 25, 26, 27] rfl rfl (by decide) rfl (by decide) (by decide) rfl hl.1 rfl (Nat.le_of_ble_eq_true rfl) (Nat.le_of_ble_eq_true rfl) (Nat.le_of_ble_eq_true rfl) dX5_anew_46 (fun _ H locs hP hD hS => ?_)
          replace hP : va_P (dC, dI) vwCl (WX5 a b cI cJ cZ st ++ [wayC w10 x3 x4 x5 x6]) H := hP
          replace hD : va_D A (WX5 a b cI cJ cZ st ++ [wayC w10 x3 x4 x5 x6]) := hD
          obtain ⟨p14, hc15, hf⟩ := bind_s hf
          refine cmV (wr := []) ⟨hx, hb, hml, hown, hts⟩ (ct_X5_totalOf l dC dI a b cI cJ cZ H.size w10 x3 x4 x5 x6 st (-9 : Int32) x1 x2 p14 hc15) (cwV 4 hts gX5_anew_X5_totalOf rfl rfl rfl (by decide +kernel) ⟨(Nat.le_of_ble_eq_true rfl), (Nat.le_of_ble_eq_true rfl)⟩) hK hP hD hS hA [0, 1, 2, 3, 4, 5, 6, 7, 8, 9, 10, 11, 12, 13, 14, 15, 16, 17, 18, 19, 20, 21, 22, 23, 24, 25, 26, 27, 28] [] rfl rfl (by decide) rfl (by decide) (by decide) rfl rfl rfl hl.1 rfl (Nat.le_of_ble_eq_true rfl) (Nat.le_of_ble_eq_true rfl) (Nat.le_of_ble_eq_true rfl) dX5_anew_49 (fun H locs hP hD hS => ?_)
          replace hP : va_P (dC, dI) vwCl (WX5 a b cI cJ cZ p14.2) H := hP.sub [0, 1, 2, 3, 4, 5, 6, 7, 8, 9, 10, 11, 12, 13, 14, 15, 16, 17, 18, 19, 20, 21, 22, 23, 24, 25, 26, 27] rfl
          replace hD : va_D A (WX5 a b cI cJ cZ p14.2) := hD.sub [0, 1, 2, 3, 4, 5, 6, 7, 8, 9, 10, 11, 12, 13, 14, 15, 16, 17, 18, 19, 20, 21, 22, 23, 24, 25, 26, 27] (by decide) rfl
          refine W.eq (g2 := F0 m 52 ls [.long p14.1]) rfl ?_
          obtain rfl := Option.some.inj hf
          rw [hQ]
          exact W.lret hx hb hr (fun t ht hW => ⟨rfl, ⟨by rw [ht]; exact hP, hD⟩, hS.F ht⟩) hS.2.2 dX5_anew_52
        · replace hf := it_p c9 hf
          refine lv_ldc2 (v := (-1 : Int64)) hx hb hown (hts _ mX5_anew_2) dX5_anew_26 ?_
          obtain rfl := Option.some.inj hf
          refine W.widen (k := 1) (n := 4) (Nat.le_of_ble_eq_true rfl) (Nat.le_of_ble_eq_true rfl) ?_
          rw [hQ]
          exact W.lret hx hb hr (fun t ht hW => ⟨rfl, ⟨by rw [ht]; exact hP, hD⟩, hS.F ht⟩) hS.2.2 dX5_anew_29
      · replace hf := it_p c6 hf
        refine lv_ldc2 (v := (-2 : Int64)) hx hb hown (hts _ mX5_anew_1) dX5_anew_14 ?_
        obtain rfl := Option.some.inj hf
        refine W.widen (k := 1) (n := 4) (Nat.le_of_ble_eq_true rfl) (Nat.le_of_ble_eq_true rfl) ?_
        rw [hQ]
        exact W.lret hx hb hr (fun t ht hW => ⟨rfl, ⟨by rw [ht]; exact hP, hD⟩, hS.F ht⟩) hS.2.2 dX5_anew_17
  exact main s.heap [] ls ⟨hP, hD, va_S.rf⟩ hl
def rX5_part : Room := { frames := 6, cells := 1, slots := 4, locals := 163 }
theorem kX5_part_X4 : ∀ w ∈ wsX40, w ∈ wsX5_part := fun w h => (List.mem_cons_of_mem _ (List.mem_append_left _ (List.mem_append_left _ (List.mem_append_left _ (List.mem_append_left _ (List.mem_append_right _ h))))))
theorem mX5_part_3 : Cond.classLink RX5 123 RX4 ∈ wsX5_part := List.mem_of_getElem? (i := 3) rfl
theorem mX5_part_4 : Cond.instantiable RX4 4 ∈ wsX5_part := List.mem_of_getElem? (i := 4) rfl
theorem mX5_part_5 : Cond.initialized RX4 ∈ wsX5_part := List.mem_of_getElem? (i := 5) rfl
theorem mX5_part_21 : Cond.methodLink RX5 125 yX4_init ∈ wsX5_part := List.mem_of_getElem? (i := 21) rfl
theorem mX5_part_22 : Cond.instanceMethod yX4_init ∈ wsX5_part := List.mem_of_getElem? (i := 22) rfl
theorem mX5_part_1 : Cond.constantLong RX5 63 (-1) ∈ wsX5_part := List.mem_of_getElem? (i := 1) rfl
theorem mX5_part_2 : Cond.constantLong RX5 69 (-2) ∈ wsX5_part := List.mem_of_getElem? (i := 2) rfl
set_option maxHeartbeats 4000000 in
set_option maxRecDepth 100000 in
theorem ct_X5_part (l : Launch) (dC : Nat → ClassId) (dI : Nat → Nat → Nat) (a b : Nat → Nat) (cI cJ cZ : ClassId) (sz : Nat) (st : LG) (x1 : Int32) (x2 : Int32) (x3 : Int32) (x4 : Int32) (x5 : Int32) (x6 : Int32) (res : Int64 × LG) (hf : fX5_part st x1 x2 x3 x4 x5 x6 = some res) : Met l yX5_part wsX5_part rX5_part (Pm (dC, dI) (tyT cI cJ cZ) (WX5 a b cI cJ cZ st) sz [.ref (a 0), .int x1, .int x2, .int x3, .int x4, .int x5, .int x6]) (Qm (dC, dI) (some (.long res.1)) (WX5 a b cI cJ cZ res.2) (va_A (WX5 a b cI cJ cZ st) sz)) 1 4 (va_A (WX5 a b cI cJ cZ st) sz) := by
  refine Met.ofW (cc := cX5_part) (maxL := 7) (ret := (some .long)) (by decide) rfl ?_
  intro p e s m args below meth c s₁ B hml hv
  obtain ⟨hargs, hsz, hP, hK, hD0⟩ := hv
  have hx := B.exec
  have hb := B.bytes
  have hr := B.returns
  have hts := atoms_spec (ws := wsX5_part) B.pre
  have hown : s.vm.findClass RX5 = some m.cls := findClass_of_methodNamed B.named
  have hlocks := B.notSynchronized
  subst hsz
  have hD := hD0.self (sz := s.heap.size)
  generalize hAe : va_A (WX5 a b cI cJ cZ st) s.heap.size = A at hD ⊢
  have hA : ∀ q : Nat, s.heap.size ≤ q → A q := fun q h => by rw [← hAe]; exact Or.inr h
  have hl := lv_entry ([.ref (a 0), .int x1, .int x2, .int x3, .int x4, .int x5, .int x6]) (n := 7) (Nat.le_of_ble_eq_true rfl)
  refine W.eq (hargs ▸ lg_entry_eq m [.ref (a 0), .int x1, .int x2, .int x3, .int x4, .int x5, .int x6] 7) ?_
  generalize (lg_sl ([.ref (a 0), .int x1, .int x2, .int x3, .int x4, .int x5, .int x6]) ++ List.replicate (7 - (lg_sl ([.ref (a 0), .int x1, .int x2, .int x3, .int x4, .int x5, .int x6])).length) Slot.unset).toArray = ls at hl ⊢
  have hl : lv_has ls 7 [(0, .ref (a 0)), (1, .int x1), (2, .int x2), (3, .int x3), (4, .int x4), (5, .int x5), (6, .int x6)] := hl
  obtain ⟨QQ, hQ⟩ : ∃ QQ : State → Prop, QQ = MQ below (Qm (dC, dI) (some (.long res.1)) (WX5 a b cI cJ cZ res.2) A) args s 1 4 (A) := ⟨_, rfl⟩
  rw [← hQ]
  have main : ∀ (H : Heap) (locs : List Loc) (ls : Array Slot), IN (dC, dI) (WX5 a b cI cJ cZ st) A s.heap H locs → lv_has ls 7 [(0, .ref (a 0)), (1, .int x1), (2, .int x2), (3, .int x3), (4, .int x4), (5, .int x5), (6, .int x6)] → W p l e (headSpec wsX5_part rX5_part).room s m args below meth c H locs 0 0 QQ (F0 m 0 ls []) := by
    intro H locs ls hin hl
    obtain ⟨hP, hD, hS⟩ := hin
    unfold fX5_part at hf
    refine lv_aload_n hx hb dX5_part_0 rfl (lv_at hl 0 rfl) ?_
    refine lv_iload_n hx hb dX5_part_1 rfl (lv_at hl 1 rfl) ?_
    obtain ⟨r1, hc2, hf⟩ := bind_s hf
    refine cpV (v := .int r1) ⟨hx, hb, hml, hown, hts⟩ (ct_X5_isUnit l dC dI a b cI cJ cZ st x1 r1 hc2) (cwV 1 hts gX5_part_X5_isUnit rfl rfl rfl (by decide +kernel) ⟨(Nat.le_of_ble_eq_true rfl), (Nat.le_of_ble_eq_true rfl)⟩) hK hP [0, 1, 2, 3, 4, 5, 6, 7, 8, 9, 10, 11, 12, 13, 14, 15, 16, 17, 18, 19, 20, 21, 22, 23, 24, 25, 26, 27] rfl rfl rfl rfl hl.1 rfl (Nat.le_of_ble_eq_true rfl) (Nat.le_of_ble_eq_true rfl) (Nat.le_of_ble_eq_true rfl) dX5_part_2 ?_
    refine lv_if_ne (tgt := 12) hx hb dX5_part_5 (by decide) (fun c3 => ?_) (fun c3 => ?_)
    · replace hf := it_n c3 hf
      refine lv_iload_n hx hb dX5_part_12 rfl (lv_at hl 2 rfl) ?_
      obtain ⟨r4, hc5, hf⟩ := bind_s hf
      refine cpS (v := .int r4) ⟨hx, hb, hml, hown, hts⟩ (ct_X5_isYear l dC dI cI cJ cZ x2 r4 hc5) (va_cwS 1 hts gX5_part_X5_isYear rfl rfl rfl (by decide +kernel) ⟨(Nat.le_of_ble_eq_true rfl), (Nat.le_of_ble_eq_true rfl)⟩) hK hP [] rfl rfl hl.1 rfl (Nat.le_of_ble_eq_true rfl) (Nat.le_of_ble_eq_true rfl) (Nat.le_of_ble_eq_true rfl) dX5_part_13 ?_
      refine lv_if_ne (tgt := 23) hx hb dX5_part_16 (by decide) (fun c6 => ?_) (fun c6 => ?_)
      · replace hf := it_n c6 hf
        refine lv_aload_n hx hb dX5_part_23 rfl (lv_at hl 0 rfl) ?_
        refine lv_iload_n hx hb dX5_part_24 rfl (lv_at hl 3 rfl) ?_
        obtain ⟨r7, hc8, hf⟩ := bind_s hf
        refine cpV (v := .int r7) ⟨hx, hb, hml, hown, hts⟩ (ct_X5_isAsOf l dC dI a b cI cJ cZ st x3 r7 hc8) (cwV 1 hts gX5_part_X5_isAsOf rfl rfl rfl (by decide +kernel) ⟨(Nat.le_of_ble_eq_true rfl), (Nat.le_of_ble_eq_true rfl)⟩) hK hP [0, 1, 2, 3, 4, 5, 6, 7, 8, 9, 10, 11, 12, 13, 14, 15, 16, 17, 18, 19, 20, 21, 22, 23, 24, 25, 26, 27] rfl rfl rfl rfl hl.1 rfl (Nat.le_of_ble_eq_true rfl) (Nat.le_of_ble_eq_true rfl) (Nat.le_of_ble_eq_true rfl) dX5_part_25 ?_
        refine lv_if_ne (tgt := 35) hx hb dX5_part_28 (by decide) (fun c9 => ?_) (fun c9 => ?_)
        · replace hf := it_n c9 hf
          refine lv_aload_n hx hb dX5_part_35 rfl (lv_at hl 0 rfl) ?_
          refine lv_iload_n hx hb dX5_part_36 rfl (lv_at hl 1 rfl) ?_
          refine lv_iload_n hx hb dX5_part_37 rfl (lv_at hl 2 rfl) ?_
          refine lv_bipush (v := (-9 : Int32)) hx hb dX5_part_38 (by decide) ?_
          refine va_new (ci := 4) (fs := [.int 0, .int 0, .int 0, .int 0]) (C := RX4) (T := TX4) (N := 4) hx hb hts kX5_part_X4 tyX4 tyX4_ok hown (hts _ mX5_part_3) (hts _ mX5_part_4) (hts _ mX5_part_5) hK hP hD hS hA rfl (fun j hj => by rcases (show j = 0 ∨ j = 1 ∨ j = 2 ∨ j = 3 by omega) with rfl | rfl | rfl | rfl <;> rfl) (Nat.le_of_ble_eq_true rfl) (Nat.le_of_ble_eq_true rfl) dX5_part_40 (fun w10 H hP hD hS => ?_)
          replace hP : va_P (dC, dI) vwCl (WX5 a b cI cJ cZ st ++ [wayC w10 0 0 0 0]) H := hP
          replace hD : va_D A (WX5 a b cI cJ cZ st ++ [wayC w10 0 0 0 0]) := hD
          refine lv_dup hx hb dX5_part_43 rfl ?_
          refine lv_iload_n hx hb dX5_part_44 rfl (lv_at hl 3 rfl) ?_
          refine lv_iload hx hb dX5_part_45 (lv_at hl 4 rfl) ?_
          refine lv_iload hx hb dX5_part_47 (lv_at hl 5 rfl) ?_
          refine lv_iload hx hb dX5_part_49 (lv_at hl 6 rfl) ?_
          obtain ⟨hb_11, hf⟩ := it_s hf
          obtain ⟨hb_12, hf⟩ := it_s hf
          obtain ⟨hb_13, hf⟩ := it_s hf
          refine cmI (wr := (WX5 a b cI cJ cZ st)) ⟨hx, hb, hml, hown, hts⟩ (ct_X4_init l dC dI cI cJ cZ H.size w10 x3 x4 x5 x6 hb_11 hb_12 hb_13) (cwI 4 hts gX5_part_X4_init rfl rfl rfl (hts _ mX5_part_5) (hts _ mX5_part_21) (hts _ mX5_part_22) rfl (by decide +kernel) ⟨(Nat.le_of_ble_eq_true rfl), (Nat.le_of_ble_eq_true rfl)⟩) hK hP hD hS hA [28] [0, 1, 2, 3, 4, 5, 6, 7, 8, 9, 10, 11, 12, 13, 14, 15, 16, 17, 18, 19, 20, 21, 22, 23, 24, 25, 26, 27] rfl rfl (by decide) rfl (by decide) (by decide) rfl hl.1 rfl (Nat.le_of_ble_eq_true rfl) (Nat.le_of_ble_eq_true rfl) (Nat.le_of_ble_eq_true rfl) dX5_part_51 (fun _ H locs hP hD hS => ?_)
          replace hP : va_P (dC, dI) vwCl (WX5 a b cI cJ cZ st ++ [wayC w10 x3 x4 x5 x6]) H := hP
          replace hD : va_D A (WX5 a b cI cJ cZ st ++ [wayC w10 x3 x4 x5 x6]) := hD
          obtain ⟨p14, hc15, hf⟩ := bind_s hf
          refine cmV (wr := []) ⟨hx, hb, hml, hown, hts⟩ (ct_X5_totalOf l dC dI a b cI cJ cZ H.size w10 x3 x4 x5 x6 st x1 x2 (-9 : Int32) p14 hc15) (cwV 4 hts gX5_part_X5_totalOf rfl rfl rfl (by decide +kernel) ⟨(Nat.le_of_ble_eq_true rfl), (Nat.le_of_ble_eq_true rfl)⟩) hK hP hD hS hA [0, 1, 2, 3, 4, 5, 6, 7, 8, 9, 10, 11, 12, 13, 14, 15, 16, 17, 18, 19, 20, 21, 22, 23, 24, 25, 26, 27, 28] [] rfl rfl (by decide) rfl (by decide) (by decide) rfl rfl rfl hl.1 rfl (Nat.le_of_ble_eq_true rfl) (Nat.le_of_ble_eq_true rfl) (Nat.le_of_ble_eq_true rfl) dX5_part_54 (fun H locs hP hD hS => ?_)
          replace hP : va_P (dC, dI) vwCl (WX5 a b cI cJ cZ p14.2) H := hP.sub [0, 1, 2, 3, 4, 5, 6, 7, 8, 9, 10, 11, 12, 13, 14, 15, 16, 17, 18, 19, 20, 21, 22, 23, 24, 25, 26, 27] rfl
          replace hD : va_D A (WX5 a b cI cJ cZ p14.2) := hD.sub [0, 1, 2, 3, 4, 5, 6, 7, 8, 9, 10, 11, 12, 13, 14, 15, 16, 17, 18, 19, 20, 21, 22, 23, 24, 25, 26, 27] (by decide) rfl
          refine W.eq (g2 := F0 m 57 ls [.long p14.1]) rfl ?_
          obtain rfl := Option.some.inj hf
          rw [hQ]
          exact W.lret hx hb hr (fun t ht hW => ⟨rfl, ⟨by rw [ht]; exact hP, hD⟩, hS.F ht⟩) hS.2.2 dX5_part_57
        · replace hf := it_p c9 hf
          refine lv_ldc2 (v := (-1 : Int64)) hx hb hown (hts _ mX5_part_1) dX5_part_31 ?_
          obtain rfl := Option.some.inj hf
          refine W.widen (k := 1) (n := 4) (Nat.le_of_ble_eq_true rfl) (Nat.le_of_ble_eq_true rfl) ?_
          rw [hQ]
          exact W.lret hx hb hr (fun t ht hW => ⟨rfl, ⟨by rw [ht]; exact hP, hD⟩, hS.F ht⟩) hS.2.2 dX5_part_34
      · replace hf := it_p c6 hf
        refine lv_ldc2 (v := (-2 : Int64)) hx hb hown (hts _ mX5_part_2) dX5_part_19 ?_
        obtain rfl := Option.some.inj hf
        refine W.widen (k := 1) (n := 4) (Nat.le_of_ble_eq_true rfl) (Nat.le_of_ble_eq_true rfl) ?_
        rw [hQ]
        exact W.lret hx hb hr (fun t ht hW => ⟨rfl, ⟨by rw [ht]; exact hP, hD⟩, hS.F ht⟩) hS.2.2 dX5_part_22
    · replace hf := it_p c3 hf
      refine lv_ldc2 (v := (-1 : Int64)) hx hb hown (hts _ mX5_part_1) dX5_part_8 ?_
      obtain rfl := Option.some.inj hf
      refine W.widen (k := 1) (n := 4) (Nat.le_of_ble_eq_true rfl) (Nat.le_of_ble_eq_true rfl) ?_
      rw [hQ]
      exact W.lret hx hb hr (fun t ht hW => ⟨rfl, ⟨by rw [ht]; exact hP, hD⟩, hS.F ht⟩) hS.2.2 dX5_part_11
  exact main s.heap [] ls ⟨hP, hD, va_S.rf⟩ hl
def rX5_doubles : Room := { frames := 5, cells := 0, slots := 0, locals := 131 }
theorem kX5_doubles_X5 : ∀ w ∈ wsX50, w ∈ wsX5_doubles := fun w h => (List.mem_cons_of_mem _ (List.mem_append_left _ (List.mem_append_left _ (List.mem_append_right _ h))))
theorem mX5_doubles_1 : Cond.fieldLink RX5 19 "SmokeLedger" "rows" "LSmokeLedger$Rows;" ∈ wsX5_doubles := List.mem_of_getElem? (i := 1) rfl
theorem kX5_doubles_X2 : ∀ w ∈ wsX20, w ∈ wsX5_doubles := fun w h => (List.mem_cons_of_mem _ (List.mem_append_left _ (List.mem_append_right _ h)))
theorem mX5_doubles_2 : Cond.fieldLink RX5 132 "SmokeLedger$Rows" "size" "I" ∈ wsX5_doubles := List.mem_of_getElem? (i := 2) rfl
theorem mX5_doubles_3 : Cond.fieldLink RX5 96 "SmokeLedger$Rows" "day" "[I" ∈ wsX5_doubles := List.mem_of_getElem? (i := 3) rfl
set_option maxHeartbeats 4000000 in
set_option maxRecDepth 100000 in
theorem ct_X5_doubles (l : Launch) (dC : Nat → ClassId) (dI : Nat → Nat → Nat) (a b : Nat → Nat) (cI cJ cZ : ClassId) (sz : Nat) (st : LG) (x1 : Int32) (res : Int32 × LG) (hf : fX5_doubles st x1 = some res) : Met l yX5_doubles wsX5_doubles rX5_doubles (Pm (dC, dI) (tyT cI cJ cZ) (WX5 a b cI cJ cZ st) sz [.ref (a 0), .int x1]) (Qm (dC, dI) (some (.int res.1)) (WX5 a b cI cJ cZ res.2) (va_A (WX5 a b cI cJ cZ st) sz)) 0 0 (va_A (WX5 a b cI cJ cZ st) sz) := by
  refine Met.ofW (cc := cX5_doubles) (maxL := 4) (ret := (some .int)) (by decide) rfl ?_
  intro p e s m args below meth c s₁ B hml hv
  obtain ⟨hargs, hsz, hP, hK, hD0⟩ := hv
  have hx := B.exec
  have hb := B.bytes
  have hr := B.returns
  have hts := atoms_spec (ws := wsX5_doubles) B.pre
  have hown : s.vm.findClass RX5 = some m.cls := findClass_of_methodNamed B.named
  have hlocks := B.notSynchronized
  subst hsz
  have hD := hD0.self (sz := s.heap.size)
  generalize hAe : va_A (WX5 a b cI cJ cZ st) s.heap.size = A at hD ⊢
  have hA : ∀ q : Nat, s.heap.size ≤ q → A q := fun q h => by rw [← hAe]; exact Or.inr h
  have hl := lv_entry ([.ref (a 0), .int x1]) (n := 4) (Nat.le_of_ble_eq_true rfl)
  refine W.eq (hargs ▸ lg_entry_eq m [.ref (a 0), .int x1] 4) ?_
  generalize (lg_sl ([.ref (a 0), .int x1]) ++ List.replicate (4 - (lg_sl ([.ref (a 0), .int x1])).length) Slot.unset).toArray = ls at hl ⊢
  have hl : lv_has ls 4 [(0, .ref (a 0)), (1, .int x1)] := hl
  obtain ⟨QQ, hQ⟩ : ∃ QQ : State → Prop, QQ = MQ below (Qm (dC, dI) (some (.int res.1)) (WX5 a b cI cJ cZ res.2) A) args s 0 0 (A) := ⟨_, rfl⟩
  rw [← hQ]
  have l14 : ∀ (x1 : Int32) (fu : Nat) (s0 : LG × Int32 × Int32) (r : LG × Int32 × Int32), loopN (fun (s : LG × Int32 × Int32) => fX5_doubles_l14 x1 s.1 s.2.1 s.2.2) fu s0 = some r → (∀ (H : Heap) (locs : List Loc) (ls : Array Slot), IN (dC, dI) (WX5 a b cI cJ cZ r.1) A s.heap H locs → lv_has ls 4 [(0, .ref (a 0)), (1, .int x1), (2, .int r.2.1), (3, .int r.2.2)] → W p l e (headSpec wsX5_doubles rX5_doubles).room s m args below meth c H locs 0 0 QQ (F0 m 63 ls [])) → (∀ (H : Heap) (locs : List Loc) (ls : Array Slot), IN (dC, dI) (WX5 a b cI cJ cZ s0.1) A s.heap H locs → lv_has ls 4 [(0, .ref (a 0)), (1, .int x1), (2, .int s0.2.1), (3, .int s0.2.2)] → W p l e (headSpec wsX5_doubles rX5_doubles).room s m args below meth c H locs 0 0 QQ (F0 m 14 ls [])) := by
    intro x1 fu s0 r
    have b57 : ∀ (st : LG) (x1 : Int32) (x2 : Int32) (x3 : Int32) (x : (LG × Int32 × Int32) ⊕ (LG × Int32 × Int32)), fX5_doubles_b57 st x1 x2 x3 = some x → (∀ s', x = .inl s' → (∀ (H : Heap) (locs : List Loc) (ls : Array Slot), IN (dC, dI) (WX5 a b cI cJ cZ s'.1) A s.heap H locs → lv_has ls 4 [(0, .ref (a 0)), (1, .int x1), (2, .int s'.2.1), (3, .int s'.2.2)] → W p l e (headSpec wsX5_doubles rX5_doubles).room s m args below meth c H locs 0 0 QQ (F0 m 14 ls []))) → (∀ r, x = .inr r → (∀ (H : Heap) (locs : List Loc) (ls : Array Slot), IN (dC, dI) (WX5 a b cI cJ cZ r.1) A s.heap H locs → lv_has ls 4 [(0, .ref (a 0)), (1, .int x1), (2, .int r.2.1), (3, .int r.2.2)] → W p l e (headSpec wsX5_doubles rX5_doubles).room s m args below meth c H locs 0 0 QQ (F0 m 63 ls []))) → (∀ (H : Heap) (locs : List Loc) (ls : Array Slot), IN (dC, dI) (WX5 a b cI cJ cZ st) A s.heap H locs → lv_has ls 4 [(0, .ref (a 0)), (1, .int x1), (2, .int x2), (3, .int x3)] → W p l e (headSpec wsX5_doubles rX5_doubles).room s m args below meth c H locs 0 0 QQ (F0 m 57 ls [])) := by
      intro st x1 x2 x3 x hf kc ke
      intro H locs ls hin hl
      obtain ⟨hP, hD, hS⟩ := hin
      unfold fX5_doubles_b57 at hf
      refine lv_iinc (v := (x3 + (1 : Int32))) (lv' := [(3, .int (x3 + (1 : Int32))), (0, .ref (a 0)), (1, .int x1), (2, .int x2)]) hx hb dX5_doubles_57 hl (k := 3) rfl rfl (by decide) rfl (fun ls hl => ?_)
      refine lv_goto (tgt := 14) hx hb dX5_doubles_60 (by decide) ?_
      obtain rfl := Option.some.inj hf
      exact kc _ rfl H locs ls ⟨hP, hD, hS⟩ (lv_sub hl [1, 2, 3, 0] rfl)
    refine loop_ind (P := fun s0 => ∀ (H : Heap) (locs : List Loc) (ls : Array Slot), IN (dC, dI) (WX5 a b cI cJ cZ s0.1) A s.heap H locs → lv_has ls 4 [(0, .ref (a 0)), (1, .int x1), (2, .int s0.2.1), (3, .int s0.2.2)] → W p l e (headSpec wsX5_doubles rX5_doubles).room s m args below meth c H locs 0 0 QQ (F0 m 14 ls [])) (Q := fun r => ∀ (H : Heap) (locs : List Loc) (ls : Array Slot), IN (dC, dI) (WX5 a b cI cJ cZ r.1) A s.heap H locs → lv_has ls 4 [(0, .ref (a 0)), (1, .int x1), (2, .int r.2.1), (3, .int r.2.2)] → W p l e (headSpec wsX5_doubles rX5_doubles).room s m args below meth c H locs 0 0 QQ (F0 m 63 ls [])) ?_ fu s0 r
    clear fu s0 r
    rintro ⟨st, x2, x3⟩ x hf kc ke
    replace hf : fX5_doubles_l14 x1 st x2 x3 = some x := hf
    replace kc : (∀ s', x = .inl s' → (∀ (H : Heap) (locs : List Loc) (ls : Array Slot), IN (dC, dI) (WX5 a b cI cJ cZ s'.1) A s.heap H locs → lv_has ls 4 [(0, .ref (a 0)), (1, .int x1), (2, .int s'.2.1), (3, .int s'.2.2)] → W p l e (headSpec wsX5_doubles rX5_doubles).room s m args below meth c H locs 0 0 QQ (F0 m 14 ls []))) := kc
    replace ke : (∀ r, x = .inr r → (∀ (H : Heap) (locs : List Loc) (ls : Array Slot), IN (dC, dI) (WX5 a b cI cJ cZ r.1) A s.heap H locs → lv_has ls 4 [(0, .ref (a 0)), (1, .int x1), (2, .int r.2.1), (3, .int r.2.2)] → W p l e (headSpec wsX5_doubles rX5_doubles).room s m args below meth c H locs 0 0 QQ (F0 m 63 ls []))) := ke
    intro H locs ls hin hl
    obtain ⟨hP, hD, hS⟩ := hin
    unfold fX5_doubles_l14 at hf
    refine lv_iload_n hx hb dX5_doubles_14 rfl (lv_at hl 3 rfl) ?_
    refine lv_aload_n hx hb dX5_doubles_15 rfl (lv_at hl 0 rfl) ?_
    refine va_get (D := (dC, dI)) (ci := 5) (v := .ref (a 12)) (C := RX5) (T := TX5) (N := 5) hx hb hts kX5_doubles_X5 hown hK hP 0 rfl rfl 1 (by decide) (hts _ mX5_doubles_1) (fun _ h9 => h9) rfl dX5_doubles_16 ?_
    refine va_get (D := (dC, dI)) (ci := 2) (v := .int (RS_size (LG_R st))) (C := RX2) (T := TX2) (N := 7) hx hb hts kX5_doubles_X2 hown hK hP 12 rfl rfl 6 (by decide) (hts _ mX5_doubles_2) (fun _ h9 => h9) rfl dX5_doubles_19 ?_
    refine lv_icmp_ge (tgt := 63) hx hb dX5_doubles_22 (by decide) (fun c4 => ?_) (fun c4 => ?_)
    · replace hf := it_p c4 hf
      obtain rfl := Option.some.inj hf
      exact ke _ rfl H locs ls ⟨hP, hD, hS⟩ (lv_sub hl [0, 1, 2, 3] rfl)
    · replace hf := it_n c4 hf
      refine lv_aload_n hx hb dX5_doubles_25 rfl (lv_at hl 0 rfl) ?_
      refine va_get (D := (dC, dI)) (ci := 5) (v := .ref (a 12)) (C := RX5) (T := TX5) (N := 5) hx hb hts kX5_doubles_X5 hown hK hP 0 rfl rfl 1 (by decide) (hts _ mX5_doubles_1) (fun _ h9 => h9) rfl dX5_doubles_26 ?_
      refine lv_iload_n hx hb dX5_doubles_29 rfl (lv_at hl 3 rfl) ?_
      refine lv_iload_n hx hb dX5_doubles_30 rfl (lv_at hl 1 rfl) ?_
      obtain ⟨r5, hc6, hf⟩ := bind_s hf
      refine cpV (v := .int r5) ⟨hx, hb, hml, hown, hts⟩ (ct_X2_isOfYear l dC dI a b cI cJ cZ (LG_R st) x3 x1 r5 hc6) (cwV 2 hts gX5_doubles_X2_isOfYear rfl rfl rfl (by decide +kernel) ⟨(Nat.le_of_ble_eq_true rfl), (Nat.le_of_ble_eq_true rfl)⟩) hK hP [12, 13, 14, 15, 16, 17, 18] rfl rfl rfl rfl hl.1 rfl (Nat.le_of_ble_eq_true rfl) (Nat.le_of_ble_eq_true rfl) (Nat.le_of_ble_eq_true rfl) dX5_doubles_31 ?_
      refine lv_if_eq (tgt := 57) hx hb dX5_doubles_34 (by decide) (fun c7 => ?_) (fun c7 => ?_)
      · replace hf := it_p c7 hf
        exact b57 st x1 x2 x3 _ hf kc ke H locs ls ⟨hP, hD, hS⟩ (lv_sub hl [0, 1, 2, 3] rfl)
      · replace hf := it_n c7 hf
        refine lv_aload_n hx hb dX5_doubles_37 rfl (lv_at hl 0 rfl) ?_
        refine lv_iload_n hx hb dX5_doubles_38 rfl (lv_at hl 3 rfl) ?_
        refine lv_aload_n hx hb dX5_doubles_39 rfl (lv_at hl 0 rfl) ?_
        refine va_get (D := (dC, dI)) (ci := 5) (v := .ref (a 12)) (C := RX5) (T := TX5) (N := 5) hx hb hts kX5_doubles_X5 hown hK hP 0 rfl rfl 1 (by decide) (hts _ mX5_doubles_1) (fun _ h9 => h9) rfl dX5_doubles_40 ?_
        refine va_get (D := (dC, dI)) (ci := 2) (v := .ref (a 16)) (C := RX2) (T := TX2) (N := 7) hx hb hts kX5_doubles_X2 hown hK hP 12 rfl rfl 3 (by decide) (hts _ mX5_doubles_3) (fun _ h9 => h9) rfl dX5_doubles_43 ?_
        refine lv_iload_n hx hb dX5_doubles_46 rfl (lv_at hl 3 rfl) ?_
        obtain ⟨hi8, hf⟩ := it_s hf
        refine va_iald hx hb hK hP 16 0 rfl rfl (inb_in hi8) dX5_doubles_47 ?_
        obtain ⟨p9, hc10, hf⟩ := bind_s hf
        refine cmV (wr := []) ⟨hx, hb, hml, hown, hts⟩ (ct_X5_isDouble l dC dI a b cI cJ cZ H.size st x3 ((RS_day (LG_R st)) (x3).toNatClampNeg) p9 hc10) (cwV 2 hts gX5_doubles_X5_isDouble rfl rfl rfl (by decide +kernel) ⟨(Nat.le_of_ble_eq_true rfl), (Nat.le_of_ble_eq_true rfl)⟩) hK hP hD hS hA [0, 1, 2, 3, 4, 5, 6, 7, 8, 9, 10, 11, 12, 13, 14, 15, 16, 17, 18, 19, 20, 21, 22, 23, 24, 25, 26, 27] [] rfl rfl (by decide) rfl (by decide) (by decide) rfl rfl rfl hl.1 rfl (Nat.le_of_ble_eq_true rfl) (Nat.le_of_ble_eq_true rfl) (Nat.le_of_ble_eq_true rfl) dX5_doubles_48 (fun H locs hP hD hS => ?_)
        replace hP : va_P (dC, dI) vwCl (WX5 a b cI cJ cZ p9.2) H := hP
        replace hD : va_D A (WX5 a b cI cJ cZ p9.2) := hD
        refine W.eq (g2 := F0 m 51 ls [.int p9.1]) rfl ?_
        refine lv_if_eq (tgt := 57) hx hb dX5_doubles_51 (by decide) (fun c11 => ?_) (fun c11 => ?_)
        · replace hf := it_p c11 hf
          exact b57 p9.2 x1 x2 x3 _ hf kc ke H locs ls ⟨hP, hD, hS⟩ (lv_sub hl [0, 1, 2, 3] rfl)
        · replace hf := it_n c11 hf
          refine lv_iinc (v := (x2 + (1 : Int32))) (lv' := [(2, .int (x2 + (1 : Int32))), (0, .ref (a 0)), (1, .int x1), (3, .int x3)]) hx hb dX5_doubles_54 hl (k := 2) rfl rfl (by decide) rfl (fun ls hl => ?_)
          exact b57 p9.2 x1 (x2 + (1 : Int32)) x3 _ hf kc ke H locs ls ⟨hP, hD, hS⟩ (lv_sub hl [1, 2, 0, 3] rfl)
  have main : ∀ (H : Heap) (locs : List Loc) (ls : Array Slot), IN (dC, dI) (WX5 a b cI cJ cZ st) A s.heap H locs → lv_has ls 4 [(0, .ref (a 0)), (1, .int x1)] → W p l e (headSpec wsX5_doubles rX5_doubles).room s m args below meth c H locs 0 0 QQ (F0 m 0 ls []) := by
    intro H locs ls hin hl
    obtain ⟨hP, hD, hS⟩ := hin
    unfold fX5_doubles at hf
    refine lv_iload_n hx hb dX5_doubles_0 rfl (lv_at hl 1 rfl) ?_
    obtain ⟨r1, hc2, hf⟩ := bind_s hf
    refine cpS (v := .int r1) ⟨hx, hb, hml, hown, hts⟩ (ct_X5_isYear l dC dI cI cJ cZ x1 r1 hc2) (va_cwS 1 hts gX5_doubles_X5_isYear rfl rfl rfl (by decide +kernel) ⟨(Nat.le_of_ble_eq_true rfl), (Nat.le_of_ble_eq_true rfl)⟩) hK hP [] rfl rfl hl.1 rfl (Nat.le_of_ble_eq_true rfl) (Nat.le_of_ble_eq_true rfl) (Nat.le_of_ble_eq_true rfl) dX5_doubles_1 ?_
    refine lv_if_ne (tgt := 10) hx hb dX5_doubles_4 (by decide) (fun c3 => ?_) (fun c3 => ?_)
    · replace hf := it_n c3 hf
      refine lv_iconst (v := (0 : Int32)) hx hb dX5_doubles_10 (by decide) ?_
      refine lv_istore_n (lv' := [(2, .int (0 : Int32)), (0, .ref (a 0)), (1, .int x1)]) hx hb dX5_doubles_11 rfl hl (by decide) rfl (fun ls hl => ?_)
      refine lv_iconst (v := (0 : Int32)) hx hb dX5_doubles_12 (by decide) ?_
      refine lv_istore_n (lv' := [(3, .int (0 : Int32)), (2, .int (0 : Int32)), (0, .ref (a 0)), (1, .int x1)]) hx hb dX5_doubles_13 rfl hl (by decide) rfl (fun ls hl => ?_)
      obtain ⟨y12, hlp, hf⟩ := bind_s hf
      refine l14 x1 fuelN (st, (0 : Int32), (0 : Int32)) y12 hlp ?_ H locs ls ⟨hP, hD, hS⟩ (lv_sub hl [2, 3, 1, 0] rfl)
      intro H locs ls hin hl
      obtain ⟨hP, hD, hS⟩ := hin
      refine lv_iload_n hx hb dX5_doubles_63 rfl (lv_at hl 2 rfl) ?_
      obtain rfl := Option.some.inj hf
      rw [hQ]
      exact W.iret hx hb hr (fun t ht hW => ⟨rfl, ⟨by rw [ht]; exact hP, hD⟩, hS.F ht⟩) hS.2.2 dX5_doubles_64
    · replace hf := it_p c3 hf
      refine lv_bipush (v := (-2 : Int32)) hx hb dX5_doubles_7 (by decide) ?_
      obtain rfl := Option.some.inj hf
      rw [hQ]
      exact W.iret hx hb hr (fun t ht hW => ⟨rfl, ⟨by rw [ht]; exact hP, hD⟩, hS.F ht⟩) hS.2.2 dX5_doubles_9
  exact main s.heap [] ls ⟨hP, hD, va_S.rf⟩ hl
def rX5_cutPart : Room := { frames := 0, cells := 0, slots := 0, locals := 0 }
set_option maxHeartbeats 4000000 in
set_option maxRecDepth 100000 in
theorem ct_X5_cutPart (l : Launch) (dC : Nat → ClassId) (dI : Nat → Nat → Nat) (cI cJ cZ : ClassId) (x0 : Int64) (x2 : Int64) (x4 : Int64) (res : Int64) (hf : fX5_cutPart x0 x2 x4 = some res) : Met l yX5_cutPart wsX5_cutPart rX5_cutPart (Pp (dC, dI) (tyT cI cJ cZ) [] [.long x0, .long x2, .long x4]) (Qp (.long res)) 0 0 (fun _ => False) := by
  refine Met.ofW (cc := cX5_cutPart) (maxL := 6) (ret := (some .long)) (by decide) rfl ?_
  intro p e s m args below meth c s₁ B hml hv
  obtain ⟨hargs, hP, hK⟩ := hv
  have hx := B.exec
  have hb := B.bytes
  have hr := B.returns
  have hts := atoms_spec (ws := wsX5_cutPart) B.pre
  have hown : s.vm.findClass RX5 = some m.cls := findClass_of_methodNamed B.named
  have hlocks := B.notSynchronized
  have hP : va_P (dC, dI) vwCl [] s.heap := hP
  have hl := lv_entry ([.long x0, .long x2, .long x4]) (n := 6) (Nat.le_of_ble_eq_true rfl)
  refine W.eq (hargs ▸ lg_entry_eq m [.long x0, .long x2, .long x4] 6) ?_
  generalize (lg_sl ([.long x0, .long x2, .long x4]) ++ List.replicate (6 - (lg_sl ([.long x0, .long x2, .long x4])).length) Slot.unset).toArray = ls at hl ⊢
  have hl : lv_has ls 6 [(0, .long x0), (2, .long x2), (4, .long x4)] := hl
  obtain ⟨QQ, hQ⟩ : ∃ QQ : State → Prop, QQ = MQ below (Qp (.long res)) args s 0 0 (fun _ => False) := ⟨_, rfl⟩
  rw [← hQ]
  unfold fX5_cutPart at hf
  refine lv_lload hx hb dX5_cutPart_0 (lv_at hl 2 rfl) ?_
  refine lv_lconst (v := (0 : Int64)) hx hb dX5_cutPart_2 (by decide) ?_
  refine W.lcmp hx hb dX5_cutPart_3 ?_
  refine lv_if_gt (tgt := 9) hx hb dX5_cutPart_4 (by decide) (fun c1 => ?_) (fun c1 => ?_)
  · replace hf := it_p c1 hf
    refine lv_lload_n hx hb dX5_cutPart_9 rfl (lv_at hl 0 rfl) ?_
    refine lv_lload hx hb dX5_cutPart_10 (lv_at hl 2 rfl) ?_
    obtain ⟨hz2, hf⟩ := it_z hf
    refine lv_ldiv hx hb dX5_cutPart_12 hz2 ?_
    refine lv_lload_n hx hb dX5_cutPart_13 rfl (lv_at hl 1 rfl) ?_
    refine lv_lmul hx hb dX5_cutPart_14 ?_
    refine lv_lload_n hx hb dX5_cutPart_15 rfl (lv_at hl 0 rfl) ?_
    refine lv_lload hx hb dX5_cutPart_16 (lv_at hl 2 rfl) ?_
    obtain ⟨hz3, hf⟩ := it_z hf
    refine lv_lrem hx hb dX5_cutPart_18 hz3 ?_
    refine lv_lload_n hx hb dX5_cutPart_19 rfl (lv_at hl 1 rfl) ?_
    refine lv_lmul hx hb dX5_cutPart_20 ?_
    refine lv_lload hx hb dX5_cutPart_21 (lv_at hl 2 rfl) ?_
    obtain ⟨hz4, hf⟩ := it_z hf
    refine lv_ldiv hx hb dX5_cutPart_23 hz4 ?_
    refine lv_ladd hx hb dX5_cutPart_24 ?_
    obtain rfl := Option.some.inj hf
    rw [hQ]
    exact W.lret hx hb hr (fun t ht hW => ⟨rfl, ht⟩) (fun q hq => absurd hq List.not_mem_nil) dX5_cutPart_25
  · replace hf := it_n c1 hf
    refine lv_lconst (v := (0 : Int64)) hx hb dX5_cutPart_7 (by decide) ?_
    obtain rfl := Option.some.inj hf
    rw [hQ]
    exact W.lret hx hb hr (fun t ht hW => ⟨rfl, ht⟩) (fun q hq => absurd hq List.not_mem_nil) dX5_cutPart_8
def rX5_onPath : Room := { frames := 6, cells := 2, slots := 8, locals := 163 }
theorem kX5_onPath_X4 : ∀ w ∈ wsX40, w ∈ wsX5_onPath := fun w h => (List.mem_cons_of_mem _ (List.mem_append_left _ (List.mem_append_left _ (List.mem_append_left _ (List.mem_append_left _ (List.mem_append_right _ h))))))
theorem mX5_onPath_1 : Cond.classLink RX5 123 RX4 ∈ wsX5_onPath := List.mem_of_getElem? (i := 1) rfl
theorem mX5_onPath_2 : Cond.instantiable RX4 4 ∈ wsX5_onPath := List.mem_of_getElem? (i := 2) rfl
theorem mX5_onPath_3 : Cond.initialized RX4 ∈ wsX5_onPath := List.mem_of_getElem? (i := 3) rfl
theorem mX5_onPath_13 : Cond.methodLink RX5 125 yX4_init ∈ wsX5_onPath := List.mem_of_getElem? (i := 13) rfl
theorem mX5_onPath_14 : Cond.instanceMethod yX4_init ∈ wsX5_onPath := List.mem_of_getElem? (i := 14) rfl
theorem mX5_onPath_4 : Cond.constantLong RX5 146 (-9) ∈ wsX5_onPath := List.mem_of_getElem? (i := 4) rfl
theorem mX5_onPath_5 : Cond.constantLong RX5 148 (100) ∈ wsX5_onPath := List.mem_of_getElem? (i := 5) rfl
set_option maxHeartbeats 4000000 in
set_option maxRecDepth 100000 in
theorem ct_X5_onPath (l : Launch) (dC : Nat → ClassId) (dI : Nat → Nat → Nat) (a b : Nat → Nat) (cI cJ cZ : ClassId) (sz : Nat) (st : LG) (x1 : Int32) (x2 : Int32) (x3 : Int32) (x4 : Int32) (res : Int32 × LG) (hf : fX5_onPath st x1 x2 x3 x4 = some res) : Met l yX5_onPath wsX5_onPath rX5_onPath (Pm (dC, dI) (tyT cI cJ cZ) (WX5 a b cI cJ cZ st) sz [.ref (a 0), .int x1, .int x2, .int x3, .int x4]) (Qm (dC, dI) (some (.int res.1)) (WX5 a b cI cJ cZ res.2) (va_A (WX5 a b cI cJ cZ st) sz)) 2 8 (va_A (WX5 a b cI cJ cZ st) sz) := by
  refine Met.ofW (cc := cX5_onPath) (maxL := 13) (ret := (some .int)) (by decide) rfl ?_
  intro p e s m args below meth c s₁ B hml hv
  obtain ⟨hargs, hsz, hP, hK, hD0⟩ := hv
  have hx := B.exec
  have hb := B.bytes
  have hr := B.returns
  have hts := atoms_spec (ws := wsX5_onPath) B.pre
  have hown : s.vm.findClass RX5 = some m.cls := findClass_of_methodNamed B.named
  have hlocks := B.notSynchronized
  subst hsz
  have hD := hD0.self (sz := s.heap.size)
  generalize hAe : va_A (WX5 a b cI cJ cZ st) s.heap.size = A at hD ⊢
  have hA : ∀ q : Nat, s.heap.size ≤ q → A q := fun q h => by rw [← hAe]; exact Or.inr h
  have hl := lv_entry ([.ref (a 0), .int x1, .int x2, .int x3, .int x4]) (n := 13) (Nat.le_of_ble_eq_true rfl)
  refine W.eq (hargs ▸ lg_entry_eq m [.ref (a 0), .int x1, .int x2, .int x3, .int x4] 13) ?_
  generalize (lg_sl ([.ref (a 0), .int x1, .int x2, .int x3, .int x4]) ++ List.replicate (13 - (lg_sl ([.ref (a 0), .int x1, .int x2, .int x3, .int x4])).length) Slot.unset).toArray = ls at hl ⊢
  have hl : lv_has ls 13 [(0, .ref (a 0)), (1, .int x1), (2, .int x2), (3, .int x3), (4, .int x4)] := hl
  obtain ⟨QQ, hQ⟩ : ∃ QQ : State → Prop, QQ = MQ below (Qm (dC, dI) (some (.int res.1)) (WX5 a b cI cJ cZ res.2) A) args s 2 8 (A) := ⟨_, rfl⟩
  rw [← hQ]
  have main : ∀ (H : Heap) (locs : List Loc) (ls : Array Slot), IN (dC, dI) (WX5 a b cI cJ cZ st) A s.heap H locs → lv_has ls 13 [(0, .ref (a 0)), (1, .int x1), (2, .int x2), (3, .int x3), (4, .int x4)] → W p l e (headSpec wsX5_onPath rX5_onPath).room s m args below meth c H locs 0 0 QQ (F0 m 0 ls []) := by
    intro H locs ls hin hl
    obtain ⟨hP, hD, hS⟩ := hin
    unfold fX5_onPath at hf
    refine lv_iload_n hx hb dX5_onPath_0 rfl (lv_at hl 1 rfl) ?_
    obtain ⟨r1, hc2, hf⟩ := bind_s hf
    refine cpS (v := .int r1) ⟨hx, hb, hml, hown, hts⟩ (ct_X5_isYear l dC dI cI cJ cZ x1 r1 hc2) (va_cwS 1 hts gX5_onPath_X5_isYear rfl rfl rfl (by decide +kernel) ⟨(Nat.le_of_ble_eq_true rfl), (Nat.le_of_ble_eq_true rfl)⟩) hK hP [] rfl rfl hl.1 rfl (Nat.le_of_ble_eq_true rfl) (Nat.le_of_ble_eq_true rfl) (Nat.le_of_ble_eq_true rfl) dX5_onPath_1 ?_
    refine lv_if_eq (tgt := 29) hx hb dX5_onPath_4 (by decide) (fun c3 => ?_) (fun c3 => ?_)
    · replace hf := it_p c3 hf
      refine lv_bipush (v := (-2 : Int32)) hx hb dX5_onPath_29 (by decide) ?_
      obtain rfl := Option.some.inj hf
      refine W.widen (k := 2) (n := 8) (Nat.le_of_ble_eq_true rfl) (Nat.le_of_ble_eq_true rfl) ?_
      rw [hQ]
      exact W.iret hx hb hr (fun t ht hW => ⟨rfl, ⟨by rw [ht]; exact hP, hD⟩, hS.F ht⟩) hS.2.2 dX5_onPath_31
    · replace hf := it_n c3 hf
      refine lv_iload_n hx hb dX5_onPath_7 rfl (lv_at hl 2 rfl) ?_
      obtain ⟨r4, hc5, hf⟩ := bind_s hf
      refine cpS (v := .int r4) ⟨hx, hb, hml, hown, hts⟩ (ct_X5_isYear l dC dI cI cJ cZ x2 r4 hc5) (va_cwS 1 hts gX5_onPath_X5_isYear rfl rfl rfl (by decide +kernel) ⟨(Nat.le_of_ble_eq_true rfl), (Nat.le_of_ble_eq_true rfl)⟩) hK hP [] rfl rfl hl.1 rfl (Nat.le_of_ble_eq_true rfl) (Nat.le_of_ble_eq_true rfl) (Nat.le_of_ble_eq_true rfl) dX5_onPath_8 ?_
      refine lv_if_eq (tgt := 29) hx hb dX5_onPath_11 (by decide) (fun c6 => ?_) (fun c6 => ?_)
      · replace hf := it_p c6 hf
        refine lv_bipush (v := (-2 : Int32)) hx hb dX5_onPath_29 (by decide) ?_
        obtain rfl := Option.some.inj hf
        refine W.widen (k := 2) (n := 8) (Nat.le_of_ble_eq_true rfl) (Nat.le_of_ble_eq_true rfl) ?_
        rw [hQ]
        exact W.iret hx hb hr (fun t ht hW => ⟨rfl, ⟨by rw [ht]; exact hP, hD⟩, hS.F ht⟩) hS.2.2 dX5_onPath_31
      · replace hf := it_n c6 hf
        refine lv_iload_n hx hb dX5_onPath_14 rfl (lv_at hl 3 rfl) ?_
        obtain ⟨r7, hc8, hf⟩ := bind_s hf
        refine cpS (v := .int r7) ⟨hx, hb, hml, hown, hts⟩ (ct_X5_isYear l dC dI cI cJ cZ x3 r7 hc8) (va_cwS 1 hts gX5_onPath_X5_isYear rfl rfl rfl (by decide +kernel) ⟨(Nat.le_of_ble_eq_true rfl), (Nat.le_of_ble_eq_true rfl)⟩) hK hP [] rfl rfl hl.1 rfl (Nat.le_of_ble_eq_true rfl) (Nat.le_of_ble_eq_true rfl) (Nat.le_of_ble_eq_true rfl) dX5_onPath_15 ?_
        refine lv_if_eq (tgt := 29) hx hb dX5_onPath_18 (by decide) (fun c9 => ?_) (fun c9 => ?_)
        · replace hf := it_p c9 hf
          refine lv_bipush (v := (-2 : Int32)) hx hb dX5_onPath_29 (by decide) ?_
          obtain rfl := Option.some.inj hf
          refine W.widen (k := 2) (n := 8) (Nat.le_of_ble_eq_true rfl) (Nat.le_of_ble_eq_true rfl) ?_
          rw [hQ]
          exact W.iret hx hb hr (fun t ht hW => ⟨rfl, ⟨by rw [ht]; exact hP, hD⟩, hS.F ht⟩) hS.2.2 dX5_onPath_31
        · replace hf := it_n c9 hf
          refine lv_iload hx hb dX5_onPath_21 (lv_at hl 4 rfl) ?_
          obtain ⟨r10, hc11, hf⟩ := bind_s hf
          refine cpS (v := .int r10) ⟨hx, hb, hml, hown, hts⟩ (ct_X5_isHundredths l dC dI cI cJ cZ x4 r10 hc11) (va_cwS 1 hts gX5_onPath_X5_isHundredths rfl rfl rfl (by decide +kernel) ⟨(Nat.le_of_ble_eq_true rfl), (Nat.le_of_ble_eq_true rfl)⟩) hK hP [] rfl rfl hl.1 rfl (Nat.le_of_ble_eq_true rfl) (Nat.le_of_ble_eq_true rfl) (Nat.le_of_ble_eq_true rfl) dX5_onPath_23 ?_
          refine lv_if_ne (tgt := 32) hx hb dX5_onPath_26 (by decide) (fun c12 => ?_) (fun c12 => ?_)
          · replace hf := it_n c12 hf
            refine lv_iload_n hx hb dX5_onPath_32 rfl (lv_at hl 3 rfl) ?_
            refine lv_iload_n hx hb dX5_onPath_33 rfl (lv_at hl 2 rfl) ?_
            refine lv_icmp_le (tgt := 47) hx hb dX5_onPath_34 (by decide) (fun c13 => ?_) (fun c13 => ?_)
            · replace hf := it_p c13 hf
              refine lv_bipush (v := (-2 : Int32)) hx hb dX5_onPath_47 (by decide) ?_
              obtain rfl := Option.some.inj hf
              refine W.widen (k := 2) (n := 8) (Nat.le_of_ble_eq_true rfl) (Nat.le_of_ble_eq_true rfl) ?_
              rw [hQ]
              exact W.iret hx hb hr (fun t ht hW => ⟨rfl, ⟨by rw [ht]; exact hP, hD⟩, hS.F ht⟩) hS.2.2 dX5_onPath_49
            · replace hf := it_n c13 hf
              refine lv_iload_n hx hb dX5_onPath_37 rfl (lv_at hl 1 rfl) ?_
              refine lv_iload_n hx hb dX5_onPath_38 rfl (lv_at hl 2 rfl) ?_
              refine lv_icmp_lt (tgt := 47) hx hb dX5_onPath_39 (by decide) (fun c14 => ?_) (fun c14 => ?_)
              · replace hf := it_p c14 hf
                refine lv_bipush (v := (-2 : Int32)) hx hb dX5_onPath_47 (by decide) ?_
                obtain rfl := Option.some.inj hf
                refine W.widen (k := 2) (n := 8) (Nat.le_of_ble_eq_true rfl) (Nat.le_of_ble_eq_true rfl) ?_
                rw [hQ]
                exact W.iret hx hb hr (fun t ht hW => ⟨rfl, ⟨by rw [ht]; exact hP, hD⟩, hS.F ht⟩) hS.2.2 dX5_onPath_49
              · replace hf := it_n c14 hf
                refine lv_iload_n hx hb dX5_onPath_42 rfl (lv_at hl 1 rfl) ?_
                refine lv_iload_n hx hb dX5_onPath_43 rfl (lv_at hl 3 rfl) ?_
                refine lv_icmp_le (tgt := 50) hx hb dX5_onPath_44 (by decide) (fun c15 => ?_) (fun c15 => ?_)
                · replace hf := it_p c15 hf
                  refine lv_aload_n hx hb dX5_onPath_50 rfl (lv_at hl 0 rfl) ?_
                  refine lv_bipush (v := (-9 : Int32)) hx hb dX5_onPath_51 (by decide) ?_
                  refine lv_iload_n hx hb dX5_onPath_53 rfl (lv_at hl 1 rfl) ?_
                  refine lv_bipush (v := (-9 : Int32)) hx hb dX5_onPath_54 (by decide) ?_
                  refine va_new (ci := 4) (fs := [.int 0, .int 0, .int 0, .int 0]) (C := RX4) (T := TX4) (N := 4) hx hb hts kX5_onPath_X4 tyX4 tyX4_ok hown (hts _ mX5_onPath_1) (hts _ mX5_onPath_2) (hts _ mX5_onPath_3) hK hP hD hS hA rfl (fun j hj => by rcases (show j = 0 ∨ j = 1 ∨ j = 2 ∨ j = 3 by omega) with rfl | rfl | rfl | rfl <;> rfl) (Nat.le_of_ble_eq_true rfl) (Nat.le_of_ble_eq_true rfl) dX5_onPath_56 (fun w16 H hP hD hS => ?_)
                  replace hP : va_P (dC, dI) vwCl (WX5 a b cI cJ cZ st ++ [wayC w16 0 0 0 0]) H := hP
                  replace hD : va_D A (WX5 a b cI cJ cZ st ++ [wayC w16 0 0 0 0]) := hD
                  refine lv_dup hx hb dX5_onPath_59 rfl ?_
                  refine lv_bipush (v := (-9 : Int32)) hx hb dX5_onPath_60 (by decide) ?_
                  refine lv_iconst (v := (1 : Int32)) hx hb dX5_onPath_62 (by decide) ?_
                  refine lv_iconst (v := (1 : Int32)) hx hb dX5_onPath_63 (by decide) ?_
                  refine lv_iconst (v := (0 : Int32)) hx hb dX5_onPath_64 (by decide) ?_
                  obtain ⟨hb_17, hf⟩ := it_s hf
                  obtain ⟨hb_18, hf⟩ := it_s hf
                  obtain ⟨hb_19, hf⟩ := it_s hf
                  refine cmI (wr := (WX5 a b cI cJ cZ st)) ⟨hx, hb, hml, hown, hts⟩ (ct_X4_init l dC dI cI cJ cZ H.size w16 (-9 : Int32) (1 : Int32) (1 : Int32) (0 : Int32) hb_17 hb_18 hb_19) (cwI 4 hts gX5_onPath_X4_init rfl rfl rfl (hts _ mX5_onPath_3) (hts _ mX5_onPath_13) (hts _ mX5_onPath_14) rfl (by decide +kernel) ⟨(Nat.le_of_ble_eq_true rfl), (Nat.le_of_ble_eq_true rfl)⟩) hK hP hD hS hA [28] [0, 1, 2, 3, 4, 5, 6, 7, 8, 9, 10, 11, 12, 13, 14, 15, 16, 17, 18, 19, 20, 21, 22, 23, 24, 25, 26, 27] rfl rfl (by decide) rfl (by decide) (by decide) rfl hl.1 rfl (Nat.le_of_ble_eq_true rfl) (Nat.le_of_ble_eq_true rfl) (Nat.le_of_ble_eq_true rfl) dX5_onPath_65 (fun _ H locs hP hD hS => ?_)
                  replace hP : va_P (dC, dI) vwCl (WX5 a b cI cJ cZ st ++ [wayC w16 (-9 : Int32) (1 : Int32) (1 : Int32) (0 : Int32)]) H := hP
                  replace hD : va_D A (WX5 a b cI cJ cZ st ++ [wayC w16 (-9 : Int32) (1 : Int32) (1 : Int32) (0 : Int32)]) := hD
                  obtain ⟨p20, hc21, hf⟩ := bind_s hf
                  refine cmV (wr := []) ⟨hx, hb, hml, hown, hts⟩ (ct_X5_totalOf l dC dI a b cI cJ cZ H.size w16 (-9 : Int32) (1 : Int32) (1 : Int32) (0 : Int32) st (-9 : Int32) x1 (-9 : Int32) p20 hc21) (cwV 4 hts gX5_onPath_X5_totalOf rfl rfl rfl (by decide +kernel) ⟨(Nat.le_of_ble_eq_true rfl), (Nat.le_of_ble_eq_true rfl)⟩) hK hP hD hS hA [0, 1, 2, 3, 4, 5, 6, 7, 8, 9, 10, 11, 12, 13, 14, 15, 16, 17, 18, 19, 20, 21, 22, 23, 24, 25, 26, 27, 28] [] rfl rfl (by decide) rfl (by decide) (by decide) rfl rfl rfl hl.1 rfl (Nat.le_of_ble_eq_true rfl) (Nat.le_of_ble_eq_true rfl) (Nat.le_of_ble_eq_true rfl) dX5_onPath_68 (fun H locs hP hD hS => ?_)
                  replace hP : va_P (dC, dI) vwCl (WX5 a b cI cJ cZ p20.2) H := hP.sub [0, 1, 2, 3, 4, 5, 6, 7, 8, 9, 10, 11, 12, 13, 14, 15, 16, 17, 18, 19, 20, 21, 22, 23, 24, 25, 26, 27] rfl
                  replace hD : va_D A (WX5 a b cI cJ cZ p20.2) := hD.sub [0, 1, 2, 3, 4, 5, 6, 7, 8, 9, 10, 11, 12, 13, 14, 15, 16, 17, 18, 19, 20, 21, 22, 23, 24, 25, 26, 27] (by decide) rfl
                  refine W.eq (g2 := F0 m 71 ls [.long p20.1]) rfl ?_
                  refine lv_lstore (lv' := [(5, .long p20.1), (0, .ref (a 0)), (1, .int x1), (2, .int x2), (3, .int x3), (4, .int x4)]) hx hb dX5_onPath_71 hl (by decide) rfl (fun ls hl => ?_)
                  refine lv_aload_n hx hb dX5_onPath_73 rfl (lv_at hl 1 rfl) ?_
                  refine lv_bipush (v := (-9 : Int32)) hx hb dX5_onPath_74 (by decide) ?_
                  refine lv_iload_n hx hb dX5_onPath_76 rfl (lv_at hl 3 rfl) ?_
                  refine lv_bipush (v := (-9 : Int32)) hx hb dX5_onPath_77 (by decide) ?_
                  refine va_new (ci := 4) (fs := [.int 0, .int 0, .int 0, .int 0]) (C := RX4) (T := TX4) (N := 4) hx hb hts kX5_onPath_X4 tyX4 tyX4_ok hown (hts _ mX5_onPath_1) (hts _ mX5_onPath_2) (hts _ mX5_onPath_3) hK hP hD hS hA rfl (fun j hj => by rcases (show j = 0 ∨ j = 1 ∨ j = 2 ∨ j = 3 by omega) with rfl | rfl | rfl | rfl <;> rfl) (Nat.le_of_ble_eq_true rfl) (Nat.le_of_ble_eq_true rfl) dX5_onPath_79 (fun w22 H hP hD hS => ?_)
                  replace hP : va_P (dC, dI) vwCl (WX5 a b cI cJ cZ p20.2 ++ [wayC w22 0 0 0 0]) H := hP
                  replace hD : va_D A (WX5 a b cI cJ cZ p20.2 ++ [wayC w22 0 0 0 0]) := hD
                  refine lv_dup hx hb dX5_onPath_82 rfl ?_
                  refine lv_bipush (v := (-9 : Int32)) hx hb dX5_onPath_83 (by decide) ?_
                  refine lv_iconst (v := (1 : Int32)) hx hb dX5_onPath_85 (by decide) ?_
                  refine lv_iconst (v := (1 : Int32)) hx hb dX5_onPath_86 (by decide) ?_
                  refine lv_iconst (v := (1 : Int32)) hx hb dX5_onPath_87 (by decide) ?_
                  obtain ⟨hb_23, hf⟩ := it_s hf
                  obtain ⟨hb_24, hf⟩ := it_s hf
                  obtain ⟨hb_25, hf⟩ := it_s hf
                  refine cmI (wr := (WX5 a b cI cJ cZ p20.2)) ⟨hx, hb, hml, hown, hts⟩ (ct_X4_init l dC dI cI cJ cZ H.size w22 (-9 : Int32) (1 : Int32) (1 : Int32) (1 : Int32) hb_23 hb_24 hb_25) (cwI 4 hts gX5_onPath_X4_init rfl rfl rfl (hts _ mX5_onPath_3) (hts _ mX5_onPath_13) (hts _ mX5_onPath_14) rfl (by decide +kernel) ⟨(Nat.le_of_ble_eq_true rfl), (Nat.le_of_ble_eq_true rfl)⟩) hK hP hD hS hA [28] [0, 1, 2, 3, 4, 5, 6, 7, 8, 9, 10, 11, 12, 13, 14, 15, 16, 17, 18, 19, 20, 21, 22, 23, 24, 25, 26, 27] rfl rfl (by decide) rfl (by decide) (by decide) rfl hl.1 rfl (Nat.le_of_ble_eq_true rfl) (Nat.le_of_ble_eq_true rfl) (Nat.le_of_ble_eq_true rfl) dX5_onPath_88 (fun _ H locs hP hD hS => ?_)
                  replace hP : va_P (dC, dI) vwCl (WX5 a b cI cJ cZ p20.2 ++ [wayC w22 (-9 : Int32) (1 : Int32) (1 : Int32) (1 : Int32)]) H := hP
                  replace hD : va_D A (WX5 a b cI cJ cZ p20.2 ++ [wayC w22 (-9 : Int32) (1 : Int32) (1 : Int32) (1 : Int32)]) := hD
                  obtain ⟨p26, hc27, hf⟩ := bind_s hf
                  refine cmV (wr := []) ⟨hx, hb, hml, hown, hts⟩ (ct_X5_totalOf l dC dI a b cI cJ cZ H.size w22 (-9 : Int32) (1 : Int32) (1 : Int32) (1 : Int32) p20.2 (-9 : Int32) x2 (-9 : Int32) p26 hc27) (cwV 4 hts gX5_onPath_X5_totalOf rfl rfl rfl (by decide +kernel) ⟨(Nat.le_of_ble_eq_true rfl), (Nat.le_of_ble_eq_true rfl)⟩) hK hP hD hS hA [0, 1, 2, 3, 4, 5, 6, 7, 8, 9, 10, 11, 12, 13, 14, 15, 16, 17, 18, 19, 20, 21, 22, 23, 24, 25, 26, 27, 28] [] rfl rfl (by decide) rfl (by decide) (by decide) rfl rfl rfl hl.1 rfl (Nat.le_of_ble_eq_true rfl) (Nat.le_of_ble_eq_true rfl) (Nat.le_of_ble_eq_true rfl) dX5_onPath_91 (fun H locs hP hD hS => ?_)
                  replace hP : va_P (dC, dI) vwCl (WX5 a b cI cJ cZ p26.2) H := hP.sub [0, 1, 2, 3, 4, 5, 6, 7, 8, 9, 10, 11, 12, 13, 14, 15, 16, 17, 18, 19, 20, 21, 22, 23, 24, 25, 26, 27] rfl
                  replace hD : va_D A (WX5 a b cI cJ cZ p26.2) := hD.sub [0, 1, 2, 3, 4, 5, 6, 7, 8, 9, 10, 11, 12, 13, 14, 15, 16, 17, 18, 19, 20, 21, 22, 23, 24, 25, 26, 27] (by decide) rfl
                  refine W.eq (g2 := F0 m 94 ls [.long p26.1]) rfl ?_
                  refine lv_lstore (lv' := [(7, .long p26.1), (5, .long p20.1), (0, .ref (a 0)), (1, .int x1), (2, .int x2), (3, .int x3), (4, .int x4)]) hx hb dX5_onPath_94 hl (by decide) rfl (fun ls hl => ?_)
                  refine lv_lload hx hb dX5_onPath_96 (lv_at hl 1 rfl) ?_
                  refine lv_ldc2 (v := (-9 : Int64)) hx hb hown (hts _ mX5_onPath_4) dX5_onPath_98 ?_
                  refine W.lcmp hx hb dX5_onPath_101 ?_
                  refine lv_if_eq (tgt := 114) hx hb dX5_onPath_102 (by decide) (fun c28 => ?_) (fun c28 => ?_)
                  · replace hf := it_p c28 hf
                    refine lv_bipush (v := (-9 : Int32)) hx hb dX5_onPath_114 (by decide) ?_
                    obtain rfl := Option.some.inj hf
                    rw [hQ]
                    exact W.iret hx hb hr (fun t ht hW => ⟨rfl, ⟨by rw [ht]; exact hP, hD⟩, hS.F ht⟩) hS.2.2 dX5_onPath_116
                  · replace hf := it_n c28 hf
                    refine lv_lload hx hb dX5_onPath_105 (lv_at hl 0 rfl) ?_
                    refine lv_ldc2 (v := (-9 : Int64)) hx hb hown (hts _ mX5_onPath_4) dX5_onPath_107 ?_
                    refine W.lcmp hx hb dX5_onPath_110 ?_
                    refine lv_if_ne (tgt := 117) hx hb dX5_onPath_111 (by decide) (fun c29 => ?_) (fun c29 => ?_)
                    · replace hf := it_n c29 hf
                      refine lv_ldc2 (v := (100 : Int64)) hx hb hown (hts _ mX5_onPath_5) dX5_onPath_117 ?_
                      refine lv_iload_n hx hb dX5_onPath_120 rfl (lv_at hl 5 rfl) ?_
                      refine lv_iload_n hx hb dX5_onPath_121 rfl (lv_at hl 4 rfl) ?_
                      refine lv_isub hx hb dX5_onPath_122 ?_
                      refine lv_i2l hx hb dX5_onPath_123 rfl ?_
                      refine lv_lmul hx hb dX5_onPath_124 ?_
                      refine lv_lstore (lv' := [(9, .long ((100 : Int64) * (Int32.toInt64 (x3 - x2)))), (7, .long p26.1), (5, .long p20.1), (0, .ref (a 0)), (1, .int x1), (2, .int x2), (3, .int x3), (4, .int x4)]) hx hb dX5_onPath_125 hl (by decide) rfl (fun ls hl => ?_)
                      refine lv_lload hx hb dX5_onPath_127 (lv_at hl 0 rfl) ?_
                      refine lv_iload hx hb dX5_onPath_129 (lv_at hl 7 rfl) ?_
                      refine lv_i2l hx hb dX5_onPath_131 rfl ?_
                      refine lv_iload_n hx hb dX5_onPath_132 rfl (lv_at hl 4 rfl) ?_
                      refine lv_iload_n hx hb dX5_onPath_133 rfl (lv_at hl 5 rfl) ?_
                      refine lv_isub hx hb dX5_onPath_134 ?_
                      refine lv_i2l hx hb dX5_onPath_135 rfl ?_
                      refine lv_lmul hx hb dX5_onPath_136 ?_
                      refine lv_lsub hx hb dX5_onPath_137 ?_
                      refine lv_lstore (lv' := [(11, .long (((100 : Int64) * (Int32.toInt64 (x3 - x2))) - ((Int32.toInt64 x4) * (Int32.toInt64 (x1 - x2))))), (9, .long ((100 : Int64) * (Int32.toInt64 (x3 - x2)))), (7, .long p26.1), (5, .long p20.1), (0, .ref (a 0)), (1, .int x1), (2, .int x2), (3, .int x3), (4, .int x4)]) hx hb dX5_onPath_138 hl (by decide) rfl (fun ls hl => ?_)
                      refine lv_lload hx hb dX5_onPath_140 (lv_at hl 3 rfl) ?_
                      refine lv_lload hx hb dX5_onPath_142 (lv_at hl 2 rfl) ?_
                      refine lv_lload hx hb dX5_onPath_144 (lv_at hl 0 rfl) ?_
                      refine lv_lload hx hb dX5_onPath_146 (lv_at hl 1 rfl) ?_
                      obtain ⟨r30, hc31, hf⟩ := bind_s hf
                      refine cpS (v := .long r30) ⟨hx, hb, hml, hown, hts⟩ (ct_X5_cutPart l dC dI cI cJ cZ p26.1 (((100 : Int64) * (Int32.toInt64 (x3 - x2))) - ((Int32.toInt64 x4) * (Int32.toInt64 (x1 - x2)))) ((100 : Int64) * (Int32.toInt64 (x3 - x2))) r30 hc31) (va_cwS 3 hts gX5_onPath_X5_cutPart rfl rfl rfl (by decide +kernel) ⟨(Nat.le_of_ble_eq_true rfl), (Nat.le_of_ble_eq_true rfl)⟩) hK hP [] rfl rfl hl.1 rfl (Nat.le_of_ble_eq_true rfl) (Nat.le_of_ble_eq_true rfl) (Nat.le_of_ble_eq_true rfl) dX5_onPath_148 ?_
                      refine W.lcmp hx hb dX5_onPath_151 ?_
                      refine lv_if_gt (tgt := 159) hx hb dX5_onPath_152 (by decide) (fun c32 => ?_) (fun c32 => ?_)
                      · replace hf := it_p c32 hf
                        refine lv_iconst (v := (0 : Int32)) hx hb dX5_onPath_159 (by decide) ?_
                        obtain rfl := Option.some.inj hf
                        rw [hQ]
                        exact W.iret hx hb hr (fun t ht hW => ⟨rfl, ⟨by rw [ht]; exact hP, hD⟩, hS.F ht⟩) hS.2.2 dX5_onPath_160
                      · replace hf := it_n c32 hf
                        refine lv_iconst (v := (1 : Int32)) hx hb dX5_onPath_155 (by decide) ?_
                        refine lv_goto (tgt := 160) hx hb dX5_onPath_156 (by decide) ?_
                        obtain rfl := Option.some.inj hf
                        rw [hQ]
                        exact W.iret hx hb hr (fun t ht hW => ⟨rfl, ⟨by rw [ht]; exact hP, hD⟩, hS.F ht⟩) hS.2.2 dX5_onPath_160
                    · replace hf := it_p c29 hf
                      refine lv_bipush (v := (-9 : Int32)) hx hb dX5_onPath_114 (by decide) ?_
                      obtain rfl := Option.some.inj hf
                      rw [hQ]
                      exact W.iret hx hb hr (fun t ht hW => ⟨rfl, ⟨by rw [ht]; exact hP, hD⟩, hS.F ht⟩) hS.2.2 dX5_onPath_116
                · replace hf := it_n c15 hf
                  refine lv_bipush (v := (-2 : Int32)) hx hb dX5_onPath_47 (by decide) ?_
                  obtain rfl := Option.some.inj hf
                  refine W.widen (k := 2) (n := 8) (Nat.le_of_ble_eq_true rfl) (Nat.le_of_ble_eq_true rfl) ?_
                  rw [hQ]
                  exact W.iret hx hb hr (fun t ht hW => ⟨rfl, ⟨by rw [ht]; exact hP, hD⟩, hS.F ht⟩) hS.2.2 dX5_onPath_49
          · replace hf := it_p c12 hf
            refine lv_bipush (v := (-2 : Int32)) hx hb dX5_onPath_29 (by decide) ?_
            obtain rfl := Option.some.inj hf
            refine W.widen (k := 2) (n := 8) (Nat.le_of_ble_eq_true rfl) (Nat.le_of_ble_eq_true rfl) ?_
            rw [hQ]
            exact W.iret hx hb hr (fun t ht hW => ⟨rfl, ⟨by rw [ht]; exact hP, hD⟩, hS.F ht⟩) hS.2.2 dX5_onPath_31
  exact main s.heap [] ls ⟨hP, hD, va_S.rf⟩ hl
def rX5_issue : Room := { frames := 4, cells := 3, slots := 6144, locals := 110 }
theorem kX5_issue_X5 : ∀ w ∈ wsX50, w ∈ wsX5_issue := fun w h => (List.mem_cons_of_mem _ (List.mem_append_left _ (List.mem_append_right _ h)))
theorem mX5_issue_1 : Cond.fieldLink RX5 33 "SmokeLedger" "serials" "LSmokeLedger$Serials;" ∈ wsX5_issue := List.mem_of_getElem? (i := 1) rfl
set_option maxHeartbeats 4000000 in
set_option maxRecDepth 100000 in
theorem ct_X5_issue (l : Launch) (dC : Nat → ClassId) (dI : Nat → Nat → Nat) (a b : Nat → Nat) (cI cJ cZ : ClassId) (sz : Nat) (st : LG) (x1 : Int32) (x2 : Int32) (res : Int32 × LG) (hf : fX5_issue st x1 x2 = some res) : Met l yX5_issue wsX5_issue rX5_issue (Pm (dC, dI) (tyT cI cJ cZ) (WX5 a b cI cJ cZ st) sz [.ref (a 0), .int x1, .int x2]) (Qe (dC, dI) (some (.int res.1)) (fun b' => (WX5 a b' cI cJ cZ res.2)) (va_A (WX5 a b cI cJ cZ st) sz)) 3 6144 (va_A (WX5 a b cI cJ cZ st) sz) := by
  refine Met.ofW (cc := cX5_issue) (maxL := 3) (ret := (some .int)) (by decide) rfl ?_
  intro p e s m args below meth c s₁ B hml hv
  obtain ⟨hargs, hsz, hP, hK, hD0⟩ := hv
  have hx := B.exec
  have hb := B.bytes
  have hr := B.returns
  have hts := atoms_spec (ws := wsX5_issue) B.pre
  have hown : s.vm.findClass RX5 = some m.cls := findClass_of_methodNamed B.named
  have hlocks := B.notSynchronized
  subst hsz
  have hD := hD0.self (sz := s.heap.size)
  generalize hAe : va_A (WX5 a b cI cJ cZ st) s.heap.size = A at hD ⊢
  have hA : ∀ q : Nat, s.heap.size ≤ q → A q := fun q h => by rw [← hAe]; exact Or.inr h
  have hl := lv_entry ([.ref (a 0), .int x1, .int x2]) (n := 3) (Nat.le_of_ble_eq_true rfl)
  refine W.eq (hargs ▸ lg_entry_eq m [.ref (a 0), .int x1, .int x2] 3) ?_
  generalize (lg_sl ([.ref (a 0), .int x1, .int x2]) ++ List.replicate (3 - (lg_sl ([.ref (a 0), .int x1, .int x2])).length) Slot.unset).toArray = ls at hl ⊢
  have hl : lv_has ls 3 [(0, .ref (a 0)), (1, .int x1), (2, .int x2)] := hl
  obtain ⟨QQ, hQ⟩ : ∃ QQ : State → Prop, QQ = MQ below (Qe (dC, dI) (some (.int res.1)) (fun b' => (WX5 a b' cI cJ cZ res.2)) A) args s 3 6144 (A) := ⟨_, rfl⟩
  rw [← hQ]
  have main : ∀ (b : Nat → Nat) (H : Heap) (locs : List Loc) (ls : Array Slot), IN (dC, dI) (WX5 a b cI cJ cZ st) A s.heap H locs → lv_has ls 3 [(0, .ref (a 0)), (1, .int x1), (2, .int x2)] → W p l e (headSpec wsX5_issue rX5_issue).room s m args below meth c H locs 0 0 QQ (F0 m 0 ls []) := by
    intro b H locs ls hin hl
    obtain ⟨hP, hD, hS⟩ := hin
    unfold fX5_issue at hf
    refine lv_aload_n hx hb dX5_issue_0 rfl (lv_at hl 0 rfl) ?_
    refine lv_iload_n hx hb dX5_issue_1 rfl (lv_at hl 1 rfl) ?_
    obtain ⟨r1, hc2, hf⟩ := bind_s hf
    refine cpV (v := .int r1) ⟨hx, hb, hml, hown, hts⟩ (ct_X5_isUnit l dC dI a b cI cJ cZ st x1 r1 hc2) (cwV 1 hts gX5_issue_X5_isUnit rfl rfl rfl (by decide +kernel) ⟨(Nat.le_of_ble_eq_true rfl), (Nat.le_of_ble_eq_true rfl)⟩) hK hP [0, 1, 2, 3, 4, 5, 6, 7, 8, 9, 10, 11, 12, 13, 14, 15, 16, 17, 18, 19, 20, 21, 22, 23, 24, 25, 26, 27] rfl rfl rfl rfl hl.1 rfl (Nat.le_of_ble_eq_true rfl) (Nat.le_of_ble_eq_true rfl) (Nat.le_of_ble_eq_true rfl) dX5_issue_2 ?_
    refine lv_if_ne (tgt := 10) hx hb dX5_issue_5 (by decide) (fun c3 => ?_) (fun c3 => ?_)
    · replace hf := it_n c3 hf
      refine lv_iload_n hx hb dX5_issue_10 rfl (lv_at hl 2 rfl) ?_
      refine lv_iconst (v := (1 : Int32)) hx hb dX5_issue_11 (by decide) ?_
      refine lv_icmp_lt (tgt := 22) hx hb dX5_issue_12 (by decide) (fun c4 => ?_) (fun c4 => ?_)
      · replace hf := it_p c4 hf
        refine lv_bipush (v := (-2 : Int32)) hx hb dX5_issue_22 (by decide) ?_
        obtain rfl := Option.some.inj hf
        refine W.widen (k := 3) (n := 6144) (Nat.le_of_ble_eq_true rfl) (Nat.le_of_ble_eq_true rfl) ?_
        rw [hQ]
        exact W.iret hx hb hr (fun t ht hW => ⟨rfl, ⟨b, by rw [ht]; exact hP, hD⟩, hS.F ht⟩) hS.2.2 dX5_issue_24
      · replace hf := it_n c4 hf
        refine lv_iload_n hx hb dX5_issue_15 rfl (lv_at hl 2 rfl) ?_
        refine lv_sipush (v := (20000 : Int32)) hx hb dX5_issue_16 (by decide) ?_
        refine lv_icmp_le (tgt := 25) hx hb dX5_issue_19 (by decide) (fun c5 => ?_) (fun c5 => ?_)
        · replace hf := it_p c5 hf
          refine lv_aload_n hx hb dX5_issue_25 rfl (lv_at hl 0 rfl) ?_
          refine va_get (D := (dC, dI)) (ci := 5) (v := .ref (a 24)) (C := RX5) (T := TX5) (N := 5) hx hb hts kX5_issue_X5 hown hK hP 0 rfl rfl 3 (by decide) (hts _ mX5_issue_1) (fun _ h9 => h9) rfl dX5_issue_26 ?_
          refine lv_iload_n hx hb dX5_issue_29 rfl (lv_at hl 1 rfl) ?_
          refine lv_iload_n hx hb dX5_issue_30 rfl (lv_at hl 2 rfl) ?_
          obtain ⟨p6, hc7, hf⟩ := bind_s hf
          refine cmE (wr := (a 0, .inr (5, [.ref (a 1), .ref (a 12), .ref (a 19), .ref (a 24), .int (LG_units st)])) :: (WX1 a b cI cJ cZ (LG_H st) ++ (WX2 a b cI cJ cZ (LG_R st) ++ (WX0 a b cI cJ cZ (LG_F st))))) ⟨hx, hb, hml, hown, hts⟩ (ct_X3_add l dC dI a b cI cJ cZ H.size (LG_S st) x1 x2 p6 hc7) (cwV 2 hts gX5_issue_X3_add rfl rfl rfl (by decide +kernel) ⟨(Nat.le_of_ble_eq_true rfl), (Nat.le_of_ble_eq_true rfl)⟩) hK hP hD hS hA [24, 25, 26, 27] [0, 1, 2, 3, 4, 5, 6, 7, 8, 9, 10, 11, 12, 13, 14, 15, 16, 17, 18, 19, 20, 21, 22, 23] rfl rfl (by decide) rfl (by decide) (by decide) rfl rfl rfl hl.1 rfl (Nat.le_of_ble_eq_true rfl) (Nat.le_of_ble_eq_true rfl) (Nat.le_of_ble_eq_true rfl) dX5_issue_31 (fun b8 H locs hP hD hS => ?_)
          replace hP : va_P (dC, dI) vwCl (WX5 a b8 cI cJ cZ (LG_mk (LG_H st) (LG_R st) (LG_F st) p6.2 (LG_units st))) H := hP
          replace hD : va_D A (WX5 a b8 cI cJ cZ (LG_mk (LG_H st) (LG_R st) (LG_F st) p6.2 (LG_units st))) := hD
          refine W.eq (g2 := F0 m 34 ls [.int p6.1]) rfl ?_
          obtain rfl := Option.some.inj hf
          rw [hQ]
          exact W.iret hx hb hr (fun t ht hW => ⟨rfl, ⟨b8, by rw [ht]; exact hP, hD⟩, hS.F ht⟩) hS.2.2 dX5_issue_34
        · replace hf := it_n c5 hf
          refine lv_bipush (v := (-2 : Int32)) hx hb dX5_issue_22 (by decide) ?_
          obtain rfl := Option.some.inj hf
          refine W.widen (k := 3) (n := 6144) (Nat.le_of_ble_eq_true rfl) (Nat.le_of_ble_eq_true rfl) ?_
          rw [hQ]
          exact W.iret hx hb hr (fun t ht hW => ⟨rfl, ⟨b, by rw [ht]; exact hP, hD⟩, hS.F ht⟩) hS.2.2 dX5_issue_24
    · replace hf := it_p c3 hf
      refine lv_iconst (v := (-1 : Int32)) hx hb dX5_issue_8 (by decide) ?_
      obtain rfl := Option.some.inj hf
      refine W.widen (k := 3) (n := 6144) (Nat.le_of_ble_eq_true rfl) (Nat.le_of_ble_eq_true rfl) ?_
      rw [hQ]
      exact W.iret hx hb hr (fun t ht hW => ⟨rfl, ⟨b, by rw [ht]; exact hP, hD⟩, hS.F ht⟩) hS.2.2 dX5_issue_9
  exact main b s.heap [] ls ⟨hP, hD, va_S.rf⟩ hl
def rX5_move : Room := { frames := 5, cells := 6, slots := 12288, locals := 136 }
theorem kX5_move_X5 : ∀ w ∈ wsX50, w ∈ wsX5_move := fun w h => (List.mem_cons_of_mem _ (List.mem_append_left _ (List.mem_append_right _ h)))
theorem mX5_move_1 : Cond.fieldLink RX5 33 "SmokeLedger" "serials" "LSmokeLedger$Serials;" ∈ wsX5_move := List.mem_of_getElem? (i := 1) rfl
set_option maxHeartbeats 4000000 in
set_option maxRecDepth 100000 in
theorem ct_X5_move (l : Launch) (dC : Nat → ClassId) (dI : Nat → Nat → Nat) (a b : Nat → Nat) (cI cJ cZ : ClassId) (sz : Nat) (st : LG) (x1 : Int32) (x2 : Int32) (x3 : Int32) (res : Int32 × LG) (hf : fX5_move st x1 x2 x3 = some res) : Met l yX5_move wsX5_move rX5_move (Pm (dC, dI) (tyT cI cJ cZ) (WX5 a b cI cJ cZ st) sz [.ref (a 0), .int x1, .int x2, .int x3]) (Qe (dC, dI) (some (.int res.1)) (fun b' => (WX5 a b' cI cJ cZ res.2)) (va_A (WX5 a b cI cJ cZ st) sz)) 6 12288 (va_A (WX5 a b cI cJ cZ st) sz) := by
  refine Met.ofW (cc := cX5_move) (maxL := 5) (ret := (some .int)) (by decide) rfl ?_
  intro p e s m args below meth c s₁ B hml hv
  obtain ⟨hargs, hsz, hP, hK, hD0⟩ := hv
  have hx := B.exec
  have hb := B.bytes
  have hr := B.returns
  have hts := atoms_spec (ws := wsX5_move) B.pre
  have hown : s.vm.findClass RX5 = some m.cls := findClass_of_methodNamed B.named
  have hlocks := B.notSynchronized
  subst hsz
  have hD := hD0.self (sz := s.heap.size)
  generalize hAe : va_A (WX5 a b cI cJ cZ st) s.heap.size = A at hD ⊢
  have hA : ∀ q : Nat, s.heap.size ≤ q → A q := fun q h => by rw [← hAe]; exact Or.inr h
  have hl := lv_entry ([.ref (a 0), .int x1, .int x2, .int x3]) (n := 5) (Nat.le_of_ble_eq_true rfl)
  refine W.eq (hargs ▸ lg_entry_eq m [.ref (a 0), .int x1, .int x2, .int x3] 5) ?_
  generalize (lg_sl ([.ref (a 0), .int x1, .int x2, .int x3]) ++ List.replicate (5 - (lg_sl ([.ref (a 0), .int x1, .int x2, .int x3])).length) Slot.unset).toArray = ls at hl ⊢
  have hl : lv_has ls 5 [(0, .ref (a 0)), (1, .int x1), (2, .int x2), (3, .int x3)] := hl
  obtain ⟨QQ, hQ⟩ : ∃ QQ : State → Prop, QQ = MQ below (Qe (dC, dI) (some (.int res.1)) (fun b' => (WX5 a b' cI cJ cZ res.2)) A) args s 6 12288 (A) := ⟨_, rfl⟩
  rw [← hQ]
  have main : ∀ (b : Nat → Nat) (H : Heap) (locs : List Loc) (ls : Array Slot), IN (dC, dI) (WX5 a b cI cJ cZ st) A s.heap H locs → lv_has ls 5 [(0, .ref (a 0)), (1, .int x1), (2, .int x2), (3, .int x3)] → W p l e (headSpec wsX5_move rX5_move).room s m args below meth c H locs 0 0 QQ (F0 m 0 ls []) := by
    intro b H locs ls hin hl
    obtain ⟨hP, hD, hS⟩ := hin
    unfold fX5_move at hf
    refine lv_aload_n hx hb dX5_move_0 rfl (lv_at hl 0 rfl) ?_
    refine lv_iload_n hx hb dX5_move_1 rfl (lv_at hl 3 rfl) ?_
    obtain ⟨r1, hc2, hf⟩ := bind_s hf
    refine cpV (v := .int r1) ⟨hx, hb, hml, hown, hts⟩ (ct_X5_isUnit l dC dI a b cI cJ cZ st x3 r1 hc2) (cwV 1 hts gX5_move_X5_isUnit rfl rfl rfl (by decide +kernel) ⟨(Nat.le_of_ble_eq_true rfl), (Nat.le_of_ble_eq_true rfl)⟩) hK hP [0, 1, 2, 3, 4, 5, 6, 7, 8, 9, 10, 11, 12, 13, 14, 15, 16, 17, 18, 19, 20, 21, 22, 23, 24, 25, 26, 27] rfl rfl rfl rfl hl.1 rfl (Nat.le_of_ble_eq_true rfl) (Nat.le_of_ble_eq_true rfl) (Nat.le_of_ble_eq_true rfl) dX5_move_2 ?_
    refine lv_if_ne (tgt := 10) hx hb dX5_move_5 (by decide) (fun c3 => ?_) (fun c3 => ?_)
    · replace hf := it_n c3 hf
      refine lv_iload_n hx hb dX5_move_10 rfl (lv_at hl 2 rfl) ?_
      refine lv_iconst (v := (1 : Int32)) hx hb dX5_move_11 (by decide) ?_
      refine lv_icmp_ge (tgt := 18) hx hb dX5_move_12 (by decide) (fun c4 => ?_) (fun c4 => ?_)
      · replace hf := it_p c4 hf
        refine lv_aload_n hx hb dX5_move_18 rfl (lv_at hl 0 rfl) ?_
        refine va_get (D := (dC, dI)) (ci := 5) (v := .ref (a 24)) (C := RX5) (T := TX5) (N := 5) hx hb hts kX5_move_X5 hown hK hP 0 rfl rfl 3 (by decide) (hts _ mX5_move_1) (fun _ h9 => h9) rfl dX5_move_19 ?_
        refine lv_iload_n hx hb dX5_move_22 rfl (lv_at hl 1 rfl) ?_
        refine lv_iload_n hx hb dX5_move_23 rfl (lv_at hl 2 rfl) ?_
        obtain ⟨r5, hc6, hf⟩ := bind_s hf
        refine cpV (v := .int r5) ⟨hx, hb, hml, hown, hts⟩ (ct_X3_areIssued l dC dI a b cI cJ cZ (LG_S st) x1 x2 r5 hc6) (cwV 2 hts gX5_move_X3_areIssued rfl rfl rfl (by decide +kernel) ⟨(Nat.le_of_ble_eq_true rfl), (Nat.le_of_ble_eq_true rfl)⟩) hK hP [24, 25, 26, 27] rfl rfl rfl rfl hl.1 rfl (Nat.le_of_ble_eq_true rfl) (Nat.le_of_ble_eq_true rfl) (Nat.le_of_ble_eq_true rfl) dX5_move_24 ?_
        refine lv_if_ne (tgt := 32) hx hb dX5_move_27 (by decide) (fun c7 => ?_) (fun c7 => ?_)
        · replace hf := it_n c7 hf
          refine lv_aload_n hx hb dX5_move_32 rfl (lv_at hl 0 rfl) ?_
          refine va_get (D := (dC, dI)) (ci := 5) (v := .ref (a 24)) (C := RX5) (T := TX5) (N := 5) hx hb hts kX5_move_X5 hown hK hP 0 rfl rfl 3 (by decide) (hts _ mX5_move_1) (fun _ h9 => h9) rfl dX5_move_33 ?_
          refine lv_iload_n hx hb dX5_move_36 rfl (lv_at hl 1 rfl) ?_
          refine lv_iload_n hx hb dX5_move_37 rfl (lv_at hl 2 rfl) ?_
          obtain ⟨r8, hc9, hf⟩ := bind_s hf
          refine cpV (v := .int r8) ⟨hx, hb, hml, hown, hts⟩ (ct_X3_usedAmong l dC dI a b cI cJ cZ (LG_S st) x1 x2 r8 hc9) (cwV 2 hts gX5_move_X3_usedAmong rfl rfl rfl (by decide +kernel) ⟨(Nat.le_of_ble_eq_true rfl), (Nat.le_of_ble_eq_true rfl)⟩) hK hP [24, 25, 26, 27] rfl rfl rfl rfl hl.1 rfl (Nat.le_of_ble_eq_true rfl) (Nat.le_of_ble_eq_true rfl) (Nat.le_of_ble_eq_true rfl) dX5_move_38 ?_
          refine lv_if_le (tgt := 47) hx hb dX5_move_41 (by decide) (fun c10 => ?_) (fun c10 => ?_)
          · replace hf := it_p c10 hf
            refine lv_iload_n hx hb dX5_move_47 rfl (lv_at hl 2 rfl) ?_
            refine lv_aload_n hx hb dX5_move_48 rfl (lv_at hl 0 rfl) ?_
            refine va_get (D := (dC, dI)) (ci := 5) (v := .ref (a 24)) (C := RX5) (T := TX5) (N := 5) hx hb hts kX5_move_X5 hown hK hP 0 rfl rfl 3 (by decide) (hts _ mX5_move_1) (fun _ h9 => h9) rfl dX5_move_49 ?_
            refine lv_iload_n hx hb dX5_move_52 rfl (lv_at hl 1 rfl) ?_
            refine lv_iload_n hx hb dX5_move_53 rfl (lv_at hl 2 rfl) ?_
            refine lv_iload_n hx hb dX5_move_54 rfl (lv_at hl 3 rfl) ?_
            obtain ⟨r11, hc12, hf⟩ := bind_s hf
            refine cpV (v := .int r11) ⟨hx, hb, hml, hown, hts⟩ (ct_X3_ownedAmong l dC dI a b cI cJ cZ (LG_S st) x1 x2 x3 r11 hc12) (cwV 3 hts gX5_move_X3_ownedAmong rfl rfl rfl (by decide +kernel) ⟨(Nat.le_of_ble_eq_true rfl), (Nat.le_of_ble_eq_true rfl)⟩) hK hP [24, 25, 26, 27] rfl rfl rfl rfl hl.1 rfl (Nat.le_of_ble_eq_true rfl) (Nat.le_of_ble_eq_true rfl) (Nat.le_of_ble_eq_true rfl) dX5_move_55 ?_
            refine lv_isub hx hb dX5_move_58 ?_
            refine lv_istore (lv' := [(4, .int (x2 - r11)), (0, .ref (a 0)), (1, .int x1), (2, .int x2), (3, .int x3)]) hx hb dX5_move_59 hl (by decide) rfl (fun ls hl => ?_)
            refine lv_aload_n hx hb dX5_move_61 rfl (lv_at hl 1 rfl) ?_
            refine va_get (D := (dC, dI)) (ci := 5) (v := .ref (a 24)) (C := RX5) (T := TX5) (N := 5) hx hb hts kX5_move_X5 hown hK hP 0 rfl rfl 3 (by decide) (hts _ mX5_move_1) (fun _ h9 => h9) rfl dX5_move_62 ?_
            refine lv_iload_n hx hb dX5_move_65 rfl (lv_at hl 2 rfl) ?_
            refine lv_iload_n hx hb dX5_move_66 rfl (lv_at hl 3 rfl) ?_
            refine lv_iload_n hx hb dX5_move_67 rfl (lv_at hl 4 rfl) ?_
            refine lv_bipush (v := (-9 : Int32)) hx hb dX5_move_68 (by decide) ?_
            obtain ⟨p13, hc14, hf⟩ := bind_s hf
            refine cmE (wr := (a 0, .inr (5, [.ref (a 1), .ref (a 12), .ref (a 19), .ref (a 24), .int (LG_units st)])) :: (WX1 a b cI cJ cZ (LG_H st) ++ (WX2 a b cI cJ cZ (LG_R st) ++ (WX0 a b cI cJ cZ (LG_F st))))) ⟨hx, hb, hml, hown, hts⟩ (ct_X3_mark l dC dI a b cI cJ cZ H.size (LG_S st) x1 x2 x3 (-9 : Int32) p13 hc14) (cwV 4 hts gX5_move_X3_mark rfl rfl rfl (by decide +kernel) ⟨(Nat.le_of_ble_eq_true rfl), (Nat.le_of_ble_eq_true rfl)⟩) hK hP hD hS hA [24, 25, 26, 27] [0, 1, 2, 3, 4, 5, 6, 7, 8, 9, 10, 11, 12, 13, 14, 15, 16, 17, 18, 19, 20, 21, 22, 23] rfl rfl (by decide) rfl (by decide) (by decide) rfl rfl rfl hl.1 rfl (Nat.le_of_ble_eq_true rfl) (Nat.le_of_ble_eq_true rfl) (Nat.le_of_ble_eq_true rfl) dX5_move_70 (fun b15 H locs hP hD hS => ?_)
            replace hP : va_P (dC, dI) vwCl (WX5 a b15 cI cJ cZ (LG_mk (LG_H st) (LG_R st) (LG_F st) p13 (LG_units st))) H := hP
            replace hD : va_D A (WX5 a b15 cI cJ cZ (LG_mk (LG_H st) (LG_R st) (LG_F st) p13 (LG_units st))) := hD
            refine W.eq (g2 := F0 m 73 ls []) rfl ?_
            refine lv_iload hx hb dX5_move_73 (lv_at hl 0 rfl) ?_
            obtain rfl := Option.some.inj hf
            rw [hQ]
            exact W.iret hx hb hr (fun t ht hW => ⟨rfl, ⟨b15, by rw [ht]; exact hP, hD⟩, hS.F ht⟩) hS.2.2 dX5_move_75
          · replace hf := it_n c10 hf
            refine lv_bipush (v := (-3 : Int32)) hx hb dX5_move_44 (by decide) ?_
            obtain rfl := Option.some.inj hf
            refine W.widen (k := 6) (n := 12288) (Nat.le_of_ble_eq_true rfl) (Nat.le_of_ble_eq_true rfl) ?_
            rw [hQ]
            exact W.iret hx hb hr (fun t ht hW => ⟨rfl, ⟨b, by rw [ht]; exact hP, hD⟩, hS.F ht⟩) hS.2.2 dX5_move_46
        · replace hf := it_p c7 hf
          refine lv_iconst (v := (-1 : Int32)) hx hb dX5_move_30 (by decide) ?_
          obtain rfl := Option.some.inj hf
          refine W.widen (k := 6) (n := 12288) (Nat.le_of_ble_eq_true rfl) (Nat.le_of_ble_eq_true rfl) ?_
          rw [hQ]
          exact W.iret hx hb hr (fun t ht hW => ⟨rfl, ⟨b, by rw [ht]; exact hP, hD⟩, hS.F ht⟩) hS.2.2 dX5_move_31
      · replace hf := it_n c4 hf
        refine lv_bipush (v := (-2 : Int32)) hx hb dX5_move_15 (by decide) ?_
        obtain rfl := Option.some.inj hf
        refine W.widen (k := 6) (n := 12288) (Nat.le_of_ble_eq_true rfl) (Nat.le_of_ble_eq_true rfl) ?_
        rw [hQ]
        exact W.iret hx hb hr (fun t ht hW => ⟨rfl, ⟨b, by rw [ht]; exact hP, hD⟩, hS.F ht⟩) hS.2.2 dX5_move_17
    · replace hf := it_p c3 hf
      refine lv_iconst (v := (-1 : Int32)) hx hb dX5_move_8 (by decide) ?_
      obtain rfl := Option.some.inj hf
      refine W.widen (k := 6) (n := 12288) (Nat.le_of_ble_eq_true rfl) (Nat.le_of_ble_eq_true rfl) ?_
      rw [hQ]
      exact W.iret hx hb hr (fun t ht hW => ⟨rfl, ⟨b, by rw [ht]; exact hP, hD⟩, hS.F ht⟩) hS.2.2 dX5_move_9
  exact main b s.heap [] ls ⟨hP, hD, va_S.rf⟩ hl
def rX5_use : Room := { frames := 5, cells := 6, slots := 12288, locals := 136 }
theorem kX5_use_X5 : ∀ w ∈ wsX50, w ∈ wsX5_use := fun w h => (List.mem_cons_of_mem _ (List.mem_append_left _ (List.mem_append_left _ (List.mem_append_right _ h))))
theorem mX5_use_1 : Cond.fieldLink RX5 33 "SmokeLedger" "serials" "LSmokeLedger$Serials;" ∈ wsX5_use := List.mem_of_getElem? (i := 1) rfl
theorem mX5_use_2 : Cond.fieldLink RX5 19 "SmokeLedger" "rows" "LSmokeLedger$Rows;" ∈ wsX5_use := List.mem_of_getElem? (i := 2) rfl
theorem kX5_use_X2 : ∀ w ∈ wsX20, w ∈ wsX5_use := fun w h => (List.mem_cons_of_mem _ (List.mem_append_left _ (List.mem_append_right _ h)))
theorem mX5_use_3 : Cond.fieldLink RX5 86 "SmokeLedger$Rows" "unit" "[I" ∈ wsX5_use := List.mem_of_getElem? (i := 3) rfl
theorem mX5_use_4 : Cond.fieldLink RX5 90 "SmokeLedger$Rows" "kind" "[I" ∈ wsX5_use := List.mem_of_getElem? (i := 4) rfl
theorem mX5_use_5 : Cond.fieldLink RX5 105 "SmokeLedger$Rows" "covered" "[I" ∈ wsX5_use := List.mem_of_getElem? (i := 5) rfl
set_option maxHeartbeats 4000000 in
set_option maxRecDepth 100000 in
theorem ct_X5_use (l : Launch) (dC : Nat → ClassId) (dI : Nat → Nat → Nat) (a b : Nat → Nat) (cI cJ cZ : ClassId) (sz : Nat) (st : LG) (x1 : Int32) (x2 : Int32) (x3 : Int32) (res : Int32 × LG) (hf : fX5_use st x1 x2 x3 = some res) : Met l yX5_use wsX5_use rX5_use (Pm (dC, dI) (tyT cI cJ cZ) (WX5 a b cI cJ cZ st) sz [.ref (a 0), .int x1, .int x2, .int x3]) (Qe (dC, dI) (some (.int res.1)) (fun b' => (WX5 a b' cI cJ cZ res.2)) (va_A (WX5 a b cI cJ cZ st) sz)) 6 12288 (va_A (WX5 a b cI cJ cZ st) sz) := by
  refine Met.ofW (cc := cX5_use) (maxL := 5) (ret := (some .int)) (by decide) rfl ?_
  intro p e s m args below meth c s₁ B hml hv
  obtain ⟨hargs, hsz, hP, hK, hD0⟩ := hv
  have hx := B.exec
  have hb := B.bytes
  have hr := B.returns
  have hts := atoms_spec (ws := wsX5_use) B.pre
  have hown : s.vm.findClass RX5 = some m.cls := findClass_of_methodNamed B.named
  have hlocks := B.notSynchronized
  subst hsz
  have hD := hD0.self (sz := s.heap.size)
  generalize hAe : va_A (WX5 a b cI cJ cZ st) s.heap.size = A at hD ⊢
  have hA : ∀ q : Nat, s.heap.size ≤ q → A q := fun q h => by rw [← hAe]; exact Or.inr h
  have hl := lv_entry ([.ref (a 0), .int x1, .int x2, .int x3]) (n := 5) (Nat.le_of_ble_eq_true rfl)
  refine W.eq (hargs ▸ lg_entry_eq m [.ref (a 0), .int x1, .int x2, .int x3] 5) ?_
  generalize (lg_sl ([.ref (a 0), .int x1, .int x2, .int x3]) ++ List.replicate (5 - (lg_sl ([.ref (a 0), .int x1, .int x2, .int x3])).length) Slot.unset).toArray = ls at hl ⊢
  have hl : lv_has ls 5 [(0, .ref (a 0)), (1, .int x1), (2, .int x2), (3, .int x3)] := hl
  obtain ⟨QQ, hQ⟩ : ∃ QQ : State → Prop, QQ = MQ below (Qe (dC, dI) (some (.int res.1)) (fun b' => (WX5 a b' cI cJ cZ res.2)) A) args s 6 12288 (A) := ⟨_, rfl⟩
  rw [← hQ]
  have main : ∀ (b : Nat → Nat) (H : Heap) (locs : List Loc) (ls : Array Slot), IN (dC, dI) (WX5 a b cI cJ cZ st) A s.heap H locs → lv_has ls 5 [(0, .ref (a 0)), (1, .int x1), (2, .int x2), (3, .int x3)] → W p l e (headSpec wsX5_use rX5_use).room s m args below meth c H locs 0 0 QQ (F0 m 0 ls []) := by
    intro b H locs ls hin hl
    obtain ⟨hP, hD, hS⟩ := hin
    unfold fX5_use at hf
    refine lv_aload_n hx hb dX5_use_0 rfl (lv_at hl 0 rfl) ?_
    refine lv_iload_n hx hb dX5_use_1 rfl (lv_at hl 3 rfl) ?_
    obtain ⟨r1, hc2, hf⟩ := bind_s hf
    refine cpV (v := .int r1) ⟨hx, hb, hml, hown, hts⟩ (ct_X5_isRow l dC dI a b cI cJ cZ st x3 r1 hc2) (cwV 1 hts gX5_use_X5_isRow rfl rfl rfl (by decide +kernel) ⟨(Nat.le_of_ble_eq_true rfl), (Nat.le_of_ble_eq_true rfl)⟩) hK hP [0, 1, 2, 3, 4, 5, 6, 7, 8, 9, 10, 11, 12, 13, 14, 15, 16, 17, 18, 19, 20, 21, 22, 23, 24, 25, 26, 27] rfl rfl rfl rfl hl.1 rfl (Nat.le_of_ble_eq_true rfl) (Nat.le_of_ble_eq_true rfl) (Nat.le_of_ble_eq_true rfl) dX5_use_2 ?_
    refine lv_if_ne (tgt := 10) hx hb dX5_use_5 (by decide) (fun c3 => ?_) (fun c3 => ?_)
    · replace hf := it_n c3 hf
      refine lv_iload_n hx hb dX5_use_10 rfl (lv_at hl 2 rfl) ?_
      refine lv_iconst (v := (1 : Int32)) hx hb dX5_use_11 (by decide) ?_
      refine lv_icmp_ge (tgt := 18) hx hb dX5_use_12 (by decide) (fun c4 => ?_) (fun c4 => ?_)
      · replace hf := it_p c4 hf
        refine lv_aload_n hx hb dX5_use_18 rfl (lv_at hl 0 rfl) ?_
        refine va_get (D := (dC, dI)) (ci := 5) (v := .ref (a 24)) (C := RX5) (T := TX5) (N := 5) hx hb hts kX5_use_X5 hown hK hP 0 rfl rfl 3 (by decide) (hts _ mX5_use_1) (fun _ h9 => h9) rfl dX5_use_19 ?_
        refine lv_iload_n hx hb dX5_use_22 rfl (lv_at hl 1 rfl) ?_
        refine lv_iload_n hx hb dX5_use_23 rfl (lv_at hl 2 rfl) ?_
        obtain ⟨r5, hc6, hf⟩ := bind_s hf
        refine cpV (v := .int r5) ⟨hx, hb, hml, hown, hts⟩ (ct_X3_areIssued l dC dI a b cI cJ cZ (LG_S st) x1 x2 r5 hc6) (cwV 2 hts gX5_use_X3_areIssued rfl rfl rfl (by decide +kernel) ⟨(Nat.le_of_ble_eq_true rfl), (Nat.le_of_ble_eq_true rfl)⟩) hK hP [24, 25, 26, 27] rfl rfl rfl rfl hl.1 rfl (Nat.le_of_ble_eq_true rfl) (Nat.le_of_ble_eq_true rfl) (Nat.le_of_ble_eq_true rfl) dX5_use_24 ?_
        refine lv_if_ne (tgt := 32) hx hb dX5_use_27 (by decide) (fun c7 => ?_) (fun c7 => ?_)
        · replace hf := it_n c7 hf
          refine lv_aload_n hx hb dX5_use_32 rfl (lv_at hl 0 rfl) ?_
          refine va_get (D := (dC, dI)) (ci := 5) (v := .ref (a 12)) (C := RX5) (T := TX5) (N := 5) hx hb hts kX5_use_X5 hown hK hP 0 rfl rfl 1 (by decide) (hts _ mX5_use_2) (fun _ h9 => h9) rfl dX5_use_33 ?_
          refine va_get (D := (dC, dI)) (ci := 2) (v := .ref (a 13)) (C := RX2) (T := TX2) (N := 7) hx hb hts kX5_use_X2 hown hK hP 12 rfl rfl 0 (by decide) (hts _ mX5_use_3) (fun _ h9 => h9) rfl dX5_use_36 ?_
          refine lv_iload_n hx hb dX5_use_39 rfl (lv_at hl 3 rfl) ?_
          obtain ⟨hi8, hf⟩ := it_s hf
          refine va_iald hx hb hK hP 13 0 rfl rfl (inb_in hi8) dX5_use_40 ?_
          refine lv_istore (lv' := [(4, .int ((RS_unit (LG_R st)) (x3).toNatClampNeg)), (0, .ref (a 0)), (1, .int x1), (2, .int x2), (3, .int x3)]) hx hb dX5_use_41 hl (by decide) rfl (fun ls hl => ?_)
          refine lv_aload_n hx hb dX5_use_43 rfl (lv_at hl 1 rfl) ?_
          refine va_get (D := (dC, dI)) (ci := 5) (v := .ref (a 24)) (C := RX5) (T := TX5) (N := 5) hx hb hts kX5_use_X5 hown hK hP 0 rfl rfl 3 (by decide) (hts _ mX5_use_1) (fun _ h9 => h9) rfl dX5_use_44 ?_
          refine lv_iload_n hx hb dX5_use_47 rfl (lv_at hl 2 rfl) ?_
          refine lv_iload_n hx hb dX5_use_48 rfl (lv_at hl 3 rfl) ?_
          obtain ⟨r9, hc10, hf⟩ := bind_s hf
          refine cpV (v := .int r9) ⟨hx, hb, hml, hown, hts⟩ (ct_X3_usedAmong l dC dI a b cI cJ cZ (LG_S st) x1 x2 r9 hc10) (cwV 2 hts gX5_use_X3_usedAmong rfl rfl rfl (by decide +kernel) ⟨(Nat.le_of_ble_eq_true rfl), (Nat.le_of_ble_eq_true rfl)⟩) hK hP [24, 25, 26, 27] rfl rfl rfl rfl hl.1 rfl (Nat.le_of_ble_eq_true rfl) (Nat.le_of_ble_eq_true rfl) (Nat.le_of_ble_eq_true rfl) dX5_use_49 ?_
          refine lv_if_gt (tgt := 83) hx hb dX5_use_52 (by decide) (fun c11 => ?_) (fun c11 => ?_)
          · replace hf := it_p c11 hf
            refine lv_bipush (v := (-3 : Int32)) hx hb dX5_use_83 (by decide) ?_
            obtain rfl := Option.some.inj hf
            refine W.widen (k := 6) (n := 12288) (Nat.le_of_ble_eq_true rfl) (Nat.le_of_ble_eq_true rfl) ?_
            rw [hQ]
            exact W.iret hx hb hr (fun t ht hW => ⟨rfl, ⟨b, by rw [ht]; exact hP, hD⟩, hS.F ht⟩) hS.2.2 dX5_use_85
          · replace hf := it_n c11 hf
            refine lv_aload_n hx hb dX5_use_55 rfl (lv_at hl 1 rfl) ?_
            refine va_get (D := (dC, dI)) (ci := 5) (v := .ref (a 12)) (C := RX5) (T := TX5) (N := 5) hx hb hts kX5_use_X5 hown hK hP 0 rfl rfl 1 (by decide) (hts _ mX5_use_2) (fun _ h9 => h9) rfl dX5_use_56 ?_
            refine va_get (D := (dC, dI)) (ci := 2) (v := .ref (a 14)) (C := RX2) (T := TX2) (N := 7) hx hb hts kX5_use_X2 hown hK hP 12 rfl rfl 1 (by decide) (hts _ mX5_use_4) (fun _ h9 => h9) rfl dX5_use_59 ?_
            refine lv_iload_n hx hb dX5_use_62 rfl (lv_at hl 4 rfl) ?_
            obtain ⟨hi12, hf⟩ := it_s hf
            refine va_iald hx hb hK hP 14 0 rfl rfl (inb_in hi12) dX5_use_63 ?_
            refine lv_iconst (v := (1 : Int32)) hx hb dX5_use_64 (by decide) ?_
            refine lv_icmp_ne (tgt := 83) hx hb dX5_use_65 (by decide) (fun c13 => ?_) (fun c13 => ?_)
            · replace hf := it_n c13 hf
              refine lv_bipush (v := (-3 : Int32)) hx hb dX5_use_83 (by decide) ?_
              obtain rfl := Option.some.inj hf
              refine W.widen (k := 6) (n := 12288) (Nat.le_of_ble_eq_true rfl) (Nat.le_of_ble_eq_true rfl) ?_
              rw [hQ]
              exact W.iret hx hb hr (fun t ht hW => ⟨rfl, ⟨b, by rw [ht]; exact hP, hD⟩, hS.F ht⟩) hS.2.2 dX5_use_85
            · replace hf := it_p c13 hf
              refine lv_aload_n hx hb dX5_use_68 rfl (lv_at hl 1 rfl) ?_
              refine va_get (D := (dC, dI)) (ci := 5) (v := .ref (a 24)) (C := RX5) (T := TX5) (N := 5) hx hb hts kX5_use_X5 hown hK hP 0 rfl rfl 3 (by decide) (hts _ mX5_use_1) (fun _ h9 => h9) rfl dX5_use_69 ?_
              refine lv_iload_n hx hb dX5_use_72 rfl (lv_at hl 2 rfl) ?_
              refine lv_iload_n hx hb dX5_use_73 rfl (lv_at hl 3 rfl) ?_
              refine lv_iload hx hb dX5_use_74 (lv_at hl 0 rfl) ?_
              obtain ⟨r14, hc15, hf⟩ := bind_s hf
              refine cpV (v := .int r14) ⟨hx, hb, hml, hown, hts⟩ (ct_X3_ownedAmong l dC dI a b cI cJ cZ (LG_S st) x1 x2 ((RS_unit (LG_R st)) (x3).toNatClampNeg) r14 hc15) (cwV 3 hts gX5_use_X3_ownedAmong rfl rfl rfl (by decide +kernel) ⟨(Nat.le_of_ble_eq_true rfl), (Nat.le_of_ble_eq_true rfl)⟩) hK hP [24, 25, 26, 27] rfl rfl rfl rfl hl.1 rfl (Nat.le_of_ble_eq_true rfl) (Nat.le_of_ble_eq_true rfl) (Nat.le_of_ble_eq_true rfl) dX5_use_76 ?_
              refine lv_iload_n hx hb dX5_use_79 rfl (lv_at hl 3 rfl) ?_
              refine lv_icmp_ge (tgt := 86) hx hb dX5_use_80 (by decide) (fun c16 => ?_) (fun c16 => ?_)
              · replace hf := it_p c16 hf
                refine lv_iload_n hx hb dX5_use_86 rfl (lv_at hl 3 rfl) ?_
                refine lv_aload_n hx hb dX5_use_87 rfl (lv_at hl 1 rfl) ?_
                refine va_get (D := (dC, dI)) (ci := 5) (v := .ref (a 12)) (C := RX5) (T := TX5) (N := 5) hx hb hts kX5_use_X5 hown hK hP 0 rfl rfl 1 (by decide) (hts _ mX5_use_2) (fun _ h9 => h9) rfl dX5_use_88 ?_
                refine lv_iload_n hx hb dX5_use_91 rfl (lv_at hl 4 rfl) ?_
                obtain ⟨r17, hc18, hf⟩ := bind_s hf
                refine cpV (v := .int r17) ⟨hx, hb, hml, hown, hts⟩ (ct_X2_uncovered l dC dI a b cI cJ cZ (LG_R st) x3 r17 hc18) (cwV 1 hts gX5_use_X2_uncovered rfl rfl rfl (by decide +kernel) ⟨(Nat.le_of_ble_eq_true rfl), (Nat.le_of_ble_eq_true rfl)⟩) hK hP [12, 13, 14, 15, 16, 17, 18] rfl rfl rfl rfl hl.1 rfl (Nat.le_of_ble_eq_true rfl) (Nat.le_of_ble_eq_true rfl) (Nat.le_of_ble_eq_true rfl) dX5_use_92 ?_
                refine lv_icmp_le (tgt := 101) hx hb dX5_use_95 (by decide) (fun c19 => ?_) (fun c19 => ?_)
                · replace hf := it_p c19 hf
                  refine lv_aload_n hx hb dX5_use_101 rfl (lv_at hl 1 rfl) ?_
                  refine va_get (D := (dC, dI)) (ci := 5) (v := .ref (a 24)) (C := RX5) (T := TX5) (N := 5) hx hb hts kX5_use_X5 hown hK hP 0 rfl rfl 3 (by decide) (hts _ mX5_use_1) (fun _ h9 => h9) rfl dX5_use_102 ?_
                  refine lv_iload_n hx hb dX5_use_105 rfl (lv_at hl 2 rfl) ?_
                  refine lv_iload_n hx hb dX5_use_106 rfl (lv_at hl 3 rfl) ?_
                  refine lv_iload hx hb dX5_use_107 (lv_at hl 0 rfl) ?_
                  refine lv_iload_n hx hb dX5_use_109 rfl (lv_at hl 4 rfl) ?_
                  obtain ⟨p20, hc21, hf⟩ := bind_s hf
                  refine cmE (wr := (a 0, .inr (5, [.ref (a 1), .ref (a 12), .ref (a 19), .ref (a 24), .int (LG_units st)])) :: (WX1 a b cI cJ cZ (LG_H st) ++ (WX2 a b cI cJ cZ (LG_R st) ++ (WX0 a b cI cJ cZ (LG_F st))))) ⟨hx, hb, hml, hown, hts⟩ (ct_X3_mark l dC dI a b cI cJ cZ H.size (LG_S st) x1 x2 ((RS_unit (LG_R st)) (x3).toNatClampNeg) x3 p20 hc21) (cwV 4 hts gX5_use_X3_mark rfl rfl rfl (by decide +kernel) ⟨(Nat.le_of_ble_eq_true rfl), (Nat.le_of_ble_eq_true rfl)⟩) hK hP hD hS hA [24, 25, 26, 27] [0, 1, 2, 3, 4, 5, 6, 7, 8, 9, 10, 11, 12, 13, 14, 15, 16, 17, 18, 19, 20, 21, 22, 23] rfl rfl (by decide) rfl (by decide) (by decide) rfl rfl rfl hl.1 rfl (Nat.le_of_ble_eq_true rfl) (Nat.le_of_ble_eq_true rfl) (Nat.le_of_ble_eq_true rfl) dX5_use_110 (fun b22 H locs hP hD hS => ?_)
                  replace hP : va_P (dC, dI) vwCl (WX5 a b22 cI cJ cZ (LG_mk (LG_H st) (LG_R st) (LG_F st) p20 (LG_units st))) H := hP
                  replace hD : va_D A (WX5 a b22 cI cJ cZ (LG_mk (LG_H st) (LG_R st) (LG_F st) p20 (LG_units st))) := hD
                  refine W.eq (g2 := F0 m 113 ls []) rfl ?_
                  refine lv_aload_n hx hb dX5_use_113 rfl (lv_at hl 1 rfl) ?_
                  refine va_get (D := (dC, dI)) (ci := 5) (v := .ref (a 12)) (C := RX5) (T := TX5) (N := 5) hx hb hts kX5_use_X5 hown hK hP 0 rfl rfl 1 (by decide) (hts _ mX5_use_2) (fun _ h9 => h9) rfl dX5_use_114 ?_
                  refine va_get (D := (dC, dI)) (ci := 2) (v := .ref (a 18)) (C := RX2) (T := TX2) (N := 7) hx hb hts kX5_use_X2 hown hK hP 12 rfl rfl 5 (by decide) (hts _ mX5_use_5) (fun _ h9 => h9) rfl dX5_use_117 ?_
                  refine lv_iload_n hx hb dX5_use_120 rfl (lv_at hl 4 rfl) ?_
                  refine lv_dup2_11 hx hb dX5_use_121 rfl rfl ?_
                  obtain ⟨hi23, hf⟩ := it_s hf
                  refine va_iald hx hb hK hP 18 0 rfl rfl (inb_in hi23) dX5_use_122 ?_
                  refine lv_iload_n hx hb dX5_use_123 rfl (lv_at hl 3 rfl) ?_
                  refine lv_iadd hx hb dX5_use_124 ?_
                  obtain ⟨hi24, hf⟩ := it_s hf
                  refine va_iast hx hb hK hP hD hS 18 0 rfl rfl (inb_in hi24) dX5_use_125 (fun H locs hP hD hS => ?_)
                  replace hP : va_P (dC, dI) vwCl (WX5 a b22 cI cJ cZ (LG_mk (LG_H st) (RS_covered_s (LG_R st) (upd (RS_covered (LG_R st)) (x3).toNatClampNeg (((RS_covered (LG_R st)) (x3).toNatClampNeg) + x2))) (LG_F st) p20 (LG_units st))) H := hP
                  replace hD : va_D A (WX5 a b22 cI cJ cZ (LG_mk (LG_H st) (RS_covered_s (LG_R st) (upd (RS_covered (LG_R st)) (x3).toNatClampNeg (((RS_covered (LG_R st)) (x3).toNatClampNeg) + x2))) (LG_F st) p20 (LG_units st))) := hD
                  refine lv_aload_n hx hb dX5_use_126 rfl (lv_at hl 1 rfl) ?_
                  refine va_get (D := (dC, dI)) (ci := 5) (v := .ref (a 12)) (C := RX5) (T := TX5) (N := 5) hx hb hts kX5_use_X5 hown hK hP 0 rfl rfl 1 (by decide) (hts _ mX5_use_2) (fun _ h9 => h9) rfl dX5_use_127 ?_
                  refine va_get (D := (dC, dI)) (ci := 2) (v := .ref (a 18)) (C := RX2) (T := TX2) (N := 7) hx hb hts kX5_use_X2 hown hK hP 12 rfl rfl 5 (by decide) (hts _ mX5_use_5) (fun _ h9 => h9) rfl dX5_use_130 ?_
                  refine lv_iload_n hx hb dX5_use_133 rfl (lv_at hl 4 rfl) ?_
                  obtain ⟨hi25, hf⟩ := it_s hf
                  refine va_iald hx hb hK hP 18 0 rfl rfl (inb_in hi25) dX5_use_134 ?_
                  obtain rfl := Option.some.inj hf
                  rw [hQ]
                  exact W.iret hx hb hr (fun t ht hW => ⟨rfl, ⟨b22, by rw [ht]; exact hP, hD⟩, hS.F ht⟩) hS.2.2 dX5_use_135
                · replace hf := it_n c19 hf
                  refine lv_bipush (v := (-4 : Int32)) hx hb dX5_use_98 (by decide) ?_
                  obtain rfl := Option.some.inj hf
                  refine W.widen (k := 6) (n := 12288) (Nat.le_of_ble_eq_true rfl) (Nat.le_of_ble_eq_true rfl) ?_
                  rw [hQ]
                  exact W.iret hx hb hr (fun t ht hW => ⟨rfl, ⟨b, by rw [ht]; exact hP, hD⟩, hS.F ht⟩) hS.2.2 dX5_use_100
              · replace hf := it_n c16 hf
                refine lv_bipush (v := (-3 : Int32)) hx hb dX5_use_83 (by decide) ?_
                obtain rfl := Option.some.inj hf
                refine W.widen (k := 6) (n := 12288) (Nat.le_of_ble_eq_true rfl) (Nat.le_of_ble_eq_true rfl) ?_
                rw [hQ]
                exact W.iret hx hb hr (fun t ht hW => ⟨rfl, ⟨b, by rw [ht]; exact hP, hD⟩, hS.F ht⟩) hS.2.2 dX5_use_85
        · replace hf := it_p c7 hf
          refine lv_iconst (v := (-1 : Int32)) hx hb dX5_use_30 (by decide) ?_
          obtain rfl := Option.some.inj hf
          refine W.widen (k := 6) (n := 12288) (Nat.le_of_ble_eq_true rfl) (Nat.le_of_ble_eq_true rfl) ?_
          rw [hQ]
          exact W.iret hx hb hr (fun t ht hW => ⟨rfl, ⟨b, by rw [ht]; exact hP, hD⟩, hS.F ht⟩) hS.2.2 dX5_use_31
      · replace hf := it_n c4 hf
        refine lv_bipush (v := (-2 : Int32)) hx hb dX5_use_15 (by decide) ?_
        obtain rfl := Option.some.inj hf
        refine W.widen (k := 6) (n := 12288) (Nat.le_of_ble_eq_true rfl) (Nat.le_of_ble_eq_true rfl) ?_
        rw [hQ]
        exact W.iret hx hb hr (fun t ht hW => ⟨rfl, ⟨b, by rw [ht]; exact hP, hD⟩, hS.F ht⟩) hS.2.2 dX5_use_17
    · replace hf := it_p c3 hf
      refine lv_iconst (v := (-1 : Int32)) hx hb dX5_use_8 (by decide) ?_
      obtain rfl := Option.some.inj hf
      refine W.widen (k := 6) (n := 12288) (Nat.le_of_ble_eq_true rfl) (Nat.le_of_ble_eq_true rfl) ?_
      rw [hQ]
      exact W.iret hx hb hr (fun t ht hW => ⟨rfl, ⟨b, by rw [ht]; exact hP, hD⟩, hS.F ht⟩) hS.2.2 dX5_use_9
  exact main b s.heap [] ls ⟨hP, hD, va_S.rf⟩ hl
def rX5_owner : Room := { frames := 1, cells := 0, slots := 0, locals := 22 }
theorem kX5_owner_X5 : ∀ w ∈ wsX50, w ∈ wsX5_owner := fun w h => (List.mem_cons_of_mem _ (List.mem_append_left _ (List.mem_append_right _ h)))
theorem mX5_owner_1 : Cond.fieldLink RX5 33 "SmokeLedger" "serials" "LSmokeLedger$Serials;" ∈ wsX5_owner := List.mem_of_getElem? (i := 1) rfl
theorem kX5_owner_X3 : ∀ w ∈ wsX30, w ∈ wsX5_owner := fun w h => (List.mem_cons_of_mem _ (List.mem_append_right _ h))
theorem mX5_owner_2 : Cond.fieldLink RX5 174 "SmokeLedger$Serials" "owner" "[I" ∈ wsX5_owner := List.mem_of_getElem? (i := 2) rfl
set_option maxHeartbeats 4000000 in
set_option maxRecDepth 100000 in
theorem ct_X5_owner (l : Launch) (dC : Nat → ClassId) (dI : Nat → Nat → Nat) (a b : Nat → Nat) (cI cJ cZ : ClassId) (st : LG) (x1 : Int32) (res : Int32) (hf : fX5_owner st x1 = some res) : Met l yX5_owner wsX5_owner rX5_owner (Pp (dC, dI) (tyT cI cJ cZ) (WX5 a b cI cJ cZ st) [.ref (a 0), .int x1]) (Qp (.int res)) 0 0 (fun _ => False) := by
  refine Met.ofW (cc := cX5_owner) (maxL := 2) (ret := (some .int)) (by decide) rfl ?_
  intro p e s m args below meth c s₁ B hml hv
  obtain ⟨hargs, hP, hK⟩ := hv
  have hx := B.exec
  have hb := B.bytes
  have hr := B.returns
  have hts := atoms_spec (ws := wsX5_owner) B.pre
  have hown : s.vm.findClass RX5 = some m.cls := findClass_of_methodNamed B.named
  have hlocks := B.notSynchronized
  have hP : va_P (dC, dI) vwCl (WX5 a b cI cJ cZ st) s.heap := hP
  have hl := lv_entry ([.ref (a 0), .int x1]) (n := 2) (Nat.le_of_ble_eq_true rfl)
  refine W.eq (hargs ▸ lg_entry_eq m [.ref (a 0), .int x1] 2) ?_
  generalize (lg_sl ([.ref (a 0), .int x1]) ++ List.replicate (2 - (lg_sl ([.ref (a 0), .int x1])).length) Slot.unset).toArray = ls at hl ⊢
  have hl : lv_has ls 2 [(0, .ref (a 0)), (1, .int x1)] := hl
  obtain ⟨QQ, hQ⟩ : ∃ QQ : State → Prop, QQ = MQ below (Qp (.int res)) args s 0 0 (fun _ => False) := ⟨_, rfl⟩
  rw [← hQ]
  unfold fX5_owner at hf
  refine lv_aload_n hx hb dX5_owner_0 rfl (lv_at hl 0 rfl) ?_
  refine va_get (D := (dC, dI)) (ci := 5) (v := .ref (a 24)) (C := RX5) (T := TX5) (N := 5) hx hb hts kX5_owner_X5 hown hK hP 0 rfl rfl 3 (by decide) (hts _ mX5_owner_1) (fun _ h9 => h9) rfl dX5_owner_1 ?_
  refine lv_iload_n hx hb dX5_owner_4 rfl (lv_at hl 1 rfl) ?_
  refine lv_iconst (v := (1 : Int32)) hx hb dX5_owner_5 (by decide) ?_
  obtain ⟨r1, hc2, hf⟩ := bind_s hf
  refine cpV (v := .int r1) ⟨hx, hb, hml, hown, hts⟩ (ct_X3_areIssued l dC dI a b cI cJ cZ (LG_S st) x1 (1 : Int32) r1 hc2) (cwV 2 hts gX5_owner_X3_areIssued rfl rfl rfl (by decide +kernel) ⟨(Nat.le_of_ble_eq_true rfl), (Nat.le_of_ble_eq_true rfl)⟩) hK hP [24, 25, 26, 27] rfl rfl rfl rfl hl.1 rfl (Nat.le_of_ble_eq_true rfl) (Nat.le_of_ble_eq_true rfl) (Nat.le_of_ble_eq_true rfl) dX5_owner_6 ?_
  refine lv_if_eq (tgt := 31) hx hb dX5_owner_9 (by decide) (fun c3 => ?_) (fun c3 => ?_)
  · replace hf := it_p c3 hf
    refine lv_iconst (v := (-1 : Int32)) hx hb dX5_owner_31 (by decide) ?_
    obtain rfl := Option.some.inj hf
    rw [hQ]
    exact W.iret hx hb hr (fun t ht hW => ⟨rfl, ht⟩) (fun q hq => absurd hq List.not_mem_nil) dX5_owner_32
  · replace hf := it_n c3 hf
    refine lv_aload_n hx hb dX5_owner_12 rfl (lv_at hl 0 rfl) ?_
    refine va_get (D := (dC, dI)) (ci := 5) (v := .ref (a 24)) (C := RX5) (T := TX5) (N := 5) hx hb hts kX5_owner_X5 hown hK hP 0 rfl rfl 3 (by decide) (hts _ mX5_owner_1) (fun _ h9 => h9) rfl dX5_owner_13 ?_
    refine va_get (D := (dC, dI)) (ci := 3) (v := .ref (b 1)) (C := RX3) (T := TX3) (N := 5) hx hb hts kX5_owner_X3 hown hK hP 24 rfl rfl 1 (by decide) (hts _ mX5_owner_2) (fun _ h9 => h9) rfl dX5_owner_16 ?_
    refine lv_aload_n hx hb dX5_owner_19 rfl (lv_at hl 0 rfl) ?_
    refine va_get (D := (dC, dI)) (ci := 5) (v := .ref (a 24)) (C := RX5) (T := TX5) (N := 5) hx hb hts kX5_owner_X5 hown hK hP 0 rfl rfl 3 (by decide) (hts _ mX5_owner_1) (fun _ h9 => h9) rfl dX5_owner_20 ?_
    refine lv_iload_n hx hb dX5_owner_23 rfl (lv_at hl 1 rfl) ?_
    obtain ⟨r4, hc5, hf⟩ := bind_s hf
    refine cpV (v := .int r4) ⟨hx, hb, hml, hown, hts⟩ (ct_X3_runWith l dC dI a b cI cJ cZ (LG_S st) x1 r4 hc5) (cwV 1 hts gX5_owner_X3_runWith rfl rfl rfl (by decide +kernel) ⟨(Nat.le_of_ble_eq_true rfl), (Nat.le_of_ble_eq_true rfl)⟩) hK hP [24, 25, 26, 27] rfl rfl rfl rfl hl.1 rfl (Nat.le_of_ble_eq_true rfl) (Nat.le_of_ble_eq_true rfl) (Nat.le_of_ble_eq_true rfl) dX5_owner_24 ?_
    obtain ⟨hi6, hf⟩ := it_s hf
    refine va_iald hx hb hK hP 26 0 rfl rfl (inb_in hi6) dX5_owner_27 ?_
    refine lv_goto (tgt := 32) hx hb dX5_owner_28 (by decide) ?_
    obtain rfl := Option.some.inj hf
    rw [hQ]
    exact W.iret hx hb hr (fun t ht hW => ⟨rfl, ht⟩) (fun q hq => absurd hq List.not_mem_nil) dX5_owner_32
def rX5_usedFor : Room := { frames := 1, cells := 0, slots := 0, locals := 22 }
theorem kX5_usedFor_X5 : ∀ w ∈ wsX50, w ∈ wsX5_usedFor := fun w h => (List.mem_cons_of_mem _ (List.mem_append_left _ (List.mem_append_right _ h)))
theorem mX5_usedFor_1 : Cond.fieldLink RX5 33 "SmokeLedger" "serials" "LSmokeLedger$Serials;" ∈ wsX5_usedFor := List.mem_of_getElem? (i := 1) rfl
theorem kX5_usedFor_X3 : ∀ w ∈ wsX30, w ∈ wsX5_usedFor := fun w h => (List.mem_cons_of_mem _ (List.mem_append_right _ h))
theorem mX5_usedFor_2 : Cond.fieldLink RX5 180 "SmokeLedger$Serials" "row" "[I" ∈ wsX5_usedFor := List.mem_of_getElem? (i := 2) rfl
set_option maxHeartbeats 4000000 in
set_option maxRecDepth 100000 in
theorem ct_X5_usedFor (l : Launch) (dC : Nat → ClassId) (dI : Nat → Nat → Nat) (a b : Nat → Nat) (cI cJ cZ : ClassId) (st : LG) (x1 : Int32) (res : Int32) (hf : fX5_usedFor st x1 = some res) : Met l yX5_usedFor wsX5_usedFor rX5_usedFor (Pp (dC, dI) (tyT cI cJ cZ) (WX5 a b cI cJ cZ st) [.ref (a 0), .int x1]) (Qp (.int res)) 0 0 (fun _ => False) := by
  refine Met.ofW (cc := cX5_usedFor) (maxL := 2) (ret := (some .int)) (by decide) rfl ?_
  intro p e s m args below meth c s₁ B hml hv
  obtain ⟨hargs, hP, hK⟩ := hv
  have hx := B.exec
  have hb := B.bytes
  have hr := B.returns
  have hts := atoms_spec (ws := wsX5_usedFor) B.pre
  have hown : s.vm.findClass RX5 = some m.cls := findClass_of_methodNamed B.named
  have hlocks := B.notSynchronized
  have hP : va_P (dC, dI) vwCl (WX5 a b cI cJ cZ st) s.heap := hP
  have hl := lv_entry ([.ref (a 0), .int x1]) (n := 2) (Nat.le_of_ble_eq_true rfl)
  refine W.eq (hargs ▸ lg_entry_eq m [.ref (a 0), .int x1] 2) ?_
  generalize (lg_sl ([.ref (a 0), .int x1]) ++ List.replicate (2 - (lg_sl ([.ref (a 0), .int x1])).length) Slot.unset).toArray = ls at hl ⊢
  have hl : lv_has ls 2 [(0, .ref (a 0)), (1, .int x1)] := hl
  obtain ⟨QQ, hQ⟩ : ∃ QQ : State → Prop, QQ = MQ below (Qp (.int res)) args s 0 0 (fun _ => False) := ⟨_, rfl⟩
  rw [← hQ]
  unfold fX5_usedFor at hf
  refine lv_aload_n hx hb dX5_usedFor_0 rfl (lv_at hl 0 rfl) ?_
  refine va_get (D := (dC, dI)) (ci := 5) (v := .ref (a 24)) (C := RX5) (T := TX5) (N := 5) hx hb hts kX5_usedFor_X5 hown hK hP 0 rfl rfl 3 (by decide) (hts _ mX5_usedFor_1) (fun _ h9 => h9) rfl dX5_usedFor_1 ?_
  refine lv_iload_n hx hb dX5_usedFor_4 rfl (lv_at hl 1 rfl) ?_
  refine lv_iconst (v := (1 : Int32)) hx hb dX5_usedFor_5 (by decide) ?_
  obtain ⟨r1, hc2, hf⟩ := bind_s hf
  refine cpV (v := .int r1) ⟨hx, hb, hml, hown, hts⟩ (ct_X3_areIssued l dC dI a b cI cJ cZ (LG_S st) x1 (1 : Int32) r1 hc2) (cwV 2 hts gX5_usedFor_X3_areIssued rfl rfl rfl (by decide +kernel) ⟨(Nat.le_of_ble_eq_true rfl), (Nat.le_of_ble_eq_true rfl)⟩) hK hP [24, 25, 26, 27] rfl rfl rfl rfl hl.1 rfl (Nat.le_of_ble_eq_true rfl) (Nat.le_of_ble_eq_true rfl) (Nat.le_of_ble_eq_true rfl) dX5_usedFor_6 ?_
  refine lv_if_eq (tgt := 31) hx hb dX5_usedFor_9 (by decide) (fun c3 => ?_) (fun c3 => ?_)
  · replace hf := it_p c3 hf
    refine lv_iconst (v := (-1 : Int32)) hx hb dX5_usedFor_31 (by decide) ?_
    obtain rfl := Option.some.inj hf
    rw [hQ]
    exact W.iret hx hb hr (fun t ht hW => ⟨rfl, ht⟩) (fun q hq => absurd hq List.not_mem_nil) dX5_usedFor_32
  · replace hf := it_n c3 hf
    refine lv_aload_n hx hb dX5_usedFor_12 rfl (lv_at hl 0 rfl) ?_
    refine va_get (D := (dC, dI)) (ci := 5) (v := .ref (a 24)) (C := RX5) (T := TX5) (N := 5) hx hb hts kX5_usedFor_X5 hown hK hP 0 rfl rfl 3 (by decide) (hts _ mX5_usedFor_1) (fun _ h9 => h9) rfl dX5_usedFor_13 ?_
    refine va_get (D := (dC, dI)) (ci := 3) (v := .ref (b 2)) (C := RX3) (T := TX3) (N := 5) hx hb hts kX5_usedFor_X3 hown hK hP 24 rfl rfl 2 (by decide) (hts _ mX5_usedFor_2) (fun _ h9 => h9) rfl dX5_usedFor_16 ?_
    refine lv_aload_n hx hb dX5_usedFor_19 rfl (lv_at hl 0 rfl) ?_
    refine va_get (D := (dC, dI)) (ci := 5) (v := .ref (a 24)) (C := RX5) (T := TX5) (N := 5) hx hb hts kX5_usedFor_X5 hown hK hP 0 rfl rfl 3 (by decide) (hts _ mX5_usedFor_1) (fun _ h9 => h9) rfl dX5_usedFor_20 ?_
    refine lv_iload_n hx hb dX5_usedFor_23 rfl (lv_at hl 1 rfl) ?_
    obtain ⟨r4, hc5, hf⟩ := bind_s hf
    refine cpV (v := .int r4) ⟨hx, hb, hml, hown, hts⟩ (ct_X3_runWith l dC dI a b cI cJ cZ (LG_S st) x1 r4 hc5) (cwV 1 hts gX5_usedFor_X3_runWith rfl rfl rfl (by decide +kernel) ⟨(Nat.le_of_ble_eq_true rfl), (Nat.le_of_ble_eq_true rfl)⟩) hK hP [24, 25, 26, 27] rfl rfl rfl rfl hl.1 rfl (Nat.le_of_ble_eq_true rfl) (Nat.le_of_ble_eq_true rfl) (Nat.le_of_ble_eq_true rfl) dX5_usedFor_24 ?_
    obtain ⟨hi6, hf⟩ := it_s hf
    refine va_iald hx hb hK hP 27 0 rfl rfl (inb_in hi6) dX5_usedFor_27 ?_
    refine lv_goto (tgt := 32) hx hb dX5_usedFor_28 (by decide) ?_
    obtain rfl := Option.some.inj hf
    rw [hQ]
    exact W.iret hx hb hr (fun t ht hW => ⟨rfl, ht⟩) (fun q hq => absurd hq List.not_mem_nil) dX5_usedFor_32
def rX5_free : Room := { frames := 3, cells := 0, slots := 0, locals := 65 }
theorem kX5_free_X5 : ∀ w ∈ wsX50, w ∈ wsX5_free := fun w h => (List.mem_cons_of_mem _ (List.mem_append_left _ (List.mem_append_right _ h)))
theorem mX5_free_1 : Cond.fieldLink RX5 33 "SmokeLedger" "serials" "LSmokeLedger$Serials;" ∈ wsX5_free := List.mem_of_getElem? (i := 1) rfl
set_option maxHeartbeats 4000000 in
set_option maxRecDepth 100000 in
theorem ct_X5_free (l : Launch) (dC : Nat → ClassId) (dI : Nat → Nat → Nat) (a b : Nat → Nat) (cI cJ cZ : ClassId) (st : LG) (x1 : Int32) (res : Int32) (hf : fX5_free st x1 = some res) : Met l yX5_free wsX5_free rX5_free (Pp (dC, dI) (tyT cI cJ cZ) (WX5 a b cI cJ cZ st) [.ref (a 0), .int x1]) (Qp (.int res)) 0 0 (fun _ => False) := by
  refine Met.ofW (cc := cX5_free) (maxL := 2) (ret := (some .int)) (by decide) rfl ?_
  intro p e s m args below meth c s₁ B hml hv
  obtain ⟨hargs, hP, hK⟩ := hv
  have hx := B.exec
  have hb := B.bytes
  have hr := B.returns
  have hts := atoms_spec (ws := wsX5_free) B.pre
  have hown : s.vm.findClass RX5 = some m.cls := findClass_of_methodNamed B.named
  have hlocks := B.notSynchronized
  have hP : va_P (dC, dI) vwCl (WX5 a b cI cJ cZ st) s.heap := hP
  have hl := lv_entry ([.ref (a 0), .int x1]) (n := 2) (Nat.le_of_ble_eq_true rfl)
  refine W.eq (hargs ▸ lg_entry_eq m [.ref (a 0), .int x1] 2) ?_
  generalize (lg_sl ([.ref (a 0), .int x1]) ++ List.replicate (2 - (lg_sl ([.ref (a 0), .int x1])).length) Slot.unset).toArray = ls at hl ⊢
  have hl : lv_has ls 2 [(0, .ref (a 0)), (1, .int x1)] := hl
  obtain ⟨QQ, hQ⟩ : ∃ QQ : State → Prop, QQ = MQ below (Qp (.int res)) args s 0 0 (fun _ => False) := ⟨_, rfl⟩
  rw [← hQ]
  unfold fX5_free at hf
  refine lv_aload_n hx hb dX5_free_0 rfl (lv_at hl 0 rfl) ?_
  refine lv_iload_n hx hb dX5_free_1 rfl (lv_at hl 1 rfl) ?_
  obtain ⟨r1, hc2, hf⟩ := bind_s hf
  refine cpV (v := .int r1) ⟨hx, hb, hml, hown, hts⟩ (ct_X5_isUnit l dC dI a b cI cJ cZ st x1 r1 hc2) (cwV 1 hts gX5_free_X5_isUnit rfl rfl rfl (by decide +kernel) ⟨(Nat.le_of_ble_eq_true rfl), (Nat.le_of_ble_eq_true rfl)⟩) hK hP [0, 1, 2, 3, 4, 5, 6, 7, 8, 9, 10, 11, 12, 13, 14, 15, 16, 17, 18, 19, 20, 21, 22, 23, 24, 25, 26, 27] rfl rfl rfl rfl hl.1 rfl (Nat.le_of_ble_eq_true rfl) (Nat.le_of_ble_eq_true rfl) (Nat.le_of_ble_eq_true rfl) dX5_free_2 ?_
  refine lv_if_eq (tgt := 19) hx hb dX5_free_5 (by decide) (fun c3 => ?_) (fun c3 => ?_)
  · replace hf := it_p c3 hf
    refine lv_iconst (v := (-1 : Int32)) hx hb dX5_free_19 (by decide) ?_
    obtain rfl := Option.some.inj hf
    rw [hQ]
    exact W.iret hx hb hr (fun t ht hW => ⟨rfl, ht⟩) (fun q hq => absurd hq List.not_mem_nil) dX5_free_20
  · replace hf := it_n c3 hf
    refine lv_aload_n hx hb dX5_free_8 rfl (lv_at hl 0 rfl) ?_
    refine va_get (D := (dC, dI)) (ci := 5) (v := .ref (a 24)) (C := RX5) (T := TX5) (N := 5) hx hb hts kX5_free_X5 hown hK hP 0 rfl rfl 3 (by decide) (hts _ mX5_free_1) (fun _ h9 => h9) rfl dX5_free_9 ?_
    refine lv_iload_n hx hb dX5_free_12 rfl (lv_at hl 1 rfl) ?_
    obtain ⟨r4, hc5, hf⟩ := bind_s hf
    refine cpV (v := .int r4) ⟨hx, hb, hml, hown, hts⟩ (ct_X3_unusedOf l dC dI a b cI cJ cZ (LG_S st) x1 r4 hc5) (cwV 1 hts gX5_free_X3_unusedOf rfl rfl rfl (by decide +kernel) ⟨(Nat.le_of_ble_eq_true rfl), (Nat.le_of_ble_eq_true rfl)⟩) hK hP [24, 25, 26, 27] rfl rfl rfl rfl hl.1 rfl (Nat.le_of_ble_eq_true rfl) (Nat.le_of_ble_eq_true rfl) (Nat.le_of_ble_eq_true rfl) dX5_free_13 ?_
    refine lv_goto (tgt := 20) hx hb dX5_free_16 (by decide) ?_
    obtain rfl := Option.some.inj hf
    rw [hQ]
    exact W.iret hx hb hr (fun t ht hW => ⟨rfl, ht⟩) (fun q hq => absurd hq List.not_mem_nil) dX5_free_20
def rX5_runs : Room := { frames := 0, cells := 0, slots := 0, locals := 0 }
theorem kX5_runs_X5 : ∀ w ∈ wsX50, w ∈ wsX5_runs := fun w h => (List.mem_cons_of_mem _ (List.mem_append_left _ (List.mem_append_right _ h)))
theorem mX5_runs_1 : Cond.fieldLink RX5 33 "SmokeLedger" "serials" "LSmokeLedger$Serials;" ∈ wsX5_runs := List.mem_of_getElem? (i := 1) rfl
theorem kX5_runs_X3 : ∀ w ∈ wsX30, w ∈ wsX5_runs := fun w h => (List.mem_cons_of_mem _ (List.mem_append_right _ h))
theorem mX5_runs_2 : Cond.fieldLink RX5 186 "SmokeLedger$Serials" "size" "I" ∈ wsX5_runs := List.mem_of_getElem? (i := 2) rfl
set_option maxHeartbeats 4000000 in
set_option maxRecDepth 100000 in
theorem ct_X5_runs (l : Launch) (dC : Nat → ClassId) (dI : Nat → Nat → Nat) (a b : Nat → Nat) (cI cJ cZ : ClassId) (st : LG) (res : Int32) (hf : fX5_runs st = some res) : Met l yX5_runs wsX5_runs rX5_runs (Pp (dC, dI) (tyT cI cJ cZ) (WX5 a b cI cJ cZ st) [.ref (a 0)]) (Qp (.int res)) 0 0 (fun _ => False) := by
  refine Met.ofW (cc := cX5_runs) (maxL := 1) (ret := (some .int)) (by decide) rfl ?_
  intro p e s m args below meth c s₁ B hml hv
  obtain ⟨hargs, hP, hK⟩ := hv
  have hx := B.exec
  have hb := B.bytes
  have hr := B.returns
  have hts := atoms_spec (ws := wsX5_runs) B.pre
  have hown : s.vm.findClass RX5 = some m.cls := findClass_of_methodNamed B.named
  have hlocks := B.notSynchronized
  have hP : va_P (dC, dI) vwCl (WX5 a b cI cJ cZ st) s.heap := hP
  have hl := lv_entry ([.ref (a 0)]) (n := 1) (Nat.le_of_ble_eq_true rfl)
  refine W.eq (hargs ▸ lg_entry_eq m [.ref (a 0)] 1) ?_
  generalize (lg_sl ([.ref (a 0)]) ++ List.replicate (1 - (lg_sl ([.ref (a 0)])).length) Slot.unset).toArray = ls at hl ⊢
  have hl : lv_has ls 1 [(0, .ref (a 0))] := hl
  obtain ⟨QQ, hQ⟩ : ∃ QQ : State → Prop, QQ = MQ below (Qp (.int res)) args s 0 0 (fun _ => False) := ⟨_, rfl⟩
  rw [← hQ]
  unfold fX5_runs at hf
  refine lv_aload_n hx hb dX5_runs_0 rfl (lv_at hl 0 rfl) ?_
  refine va_get (D := (dC, dI)) (ci := 5) (v := .ref (a 24)) (C := RX5) (T := TX5) (N := 5) hx hb hts kX5_runs_X5 hown hK hP 0 rfl rfl 3 (by decide) (hts _ mX5_runs_1) (fun _ h9 => h9) rfl dX5_runs_1 ?_
  refine va_get (D := (dC, dI)) (ci := 3) (v := .int (SS_size (LG_S st))) (C := RX3) (T := TX3) (N := 5) hx hb hts kX5_runs_X3 hown hK hP 24 rfl rfl 3 (by decide) (hts _ mX5_runs_2) (fun _ h9 => h9) rfl dX5_runs_4 ?_
  obtain rfl := Option.some.inj hf
  rw [hQ]
  exact W.iret hx hb hr (fun t ht hW => ⟨rfl, ht⟩) (fun q hq => absurd hq List.not_mem_nil) dX5_runs_7
def rX5_run : Room := { frames := 2, cells := 0, slots := 0, locals := 42 }
theorem kX5_run_X5 : ∀ w ∈ wsX50, w ∈ wsX5_run := fun w h => (List.mem_cons_of_mem _ (List.mem_append_left _ (List.mem_append_right _ h)))
theorem mX5_run_1 : Cond.fieldLink RX5 33 "SmokeLedger" "serials" "LSmokeLedger$Serials;" ∈ wsX5_run := List.mem_of_getElem? (i := 1) rfl
theorem kX5_run_X3 : ∀ w ∈ wsX30, w ∈ wsX5_run := fun w h => (List.mem_cons_of_mem _ (List.mem_append_right _ h))
theorem mX5_run_2 : Cond.fieldLink RX5 186 "SmokeLedger$Serials" "size" "I" ∈ wsX5_run := List.mem_of_getElem? (i := 2) rfl
theorem mX5_run_3 : Cond.fieldLink RX5 187 "SmokeLedger$Serials" "first" "[I" ∈ wsX5_run := List.mem_of_getElem? (i := 3) rfl
theorem mX5_run_4 : Cond.fieldLink RX5 174 "SmokeLedger$Serials" "owner" "[I" ∈ wsX5_run := List.mem_of_getElem? (i := 4) rfl
theorem mX5_run_5 : Cond.fieldLink RX5 180 "SmokeLedger$Serials" "row" "[I" ∈ wsX5_run := List.mem_of_getElem? (i := 5) rfl
set_option maxHeartbeats 4000000 in
set_option maxRecDepth 100000 in
theorem ct_X5_run (l : Launch) (dC : Nat → ClassId) (dI : Nat → Nat → Nat) (a b : Nat → Nat) (cI cJ cZ : ClassId) (st : LG) (x1 : Int32) (x2 : Int32) (res : Int32) (hf : fX5_run st x1 x2 = some res) : Met l yX5_run wsX5_run rX5_run (Pp (dC, dI) (tyT cI cJ cZ) (WX5 a b cI cJ cZ st) [.ref (a 0), .int x1, .int x2]) (Qp (.int res)) 0 0 (fun _ => False) := by
  refine Met.ofW (cc := cX5_run) (maxL := 3) (ret := (some .int)) (by decide) rfl ?_
  intro p e s m args below meth c s₁ B hml hv
  obtain ⟨hargs, hP, hK⟩ := hv
  have hx := B.exec
  have hb := B.bytes
  have hr := B.returns
  have hts := atoms_spec (ws := wsX5_run) B.pre
  have hown : s.vm.findClass RX5 = some m.cls := findClass_of_methodNamed B.named
  have hlocks := B.notSynchronized
  have hP : va_P (dC, dI) vwCl (WX5 a b cI cJ cZ st) s.heap := hP
  have hl := lv_entry ([.ref (a 0), .int x1, .int x2]) (n := 3) (Nat.le_of_ble_eq_true rfl)
  refine W.eq (hargs ▸ lg_entry_eq m [.ref (a 0), .int x1, .int x2] 3) ?_
  generalize (lg_sl ([.ref (a 0), .int x1, .int x2]) ++ List.replicate (3 - (lg_sl ([.ref (a 0), .int x1, .int x2])).length) Slot.unset).toArray = ls at hl ⊢
  have hl : lv_has ls 3 [(0, .ref (a 0)), (1, .int x1), (2, .int x2)] := hl
  obtain ⟨QQ, hQ⟩ : ∃ QQ : State → Prop, QQ = MQ below (Qp (.int res)) args s 0 0 (fun _ => False) := ⟨_, rfl⟩
  rw [← hQ]
  unfold fX5_run at hf
  refine lv_iload_n hx hb dX5_run_0 rfl (lv_at hl 1 rfl) ?_
  refine lv_if_lt (tgt := 15) hx hb dX5_run_1 (by decide) (fun c1 => ?_) (fun c1 => ?_)
  · replace hf := it_p c1 hf
    refine lv_iconst (v := (-1 : Int32)) hx hb dX5_run_15 (by decide) ?_
    obtain rfl := Option.some.inj hf
    rw [hQ]
    exact W.iret hx hb hr (fun t ht hW => ⟨rfl, ht⟩) (fun q hq => absurd hq List.not_mem_nil) dX5_run_16
  · replace hf := it_n c1 hf
    refine lv_iload_n hx hb dX5_run_4 rfl (lv_at hl 1 rfl) ?_
    refine lv_aload_n hx hb dX5_run_5 rfl (lv_at hl 0 rfl) ?_
    refine va_get (D := (dC, dI)) (ci := 5) (v := .ref (a 24)) (C := RX5) (T := TX5) (N := 5) hx hb hts kX5_run_X5 hown hK hP 0 rfl rfl 3 (by decide) (hts _ mX5_run_1) (fun _ h9 => h9) rfl dX5_run_6 ?_
    refine va_get (D := (dC, dI)) (ci := 3) (v := .int (SS_size (LG_S st))) (C := RX3) (T := TX3) (N := 5) hx hb hts kX5_run_X3 hown hK hP 24 rfl rfl 3 (by decide) (hts _ mX5_run_2) (fun _ h9 => h9) rfl dX5_run_9 ?_
    refine lv_icmp_lt (tgt := 17) hx hb dX5_run_12 (by decide) (fun c2 => ?_) (fun c2 => ?_)
    · replace hf := it_p c2 hf
      refine lv_iload_n hx hb dX5_run_17 rfl (lv_at hl 2 rfl) ?_
      by_cases c4 : x2 = 0
      · replace hf := it_p c4 hf
        refine lv_tableIn (off := 30) (tgt := 48) hx hb dX5_run_18 (by rw [c4]; decide) (by rw [c4]; decide) (by rw [c4]; rfl) (by decide) ?_
        refine lv_aload_n hx hb dX5_run_48 rfl (lv_at hl 0 rfl) ?_
        refine va_get (D := (dC, dI)) (ci := 5) (v := .ref (a 24)) (C := RX5) (T := TX5) (N := 5) hx hb hts kX5_run_X5 hown hK hP 0 rfl rfl 3 (by decide) (hts _ mX5_run_1) (fun _ h9 => h9) rfl dX5_run_49 ?_
        refine va_get (D := (dC, dI)) (ci := 3) (v := .ref (b 0)) (C := RX3) (T := TX3) (N := 5) hx hb hts kX5_run_X3 hown hK hP 24 rfl rfl 0 (by decide) (hts _ mX5_run_3) (fun _ h9 => h9) rfl dX5_run_52 ?_
        refine lv_iload_n hx hb dX5_run_55 rfl (lv_at hl 1 rfl) ?_
        obtain ⟨hi3, hf⟩ := it_s hf
        refine va_iald hx hb hK hP 25 0 rfl rfl (inb_in hi3) dX5_run_56 ?_
        obtain rfl := Option.some.inj hf
        rw [hQ]
        exact W.iret hx hb hr (fun t ht hW => ⟨rfl, ht⟩) (fun q hq => absurd hq List.not_mem_nil) dX5_run_57
      · replace hf := it_n c4 hf
        by_cases c7 : x2 = 1
        · replace hf := it_p c7 hf
          refine lv_tableIn (off := 40) (tgt := 58) hx hb dX5_run_18 (by rw [c7]; decide) (by rw [c7]; decide) (by rw [c7]; rfl) (by decide) ?_
          refine lv_aload_n hx hb dX5_run_58 rfl (lv_at hl 0 rfl) ?_
          refine va_get (D := (dC, dI)) (ci := 5) (v := .ref (a 24)) (C := RX5) (T := TX5) (N := 5) hx hb hts kX5_run_X5 hown hK hP 0 rfl rfl 3 (by decide) (hts _ mX5_run_1) (fun _ h9 => h9) rfl dX5_run_59 ?_
          refine lv_iload_n hx hb dX5_run_62 rfl (lv_at hl 1 rfl) ?_
          obtain ⟨r5, hc6, hf⟩ := bind_s hf
          refine cpV (v := .int r5) ⟨hx, hb, hml, hown, hts⟩ (ct_X3_lengthOf l dC dI a b cI cJ cZ (LG_S st) x1 r5 hc6) (cwV 1 hts gX5_run_X3_lengthOf rfl rfl rfl (by decide +kernel) ⟨(Nat.le_of_ble_eq_true rfl), (Nat.le_of_ble_eq_true rfl)⟩) hK hP [24, 25, 26, 27] rfl rfl rfl rfl hl.1 rfl (Nat.le_of_ble_eq_true rfl) (Nat.le_of_ble_eq_true rfl) (Nat.le_of_ble_eq_true rfl) dX5_run_63 ?_
          obtain rfl := Option.some.inj hf
          rw [hQ]
          exact W.iret hx hb hr (fun t ht hW => ⟨rfl, ht⟩) (fun q hq => absurd hq List.not_mem_nil) dX5_run_66
        · replace hf := it_n c7 hf
          by_cases c9 : x2 = 2
          · replace hf := it_p c9 hf
            refine lv_tableIn (off := 49) (tgt := 67) hx hb dX5_run_18 (by rw [c9]; decide) (by rw [c9]; decide) (by rw [c9]; rfl) (by decide) ?_
            refine lv_aload_n hx hb dX5_run_67 rfl (lv_at hl 0 rfl) ?_
            refine va_get (D := (dC, dI)) (ci := 5) (v := .ref (a 24)) (C := RX5) (T := TX5) (N := 5) hx hb hts kX5_run_X5 hown hK hP 0 rfl rfl 3 (by decide) (hts _ mX5_run_1) (fun _ h9 => h9) rfl dX5_run_68 ?_
            refine va_get (D := (dC, dI)) (ci := 3) (v := .ref (b 1)) (C := RX3) (T := TX3) (N := 5) hx hb hts kX5_run_X3 hown hK hP 24 rfl rfl 1 (by decide) (hts _ mX5_run_4) (fun _ h9 => h9) rfl dX5_run_71 ?_
            refine lv_iload_n hx hb dX5_run_74 rfl (lv_at hl 1 rfl) ?_
            obtain ⟨hi8, hf⟩ := it_s hf
            refine va_iald hx hb hK hP 26 0 rfl rfl (inb_in hi8) dX5_run_75 ?_
            obtain rfl := Option.some.inj hf
            rw [hQ]
            exact W.iret hx hb hr (fun t ht hW => ⟨rfl, ht⟩) (fun q hq => absurd hq List.not_mem_nil) dX5_run_76
          · replace hf := it_n c9 hf
            by_cases c11 : x2 = 3
            · replace hf := it_p c11 hf
              refine lv_tableIn (off := 59) (tgt := 77) hx hb dX5_run_18 (by rw [c11]; decide) (by rw [c11]; decide) (by rw [c11]; rfl) (by decide) ?_
              refine lv_aload_n hx hb dX5_run_77 rfl (lv_at hl 0 rfl) ?_
              refine va_get (D := (dC, dI)) (ci := 5) (v := .ref (a 24)) (C := RX5) (T := TX5) (N := 5) hx hb hts kX5_run_X5 hown hK hP 0 rfl rfl 3 (by decide) (hts _ mX5_run_1) (fun _ h9 => h9) rfl dX5_run_78 ?_
              refine va_get (D := (dC, dI)) (ci := 3) (v := .ref (b 2)) (C := RX3) (T := TX3) (N := 5) hx hb hts kX5_run_X3 hown hK hP 24 rfl rfl 2 (by decide) (hts _ mX5_run_5) (fun _ h9 => h9) rfl dX5_run_81 ?_
              refine lv_iload_n hx hb dX5_run_84 rfl (lv_at hl 1 rfl) ?_
              obtain ⟨hi10, hf⟩ := it_s hf
              refine va_iald hx hb hK hP 27 0 rfl rfl (inb_in hi10) dX5_run_85 ?_
              obtain rfl := Option.some.inj hf
              rw [hQ]
              exact W.iret hx hb hr (fun t ht hW => ⟨rfl, ht⟩) (fun q hq => absurd hq List.not_mem_nil) dX5_run_86
            · replace hf := it_n c11 hf
              refine lv_tableOut (tgt := 87) hx hb dX5_run_18 (by have := lv_neT (a := 0) c4 rfl; have := lv_neT (a := 1) c7 rfl; have := lv_neT (a := 2) c9 rfl; have := lv_neT (a := 3) c11 rfl; omega) (by decide) ?_
              refine lv_bipush (v := (-2 : Int32)) hx hb dX5_run_87 (by decide) ?_
              obtain rfl := Option.some.inj hf
              rw [hQ]
              exact W.iret hx hb hr (fun t ht hW => ⟨rfl, ht⟩) (fun q hq => absurd hq List.not_mem_nil) dX5_run_89
    · replace hf := it_n c2 hf
      refine lv_iconst (v := (-1 : Int32)) hx hb dX5_run_15 (by decide) ?_
      obtain rfl := Option.some.inj hf
      rw [hQ]
      exact W.iret hx hb hr (fun t ht hW => ⟨rfl, ht⟩) (fun q hq => absurd hq List.not_mem_nil) dX5_run_16
def rX5_count : Room := { frames := 0, cells := 0, slots := 0, locals := 0 }
theorem kX5_count_X5 : ∀ w ∈ wsX50, w ∈ wsX5_count := fun w h => (List.mem_cons_of_mem _ (List.mem_append_left _ (List.mem_append_left _ (List.mem_append_left _ (List.mem_append_left _ (List.mem_append_right _ h))))))
theorem mX5_count_1 : Cond.fieldLink RX5 37 "SmokeLedger" "units" "I" ∈ wsX5_count := List.mem_of_getElem? (i := 1) rfl
theorem mX5_count_2 : Cond.fieldLink RX5 19 "SmokeLedger" "rows" "LSmokeLedger$Rows;" ∈ wsX5_count := List.mem_of_getElem? (i := 2) rfl
theorem kX5_count_X2 : ∀ w ∈ wsX20, w ∈ wsX5_count := fun w h => (List.mem_cons_of_mem _ (List.mem_append_left _ (List.mem_append_left _ (List.mem_append_left _ (List.mem_append_right _ h)))))
theorem mX5_count_3 : Cond.fieldLink RX5 132 "SmokeLedger$Rows" "size" "I" ∈ wsX5_count := List.mem_of_getElem? (i := 3) rfl
theorem mX5_count_4 : Cond.fieldLink RX5 26 "SmokeLedger" "factors" "LSmokeLedger$Factors;" ∈ wsX5_count := List.mem_of_getElem? (i := 4) rfl
theorem kX5_count_X0 : ∀ w ∈ wsX00, w ∈ wsX5_count := fun w h => (List.mem_cons_of_mem _ (List.mem_append_left _ (List.mem_append_left _ (List.mem_append_right _ h))))
theorem mX5_count_5 : Cond.fieldLink RX5 193 "SmokeLedger$Factors" "size" "I" ∈ wsX5_count := List.mem_of_getElem? (i := 5) rfl
theorem mX5_count_6 : Cond.fieldLink RX5 33 "SmokeLedger" "serials" "LSmokeLedger$Serials;" ∈ wsX5_count := List.mem_of_getElem? (i := 6) rfl
theorem kX5_count_X3 : ∀ w ∈ wsX30, w ∈ wsX5_count := fun w h => (List.mem_cons_of_mem _ (List.mem_append_left _ (List.mem_append_right _ h)))
theorem mX5_count_7 : Cond.fieldLink RX5 194 "SmokeLedger$Serials" "issued" "I" ∈ wsX5_count := List.mem_of_getElem? (i := 7) rfl
theorem mX5_count_8 : Cond.fieldLink RX5 10 "SmokeLedger" "holdings" "LSmokeLedger$Holdings;" ∈ wsX5_count := List.mem_of_getElem? (i := 8) rfl
theorem kX5_count_X1 : ∀ w ∈ wsX10, w ∈ wsX5_count := fun w h => (List.mem_cons_of_mem _ (List.mem_append_right _ h))
theorem mX5_count_9 : Cond.fieldLink RX5 197 "SmokeLedger$Holdings" "size" "I" ∈ wsX5_count := List.mem_of_getElem? (i := 9) rfl
set_option maxHeartbeats 4000000 in
set_option maxRecDepth 100000 in
theorem ct_X5_count (l : Launch) (dC : Nat → ClassId) (dI : Nat → Nat → Nat) (a b : Nat → Nat) (cI cJ cZ : ClassId) (st : LG) (x1 : Int32) (res : Int32) (hf : fX5_count st x1 = some res) : Met l yX5_count wsX5_count rX5_count (Pp (dC, dI) (tyT cI cJ cZ) (WX5 a b cI cJ cZ st) [.ref (a 0), .int x1]) (Qp (.int res)) 0 0 (fun _ => False) := by
  refine Met.ofW (cc := cX5_count) (maxL := 2) (ret := (some .int)) (by decide) rfl ?_
  intro p e s m args below meth c s₁ B hml hv
  obtain ⟨hargs, hP, hK⟩ := hv
  have hx := B.exec
  have hb := B.bytes
  have hr := B.returns
  have hts := atoms_spec (ws := wsX5_count) B.pre
  have hown : s.vm.findClass RX5 = some m.cls := findClass_of_methodNamed B.named
  have hlocks := B.notSynchronized
  have hP : va_P (dC, dI) vwCl (WX5 a b cI cJ cZ st) s.heap := hP
  have hl := lv_entry ([.ref (a 0), .int x1]) (n := 2) (Nat.le_of_ble_eq_true rfl)
  refine W.eq (hargs ▸ lg_entry_eq m [.ref (a 0), .int x1] 2) ?_
  generalize (lg_sl ([.ref (a 0), .int x1]) ++ List.replicate (2 - (lg_sl ([.ref (a 0), .int x1])).length) Slot.unset).toArray = ls at hl ⊢
  have hl : lv_has ls 2 [(0, .ref (a 0)), (1, .int x1)] := hl
  obtain ⟨QQ, hQ⟩ : ∃ QQ : State → Prop, QQ = MQ below (Qp (.int res)) args s 0 0 (fun _ => False) := ⟨_, rfl⟩
  rw [← hQ]
  unfold fX5_count at hf
  refine lv_iload_n hx hb dX5_count_0 rfl (lv_at hl 1 rfl) ?_
  by_cases c1 : x1 = 0
  · replace hf := it_p c1 hf
    refine lv_tableIn (off := 35) (tgt := 36) hx hb dX5_count_1 (by rw [c1]; decide) (by rw [c1]; decide) (by rw [c1]; rfl) (by decide) ?_
    refine lv_aload_n hx hb dX5_count_36 rfl (lv_at hl 0 rfl) ?_
    refine va_get (D := (dC, dI)) (ci := 5) (v := .int (LG_units st)) (C := RX5) (T := TX5) (N := 5) hx hb hts kX5_count_X5 hown hK hP 0 rfl rfl 4 (by decide) (hts _ mX5_count_1) (fun _ h9 => h9) rfl dX5_count_37 ?_
    obtain rfl := Option.some.inj hf
    rw [hQ]
    exact W.iret hx hb hr (fun t ht hW => ⟨rfl, ht⟩) (fun q hq => absurd hq List.not_mem_nil) dX5_count_40
  · replace hf := it_n c1 hf
    by_cases c2 : x1 = 1
    · replace hf := it_p c2 hf
      refine lv_tableIn (off := 40) (tgt := 41) hx hb dX5_count_1 (by rw [c2]; decide) (by rw [c2]; decide) (by rw [c2]; rfl) (by decide) ?_
      refine lv_aload_n hx hb dX5_count_41 rfl (lv_at hl 0 rfl) ?_
      refine va_get (D := (dC, dI)) (ci := 5) (v := .ref (a 12)) (C := RX5) (T := TX5) (N := 5) hx hb hts kX5_count_X5 hown hK hP 0 rfl rfl 1 (by decide) (hts _ mX5_count_2) (fun _ h9 => h9) rfl dX5_count_42 ?_
      refine va_get (D := (dC, dI)) (ci := 2) (v := .int (RS_size (LG_R st))) (C := RX2) (T := TX2) (N := 7) hx hb hts kX5_count_X2 hown hK hP 12 rfl rfl 6 (by decide) (hts _ mX5_count_3) (fun _ h9 => h9) rfl dX5_count_45 ?_
      obtain rfl := Option.some.inj hf
      rw [hQ]
      exact W.iret hx hb hr (fun t ht hW => ⟨rfl, ht⟩) (fun q hq => absurd hq List.not_mem_nil) dX5_count_48
    · replace hf := it_n c2 hf
      by_cases c3 : x1 = 2
      · replace hf := it_p c3 hf
        refine lv_tableIn (off := 48) (tgt := 49) hx hb dX5_count_1 (by rw [c3]; decide) (by rw [c3]; decide) (by rw [c3]; rfl) (by decide) ?_
        refine lv_aload_n hx hb dX5_count_49 rfl (lv_at hl 0 rfl) ?_
        refine va_get (D := (dC, dI)) (ci := 5) (v := .ref (a 19)) (C := RX5) (T := TX5) (N := 5) hx hb hts kX5_count_X5 hown hK hP 0 rfl rfl 2 (by decide) (hts _ mX5_count_4) (fun _ h9 => h9) rfl dX5_count_50 ?_
        refine va_get (D := (dC, dI)) (ci := 0) (v := .int (FS_size (LG_F st))) (C := RX0) (T := TX0) (N := 5) hx hb hts kX5_count_X0 hown hK hP 19 rfl rfl 4 (by decide) (hts _ mX5_count_5) (fun _ h9 => h9) rfl dX5_count_53 ?_
        obtain rfl := Option.some.inj hf
        rw [hQ]
        exact W.iret hx hb hr (fun t ht hW => ⟨rfl, ht⟩) (fun q hq => absurd hq List.not_mem_nil) dX5_count_56
      · replace hf := it_n c3 hf
        by_cases c4 : x1 = 3
        · replace hf := it_p c4 hf
          refine lv_tableIn (off := 56) (tgt := 57) hx hb dX5_count_1 (by rw [c4]; decide) (by rw [c4]; decide) (by rw [c4]; rfl) (by decide) ?_
          refine lv_aload_n hx hb dX5_count_57 rfl (lv_at hl 0 rfl) ?_
          refine va_get (D := (dC, dI)) (ci := 5) (v := .ref (a 24)) (C := RX5) (T := TX5) (N := 5) hx hb hts kX5_count_X5 hown hK hP 0 rfl rfl 3 (by decide) (hts _ mX5_count_6) (fun _ h9 => h9) rfl dX5_count_58 ?_
          refine va_get (D := (dC, dI)) (ci := 3) (v := .int (SS_issued (LG_S st))) (C := RX3) (T := TX3) (N := 5) hx hb hts kX5_count_X3 hown hK hP 24 rfl rfl 4 (by decide) (hts _ mX5_count_7) (fun _ h9 => h9) rfl dX5_count_61 ?_
          obtain rfl := Option.some.inj hf
          rw [hQ]
          exact W.iret hx hb hr (fun t ht hW => ⟨rfl, ht⟩) (fun q hq => absurd hq List.not_mem_nil) dX5_count_64
        · replace hf := it_n c4 hf
          by_cases c5 : x1 = 4
          · replace hf := it_p c5 hf
            refine lv_tableIn (off := 64) (tgt := 65) hx hb dX5_count_1 (by rw [c5]; decide) (by rw [c5]; decide) (by rw [c5]; rfl) (by decide) ?_
            refine lv_aload_n hx hb dX5_count_65 rfl (lv_at hl 0 rfl) ?_
            refine va_get (D := (dC, dI)) (ci := 5) (v := .ref (a 1)) (C := RX5) (T := TX5) (N := 5) hx hb hts kX5_count_X5 hown hK hP 0 rfl rfl 0 (by decide) (hts _ mX5_count_8) (fun _ h9 => h9) rfl dX5_count_66 ?_
            refine va_get (D := (dC, dI)) (ci := 1) (v := .int (HS_size (LG_H st))) (C := RX1) (T := TX1) (N := 11) hx hb hts kX5_count_X1 hown hK hP 1 rfl rfl 4 (by decide) (hts _ mX5_count_9) (fun _ h9 => h9) rfl dX5_count_69 ?_
            obtain rfl := Option.some.inj hf
            rw [hQ]
            exact W.iret hx hb hr (fun t ht hW => ⟨rfl, ht⟩) (fun q hq => absurd hq List.not_mem_nil) dX5_count_72
          · replace hf := it_n c5 hf
            refine lv_tableOut (tgt := 73) hx hb dX5_count_1 (by have := lv_neT (a := 0) c1 rfl; have := lv_neT (a := 1) c2 rfl; have := lv_neT (a := 2) c3 rfl; have := lv_neT (a := 3) c4 rfl; have := lv_neT (a := 4) c5 rfl; omega) (by decide) ?_
            refine lv_bipush (v := (-2 : Int32)) hx hb dX5_count_73 (by decide) ?_
            obtain rfl := Option.some.inj hf
            rw [hQ]
            exact W.iret hx hb hr (fun t ht hW => ⟨rfl, ht⟩) (fun q hq => absurd hq List.not_mem_nil) dX5_count_75
