def rX6_in : Room := { frames := 0, cells := 0, slots := 0, locals := 0 }
set_option maxHeartbeats 4000000 in
set_option maxRecDepth 100000 in
theorem ct_X6_in (l : Launch) (dC : Nat → ClassId) (dI : Nat → Nat → Nat) (cI cJ cZ : ClassId) (x0 : Int64) (x2 : Int64) (x4 : Int64) (res : Int32) (hf : fX6_in x0 x2 x4 = some res) : Met l yX6_in wsX6_in rX6_in (Pp (dC, dI) (tyT cI cJ cZ) [] [.long x0, .long x2, .long x4]) (Qp (.int res)) 0 0 (fun _ => False) := by
  refine Met.ofW (cc := cX6_in) (maxL := 6) (ret := (some .boolean)) (by decide) rfl ?_
  intro p e s m args below meth c s₁ B hml hv
  obtain ⟨hargs, hP, hK⟩ := hv
  have hx := B.exec
  have hb := B.bytes
  have hr := B.returns
  have hts := atoms_spec (ws := wsX6_in) B.pre
  have hown : s.vm.findClass RX6 = some m.cls := findClass_of_methodNamed B.named
  have hlocks := B.notSynchronized
  have hP : va_P (dC, dI) vwCl [] s.heap := hP
  have hl := lv_entry ([.long x0, .long x2, .long x4]) (n := 6) (Nat.le_of_ble_eq_true rfl)
  refine W.eq (hargs ▸ lg_entry_eq m [.long x0, .long x2, .long x4] 6) ?_
  generalize (lg_sl ([.long x0, .long x2, .long x4]) ++ List.replicate (6 - (lg_sl ([.long x0, .long x2, .long x4])).length) Slot.unset).toArray = ls at hl ⊢
  have hl : lv_has ls 6 [(0, .long x0), (2, .long x2), (4, .long x4)] := hl
  obtain ⟨QQ, hQ⟩ : ∃ QQ : State → Prop, QQ = MQ below (Qp (.int res)) args s 0 0 (fun _ => False) := ⟨_, rfl⟩
  rw [← hQ]
  unfold fX6_in at hf
  refine lv_lload_n hx hb dX6_in_0 rfl (lv_at hl 0 rfl) ?_
  refine lv_lload_n hx hb dX6_in_1 rfl (lv_at hl 1 rfl) ?_
  refine W.lcmp hx hb dX6_in_2 ?_
  refine lv_if_lt (tgt := 17) hx hb dX6_in_3 (by decide) (fun c1 => ?_) (fun c1 => ?_)
  · replace hf := it_p c1 hf
    refine lv_iconst (v := (0 : Int32)) hx hb dX6_in_17 (by decide) ?_
    obtain rfl := Option.some.inj hf
    rw [hQ]
    exact W.zret hx hb hr rfl (fun t ht hW => ⟨rfl, ht⟩) (fun q hq => absurd hq List.not_mem_nil) dX6_in_18
  · replace hf := it_n c1 hf
    refine lv_lload_n hx hb dX6_in_6 rfl (lv_at hl 0 rfl) ?_
    refine lv_lload hx hb dX6_in_7 (lv_at hl 2 rfl) ?_
    refine W.lcmp hx hb dX6_in_9 ?_
    refine lv_if_gt (tgt := 17) hx hb dX6_in_10 (by decide) (fun c2 => ?_) (fun c2 => ?_)
    · replace hf := it_p c2 hf
      refine lv_iconst (v := (0 : Int32)) hx hb dX6_in_17 (by decide) ?_
      obtain rfl := Option.some.inj hf
      rw [hQ]
      exact W.zret hx hb hr rfl (fun t ht hW => ⟨rfl, ht⟩) (fun q hq => absurd hq List.not_mem_nil) dX6_in_18
    · replace hf := it_n c2 hf
      refine lv_iconst (v := (1 : Int32)) hx hb dX6_in_13 (by decide) ?_
      refine lv_goto (tgt := 18) hx hb dX6_in_14 (by decide) ?_
      obtain rfl := Option.some.inj hf
      rw [hQ]
      exact W.zret hx hb hr rfl (fun t ht hW => ⟨rfl, ht⟩) (fun q hq => absurd hq List.not_mem_nil) dX6_in_18
def rX6_noUnit : Room := { frames := 1, cells := 0, slots := 0, locals := 25 }
theorem kX6_noUnit_X6 : ∀ w ∈ wsX60, w ∈ wsX6_noUnit := fun w h => (List.mem_cons_of_mem _ (List.mem_append_right _ h))
theorem mX6_noUnit_1 : Cond.fieldLink RX6 7 "SmokeLedgerModel" "units" "I" ∈ wsX6_noUnit := List.mem_of_getElem? (i := 1) rfl
set_option maxHeartbeats 4000000 in
set_option maxRecDepth 100000 in
theorem ct_X6_noUnit (l : Launch) (dC : Nat → ClassId) (dI : Nat → Nat → Nat) (a b : Nat → Nat) (cI cJ cZ : ClassId) (st : MS) (x1 : Int32) (res : Int32) (hf : fX6_noUnit st x1 = some res) : Met l yX6_noUnit wsX6_noUnit rX6_noUnit (Pp (dC, dI) (tyT cI cJ cZ) (WX6 a b cI cJ cZ st) [.ref (a 0), .int x1]) (Qp (.int res)) 0 0 (fun _ => False) := by
  refine Met.ofW (cc := cX6_noUnit) (maxL := 2) (ret := (some .boolean)) (by decide) rfl ?_
  intro p e s m args below meth c s₁ B hml hv
  obtain ⟨hargs, hP, hK⟩ := hv
  have hx := B.exec
  have hb := B.bytes
  have hr := B.returns
  have hts := atoms_spec (ws := wsX6_noUnit) B.pre
  have hown : s.vm.findClass RX6 = some m.cls := findClass_of_methodNamed B.named
  have hlocks := B.notSynchronized
  have hP : va_P (dC, dI) vwCl (WX6 a b cI cJ cZ st) s.heap := hP
  have hl := lv_entry ([.ref (a 0), .int x1]) (n := 2) (Nat.le_of_ble_eq_true rfl)
  refine W.eq (hargs ▸ lg_entry_eq m [.ref (a 0), .int x1] 2) ?_
  generalize (lg_sl ([.ref (a 0), .int x1]) ++ List.replicate (2 - (lg_sl ([.ref (a 0), .int x1])).length) Slot.unset).toArray = ls at hl ⊢
  have hl : lv_has ls 2 [(0, .ref (a 0)), (1, .int x1)] := hl
  obtain ⟨QQ, hQ⟩ : ∃ QQ : State → Prop, QQ = MQ below (Qp (.int res)) args s 0 0 (fun _ => False) := ⟨_, rfl⟩
  rw [← hQ]
  unfold fX6_noUnit at hf
  refine lv_iload_n hx hb dX6_noUnit_0 rfl (lv_at hl 1 rfl) ?_
  refine lv_i2l hx hb dX6_noUnit_1 rfl ?_
  refine lv_lconst (v := (0 : Int64)) hx hb dX6_noUnit_2 (by decide) ?_
  refine lv_aload_n hx hb dX6_noUnit_3 rfl (lv_at hl 0 rfl) ?_
  refine va_get (D := (dC, dI)) (ci := 6) (v := .int (MS_units st)) (C := RX6) (T := TX6) (N := 26) hx hb hts kX6_noUnit_X6 hown hK hP 0 rfl rfl 1 (by decide) (hts _ mX6_noUnit_1) (fun _ h9 => h9) rfl dX6_noUnit_4 ?_
  refine lv_iconst (v := (1 : Int32)) hx hb dX6_noUnit_7 (by decide) ?_
  refine lv_isub hx hb dX6_noUnit_8 ?_
  refine lv_i2l hx hb dX6_noUnit_9 rfl ?_
  obtain ⟨r1, hc2, hf⟩ := bind_s hf
  refine cpS (v := .int r1) ⟨hx, hb, hml, hown, hts⟩ (ct_X6_in l dC dI cI cJ cZ (Int32.toInt64 x1) (0 : Int64) (Int32.toInt64 ((MS_units st) - (1 : Int32))) r1 hc2) (va_cwS 3 hts gX6_noUnit_X6_in rfl rfl rfl (by decide +kernel) ⟨(Nat.le_of_ble_eq_true rfl), (Nat.le_of_ble_eq_true rfl)⟩) hK hP [] rfl rfl hl.1 rfl (Nat.le_of_ble_eq_true rfl) (Nat.le_of_ble_eq_true rfl) (Nat.le_of_ble_eq_true rfl) dX6_noUnit_10 ?_
  refine lv_if_ne (tgt := 20) hx hb dX6_noUnit_13 (by decide) (fun c3 => ?_) (fun c3 => ?_)
  · replace hf := it_n c3 hf
    refine lv_iconst (v := (0 : Int32)) hx hb dX6_noUnit_20 (by decide) ?_
    obtain rfl := Option.some.inj hf
    rw [hQ]
    exact W.zret hx hb hr rfl (fun t ht hW => ⟨rfl, ht⟩) (fun q hq => absurd hq List.not_mem_nil) dX6_noUnit_21
  · replace hf := it_p c3 hf
    refine lv_iconst (v := (1 : Int32)) hx hb dX6_noUnit_16 (by decide) ?_
    refine lv_goto (tgt := 21) hx hb dX6_noUnit_17 (by decide) ?_
    obtain rfl := Option.some.inj hf
    rw [hQ]
    exact W.zret hx hb hr rfl (fun t ht hW => ⟨rfl, ht⟩) (fun q hq => absurd hq List.not_mem_nil) dX6_noUnit_21
def rX6_noDay : Room := { frames := 1, cells := 0, slots := 0, locals := 25 }
theorem mX6_noDay_1 : Cond.constantLong RX6 83 (3649) ∈ wsX6_noDay := List.mem_of_getElem? (i := 1) rfl
set_option maxHeartbeats 4000000 in
set_option maxRecDepth 100000 in
theorem ct_X6_noDay (l : Launch) (dC : Nat → ClassId) (dI : Nat → Nat → Nat) (cI cJ cZ : ClassId) (x0 : Int32) (res : Int32) (hf : fX6_noDay x0 = some res) : Met l yX6_noDay wsX6_noDay rX6_noDay (Pp (dC, dI) (tyT cI cJ cZ) [] [.int x0]) (Qp (.int res)) 0 0 (fun _ => False) := by
  refine Met.ofW (cc := cX6_noDay) (maxL := 1) (ret := (some .boolean)) (by decide) rfl ?_
  intro p e s m args below meth c s₁ B hml hv
  obtain ⟨hargs, hP, hK⟩ := hv
  have hx := B.exec
  have hb := B.bytes
  have hr := B.returns
  have hts := atoms_spec (ws := wsX6_noDay) B.pre
  have hown : s.vm.findClass RX6 = some m.cls := findClass_of_methodNamed B.named
  have hlocks := B.notSynchronized
  have hP : va_P (dC, dI) vwCl [] s.heap := hP
  have hl := lv_entry ([.int x0]) (n := 1) (Nat.le_of_ble_eq_true rfl)
  refine W.eq (hargs ▸ lg_entry_eq m [.int x0] 1) ?_
  generalize (lg_sl ([.int x0]) ++ List.replicate (1 - (lg_sl ([.int x0])).length) Slot.unset).toArray = ls at hl ⊢
  have hl : lv_has ls 1 [(0, .int x0)] := hl
  obtain ⟨QQ, hQ⟩ : ∃ QQ : State → Prop, QQ = MQ below (Qp (.int res)) args s 0 0 (fun _ => False) := ⟨_, rfl⟩
  rw [← hQ]
  unfold fX6_noDay at hf
  refine lv_iload_n hx hb dX6_noDay_0 rfl (lv_at hl 0 rfl) ?_
  refine lv_i2l hx hb dX6_noDay_1 rfl ?_
  refine lv_lconst (v := (0 : Int64)) hx hb dX6_noDay_2 (by decide) ?_
  refine lv_ldc2 (v := (3649 : Int64)) hx hb hown (hts _ mX6_noDay_1) dX6_noDay_3 ?_
  obtain ⟨r1, hc2, hf⟩ := bind_s hf
  refine cpS (v := .int r1) ⟨hx, hb, hml, hown, hts⟩ (ct_X6_in l dC dI cI cJ cZ (Int32.toInt64 x0) (0 : Int64) (3649 : Int64) r1 hc2) (va_cwS 3 hts gX6_noDay_X6_in rfl rfl rfl (by decide +kernel) ⟨(Nat.le_of_ble_eq_true rfl), (Nat.le_of_ble_eq_true rfl)⟩) hK hP [] rfl rfl hl.1 rfl (Nat.le_of_ble_eq_true rfl) (Nat.le_of_ble_eq_true rfl) (Nat.le_of_ble_eq_true rfl) dX6_noDay_6 ?_
  refine lv_if_ne (tgt := 16) hx hb dX6_noDay_9 (by decide) (fun c3 => ?_) (fun c3 => ?_)
  · replace hf := it_n c3 hf
    refine lv_iconst (v := (0 : Int32)) hx hb dX6_noDay_16 (by decide) ?_
    obtain rfl := Option.some.inj hf
    rw [hQ]
    exact W.zret hx hb hr rfl (fun t ht hW => ⟨rfl, ht⟩) (fun q hq => absurd hq List.not_mem_nil) dX6_noDay_17
  · replace hf := it_p c3 hf
    refine lv_iconst (v := (1 : Int32)) hx hb dX6_noDay_12 (by decide) ?_
    refine lv_goto (tgt := 17) hx hb dX6_noDay_13 (by decide) ?_
    obtain rfl := Option.some.inj hf
    rw [hQ]
    exact W.zret hx hb hr rfl (fun t ht hW => ⟨rfl, ht⟩) (fun q hq => absurd hq List.not_mem_nil) dX6_noDay_17
def rX6_noYear : Room := { frames := 1, cells := 0, slots := 0, locals := 25 }
theorem mX6_noYear_1 : Cond.constantLong RX6 85 (9) ∈ wsX6_noYear := List.mem_of_getElem? (i := 1) rfl
set_option maxHeartbeats 4000000 in
set_option maxRecDepth 100000 in
theorem ct_X6_noYear (l : Launch) (dC : Nat → ClassId) (dI : Nat → Nat → Nat) (cI cJ cZ : ClassId) (x0 : Int32) (res : Int32) (hf : fX6_noYear x0 = some res) : Met l yX6_noYear wsX6_noYear rX6_noYear (Pp (dC, dI) (tyT cI cJ cZ) [] [.int x0]) (Qp (.int res)) 0 0 (fun _ => False) := by
  refine Met.ofW (cc := cX6_noYear) (maxL := 1) (ret := (some .boolean)) (by decide) rfl ?_
  intro p e s m args below meth c s₁ B hml hv
  obtain ⟨hargs, hP, hK⟩ := hv
  have hx := B.exec
  have hb := B.bytes
  have hr := B.returns
  have hts := atoms_spec (ws := wsX6_noYear) B.pre
  have hown : s.vm.findClass RX6 = some m.cls := findClass_of_methodNamed B.named
  have hlocks := B.notSynchronized
  have hP : va_P (dC, dI) vwCl [] s.heap := hP
  have hl := lv_entry ([.int x0]) (n := 1) (Nat.le_of_ble_eq_true rfl)
  refine W.eq (hargs ▸ lg_entry_eq m [.int x0] 1) ?_
  generalize (lg_sl ([.int x0]) ++ List.replicate (1 - (lg_sl ([.int x0])).length) Slot.unset).toArray = ls at hl ⊢
  have hl : lv_has ls 1 [(0, .int x0)] := hl
  obtain ⟨QQ, hQ⟩ : ∃ QQ : State → Prop, QQ = MQ below (Qp (.int res)) args s 0 0 (fun _ => False) := ⟨_, rfl⟩
  rw [← hQ]
  unfold fX6_noYear at hf
  refine lv_iload_n hx hb dX6_noYear_0 rfl (lv_at hl 0 rfl) ?_
  refine lv_i2l hx hb dX6_noYear_1 rfl ?_
  refine lv_lconst (v := (0 : Int64)) hx hb dX6_noYear_2 (by decide) ?_
  refine lv_ldc2 (v := (9 : Int64)) hx hb hown (hts _ mX6_noYear_1) dX6_noYear_3 ?_
  obtain ⟨r1, hc2, hf⟩ := bind_s hf
  refine cpS (v := .int r1) ⟨hx, hb, hml, hown, hts⟩ (ct_X6_in l dC dI cI cJ cZ (Int32.toInt64 x0) (0 : Int64) (9 : Int64) r1 hc2) (va_cwS 3 hts gX6_noYear_X6_in rfl rfl rfl (by decide +kernel) ⟨(Nat.le_of_ble_eq_true rfl), (Nat.le_of_ble_eq_true rfl)⟩) hK hP [] rfl rfl hl.1 rfl (Nat.le_of_ble_eq_true rfl) (Nat.le_of_ble_eq_true rfl) (Nat.le_of_ble_eq_true rfl) dX6_noYear_6 ?_
  refine lv_if_ne (tgt := 16) hx hb dX6_noYear_9 (by decide) (fun c3 => ?_) (fun c3 => ?_)
  · replace hf := it_n c3 hf
    refine lv_iconst (v := (0 : Int32)) hx hb dX6_noYear_16 (by decide) ?_
    obtain rfl := Option.some.inj hf
    rw [hQ]
    exact W.zret hx hb hr rfl (fun t ht hW => ⟨rfl, ht⟩) (fun q hq => absurd hq List.not_mem_nil) dX6_noYear_17
  · replace hf := it_p c3 hf
    refine lv_iconst (v := (1 : Int32)) hx hb dX6_noYear_12 (by decide) ?_
    refine lv_goto (tgt := 17) hx hb dX6_noYear_13 (by decide) ?_
    obtain rfl := Option.some.inj hf
    rw [hQ]
    exact W.zret hx hb hr rfl (fun t ht hW => ⟨rfl, ht⟩) (fun q hq => absurd hq List.not_mem_nil) dX6_noYear_17
def rX6_noAs : Room := { frames := 1, cells := 0, slots := 0, locals := 25 }
theorem kX6_noAs_X6 : ∀ w ∈ wsX60, w ∈ wsX6_noAs := fun w h => (List.mem_cons_of_mem _ (List.mem_append_right _ h))
theorem mX6_noAs_1 : Cond.fieldLink RX6 87 "SmokeLedgerModel" "versions" "I" ∈ wsX6_noAs := List.mem_of_getElem? (i := 1) rfl
set_option maxHeartbeats 4000000 in
set_option maxRecDepth 100000 in
theorem ct_X6_noAs (l : Launch) (dC : Nat → ClassId) (dI : Nat → Nat → Nat) (a b : Nat → Nat) (cI cJ cZ : ClassId) (st : MS) (x1 : Int32) (res : Int32) (hf : fX6_noAs st x1 = some res) : Met l yX6_noAs wsX6_noAs rX6_noAs (Pp (dC, dI) (tyT cI cJ cZ) (WX6 a b cI cJ cZ st) [.ref (a 0), .int x1]) (Qp (.int res)) 0 0 (fun _ => False) := by
  refine Met.ofW (cc := cX6_noAs) (maxL := 2) (ret := (some .boolean)) (by decide) rfl ?_
  intro p e s m args below meth c s₁ B hml hv
  obtain ⟨hargs, hP, hK⟩ := hv
  have hx := B.exec
  have hb := B.bytes
  have hr := B.returns
  have hts := atoms_spec (ws := wsX6_noAs) B.pre
  have hown : s.vm.findClass RX6 = some m.cls := findClass_of_methodNamed B.named
  have hlocks := B.notSynchronized
  have hP : va_P (dC, dI) vwCl (WX6 a b cI cJ cZ st) s.heap := hP
  have hl := lv_entry ([.ref (a 0), .int x1]) (n := 2) (Nat.le_of_ble_eq_true rfl)
  refine W.eq (hargs ▸ lg_entry_eq m [.ref (a 0), .int x1] 2) ?_
  generalize (lg_sl ([.ref (a 0), .int x1]) ++ List.replicate (2 - (lg_sl ([.ref (a 0), .int x1])).length) Slot.unset).toArray = ls at hl ⊢
  have hl : lv_has ls 2 [(0, .ref (a 0)), (1, .int x1)] := hl
  obtain ⟨QQ, hQ⟩ : ∃ QQ : State → Prop, QQ = MQ below (Qp (.int res)) args s 0 0 (fun _ => False) := ⟨_, rfl⟩
  rw [← hQ]
  unfold fX6_noAs at hf
  refine lv_iload_n hx hb dX6_noAs_0 rfl (lv_at hl 1 rfl) ?_
  refine lv_bipush (v := (-9 : Int32)) hx hb dX6_noAs_1 (by decide) ?_
  refine lv_icmp_eq (tgt := 26) hx hb dX6_noAs_3 (by decide) (fun c1 => ?_) (fun c1 => ?_)
  · replace hf := it_p c1 hf
    refine lv_iconst (v := (0 : Int32)) hx hb dX6_noAs_26 (by decide) ?_
    obtain rfl := Option.some.inj hf
    rw [hQ]
    exact W.zret hx hb hr rfl (fun t ht hW => ⟨rfl, ht⟩) (fun q hq => absurd hq List.not_mem_nil) dX6_noAs_27
  · replace hf := it_n c1 hf
    refine lv_iload_n hx hb dX6_noAs_6 rfl (lv_at hl 1 rfl) ?_
    refine lv_i2l hx hb dX6_noAs_7 rfl ?_
    refine lv_lconst (v := (0 : Int64)) hx hb dX6_noAs_8 (by decide) ?_
    refine lv_aload_n hx hb dX6_noAs_9 rfl (lv_at hl 0 rfl) ?_
    refine va_get (D := (dC, dI)) (ci := 6) (v := .int (MS_versions st)) (C := RX6) (T := TX6) (N := 26) hx hb hts kX6_noAs_X6 hown hK hP 0 rfl rfl 14 (by decide) (hts _ mX6_noAs_1) (fun _ h9 => h9) rfl dX6_noAs_10 ?_
    refine lv_iconst (v := (1 : Int32)) hx hb dX6_noAs_13 (by decide) ?_
    refine lv_isub hx hb dX6_noAs_14 ?_
    refine lv_i2l hx hb dX6_noAs_15 rfl ?_
    obtain ⟨r2, hc3, hf⟩ := bind_s hf
    refine cpS (v := .int r2) ⟨hx, hb, hml, hown, hts⟩ (ct_X6_in l dC dI cI cJ cZ (Int32.toInt64 x1) (0 : Int64) (Int32.toInt64 ((MS_versions st) - (1 : Int32))) r2 hc3) (va_cwS 3 hts gX6_noAs_X6_in rfl rfl rfl (by decide +kernel) ⟨(Nat.le_of_ble_eq_true rfl), (Nat.le_of_ble_eq_true rfl)⟩) hK hP [] rfl rfl hl.1 rfl (Nat.le_of_ble_eq_true rfl) (Nat.le_of_ble_eq_true rfl) (Nat.le_of_ble_eq_true rfl) dX6_noAs_16 ?_
    refine lv_if_ne (tgt := 26) hx hb dX6_noAs_19 (by decide) (fun c4 => ?_) (fun c4 => ?_)
    · replace hf := it_n c4 hf
      refine lv_iconst (v := (0 : Int32)) hx hb dX6_noAs_26 (by decide) ?_
      obtain rfl := Option.some.inj hf
      rw [hQ]
      exact W.zret hx hb hr rfl (fun t ht hW => ⟨rfl, ht⟩) (fun q hq => absurd hq List.not_mem_nil) dX6_noAs_27
    · replace hf := it_p c4 hf
      refine lv_iconst (v := (1 : Int32)) hx hb dX6_noAs_22 (by decide) ?_
      refine lv_goto (tgt := 27) hx hb dX6_noAs_23 (by decide) ?_
      obtain rfl := Option.some.inj hf
      rw [hQ]
      exact W.zret hx hb hr rfl (fun t ht hW => ⟨rfl, ht⟩) (fun q hq => absurd hq List.not_mem_nil) dX6_noAs_27
def rX6_noRow : Room := { frames := 1, cells := 0, slots := 0, locals := 25 }
theorem kX6_noRow_X6 : ∀ w ∈ wsX60, w ∈ wsX6_noRow := fun w h => (List.mem_cons_of_mem _ (List.mem_append_right _ h))
theorem mX6_noRow_1 : Cond.fieldLink RX6 90 "SmokeLedgerModel" "rows" "I" ∈ wsX6_noRow := List.mem_of_getElem? (i := 1) rfl
set_option maxHeartbeats 4000000 in
set_option maxRecDepth 100000 in
theorem ct_X6_noRow (l : Launch) (dC : Nat → ClassId) (dI : Nat → Nat → Nat) (a b : Nat → Nat) (cI cJ cZ : ClassId) (st : MS) (x1 : Int32) (res : Int32) (hf : fX6_noRow st x1 = some res) : Met l yX6_noRow wsX6_noRow rX6_noRow (Pp (dC, dI) (tyT cI cJ cZ) (WX6 a b cI cJ cZ st) [.ref (a 0), .int x1]) (Qp (.int res)) 0 0 (fun _ => False) := by
  refine Met.ofW (cc := cX6_noRow) (maxL := 2) (ret := (some .boolean)) (by decide) rfl ?_
  intro p e s m args below meth c s₁ B hml hv
  obtain ⟨hargs, hP, hK⟩ := hv
  have hx := B.exec
  have hb := B.bytes
  have hr := B.returns
  have hts := atoms_spec (ws := wsX6_noRow) B.pre
  have hown : s.vm.findClass RX6 = some m.cls := findClass_of_methodNamed B.named
  have hlocks := B.notSynchronized
  have hP : va_P (dC, dI) vwCl (WX6 a b cI cJ cZ st) s.heap := hP
  have hl := lv_entry ([.ref (a 0), .int x1]) (n := 2) (Nat.le_of_ble_eq_true rfl)
  refine W.eq (hargs ▸ lg_entry_eq m [.ref (a 0), .int x1] 2) ?_
  generalize (lg_sl ([.ref (a 0), .int x1]) ++ List.replicate (2 - (lg_sl ([.ref (a 0), .int x1])).length) Slot.unset).toArray = ls at hl ⊢
  have hl : lv_has ls 2 [(0, .ref (a 0)), (1, .int x1)] := hl
  obtain ⟨QQ, hQ⟩ : ∃ QQ : State → Prop, QQ = MQ below (Qp (.int res)) args s 0 0 (fun _ => False) := ⟨_, rfl⟩
  rw [← hQ]
  unfold fX6_noRow at hf
  refine lv_iload_n hx hb dX6_noRow_0 rfl (lv_at hl 1 rfl) ?_
  refine lv_i2l hx hb dX6_noRow_1 rfl ?_
  refine lv_lconst (v := (0 : Int64)) hx hb dX6_noRow_2 (by decide) ?_
  refine lv_aload_n hx hb dX6_noRow_3 rfl (lv_at hl 0 rfl) ?_
  refine va_get (D := (dC, dI)) (ci := 6) (v := .int (MS_rows st)) (C := RX6) (T := TX6) (N := 26) hx hb hts kX6_noRow_X6 hown hK hP 0 rfl rfl 7 (by decide) (hts _ mX6_noRow_1) (fun _ h9 => h9) rfl dX6_noRow_4 ?_
  refine lv_iconst (v := (1 : Int32)) hx hb dX6_noRow_7 (by decide) ?_
  refine lv_isub hx hb dX6_noRow_8 ?_
  refine lv_i2l hx hb dX6_noRow_9 rfl ?_
  obtain ⟨r1, hc2, hf⟩ := bind_s hf
  refine cpS (v := .int r1) ⟨hx, hb, hml, hown, hts⟩ (ct_X6_in l dC dI cI cJ cZ (Int32.toInt64 x1) (0 : Int64) (Int32.toInt64 ((MS_rows st) - (1 : Int32))) r1 hc2) (va_cwS 3 hts gX6_noRow_X6_in rfl rfl rfl (by decide +kernel) ⟨(Nat.le_of_ble_eq_true rfl), (Nat.le_of_ble_eq_true rfl)⟩) hK hP [] rfl rfl hl.1 rfl (Nat.le_of_ble_eq_true rfl) (Nat.le_of_ble_eq_true rfl) (Nat.le_of_ble_eq_true rfl) dX6_noRow_10 ?_
  refine lv_if_ne (tgt := 20) hx hb dX6_noRow_13 (by decide) (fun c3 => ?_) (fun c3 => ?_)
  · replace hf := it_n c3 hf
    refine lv_iconst (v := (0 : Int32)) hx hb dX6_noRow_20 (by decide) ?_
    obtain rfl := Option.some.inj hf
    rw [hQ]
    exact W.zret hx hb hr rfl (fun t ht hW => ⟨rfl, ht⟩) (fun q hq => absurd hq List.not_mem_nil) dX6_noRow_21
  · replace hf := it_p c3 hf
    refine lv_iconst (v := (1 : Int32)) hx hb dX6_noRow_16 (by decide) ?_
    refine lv_goto (tgt := 21) hx hb dX6_noRow_17 (by decide) ?_
    obtain rfl := Option.some.inj hf
    rw [hQ]
    exact W.zret hx hb hr rfl (fun t ht hW => ⟨rfl, ht⟩) (fun q hq => absurd hq List.not_mem_nil) dX6_noRow_21
def rX6_unit : Room := { frames := 0, cells := 0, slots := 0, locals := 0 }
theorem kX6_unit_X6 : ∀ w ∈ wsX60, w ∈ wsX6_unit := fun w h => (List.mem_cons_of_mem _ (List.mem_append_right _ h))
theorem mX6_unit_1 : Cond.fieldLink RX6 76 "SmokeLedgerModel" "thrown" "I" ∈ wsX6_unit := List.mem_of_getElem? (i := 1) rfl
theorem mX6_unit_2 : Cond.fieldLink RX6 7 "SmokeLedgerModel" "units" "I" ∈ wsX6_unit := List.mem_of_getElem? (i := 2) rfl
set_option maxHeartbeats 4000000 in
set_option maxRecDepth 100000 in
theorem ct_X6_unit (l : Launch) (dC : Nat → ClassId) (dI : Nat → Nat → Nat) (a b : Nat → Nat) (cI cJ cZ : ClassId) (sz : Nat) (st : MS) (res : Int32 × MS) (hf : fX6_unit st = some res) : Met l yX6_unit wsX6_unit rX6_unit (Pm (dC, dI) (tyT cI cJ cZ) (WX6 a b cI cJ cZ st) sz [.ref (a 0)]) (Qm (dC, dI) (some (.int res.1)) (WX6 a b cI cJ cZ res.2) (va_A (WX6 a b cI cJ cZ st) sz)) 0 0 (va_A (WX6 a b cI cJ cZ st) sz) := by
  refine Met.ofW (cc := cX6_unit) (maxL := 1) (ret := (some .int)) (by decide) rfl ?_
  intro p e s m args below meth c s₁ B hml hv
  obtain ⟨hargs, hsz, hP, hK, hD0⟩ := hv
  have hx := B.exec
  have hb := B.bytes
  have hr := B.returns
  have hts := atoms_spec (ws := wsX6_unit) B.pre
  have hown : s.vm.findClass RX6 = some m.cls := findClass_of_methodNamed B.named
  have hlocks := B.notSynchronized
  subst hsz
  have hD := hD0.self (sz := s.heap.size)
  generalize hAe : va_A (WX6 a b cI cJ cZ st) s.heap.size = A at hD ⊢
  have hA : ∀ q : Nat, s.heap.size ≤ q → A q := fun q h => by rw [← hAe]; exact Or.inr h
  have hl := lv_entry ([.ref (a 0)]) (n := 1) (Nat.le_of_ble_eq_true rfl)
  refine W.eq (hargs ▸ lg_entry_eq m [.ref (a 0)] 1) ?_
  generalize (lg_sl ([.ref (a 0)]) ++ List.replicate (1 - (lg_sl ([.ref (a 0)])).length) Slot.unset).toArray = ls at hl ⊢
  have hl : lv_has ls 1 [(0, .ref (a 0))] := hl
  obtain ⟨QQ, hQ⟩ : ∃ QQ : State → Prop, QQ = MQ below (Qm (dC, dI) (some (.int res.1)) (WX6 a b cI cJ cZ res.2) A) args s 0 0 (A) := ⟨_, rfl⟩
  rw [← hQ]
  have main : ∀ (H : Heap) (locs : List Loc) (ls : Array Slot), IN (dC, dI) (WX6 a b cI cJ cZ st) A s.heap H locs → lv_has ls 1 [(0, .ref (a 0))] → W p l e (headSpec wsX6_unit rX6_unit).room s m args below meth c H locs 0 0 QQ (F0 m 0 ls []) := by
    intro H locs ls hin hl
    obtain ⟨hP, hD, hS⟩ := hin
    unfold fX6_unit at hf
    refine lv_aload_n hx hb dX6_unit_0 rfl (lv_at hl 0 rfl) ?_
    refine lv_iconst (v := (0 : Int32)) hx hb dX6_unit_1 (by decide) ?_
    refine va_put (D := (dC, dI)) (ci := 6) (v := .int (0 : Int32)) (ty := .int) (C := RX6) (T := TX6) (N := 26) hx hb hts kX6_unit_X6 tyX6 tyX6_ok nmX6 hown hK hP hD hS 0 rfl rfl 0 (by decide) (hts _ mX6_unit_1) (fun _ h9 => h9) rfl (by decide +kernel) rfl rfl (Nat.le_of_ble_eq_true rfl) dX6_unit_2 (fun H locs hP hD hS => ?_)
    obtain ⟨s1, hs2, hf⟩ := bnd_e hf
    replace hP := putP_thrown hs2 hP
    replace hD := putD_thrown hs2 hD
    refine lv_aload_n hx hb dX6_unit_5 rfl (lv_at hl 0 rfl) ?_
    refine va_get (D := (dC, dI)) (ci := 6) (v := .int (MS_units s1)) (C := RX6) (T := TX6) (N := 26) hx hb hts kX6_unit_X6 hown hK hP 0 rfl rfl 1 (by decide) (hts _ mX6_unit_2) (fun _ h9 => h9) rfl dX6_unit_6 ?_
    refine lv_bipush (v := (10 : Int32)) hx hb dX6_unit_9 (by decide) ?_
    refine lv_icmp_ne (tgt := 17) hx hb dX6_unit_11 (by decide) (fun c3 => ?_) (fun c3 => ?_)
    · replace hf := it_n c3 hf
      refine lv_aload_n hx hb dX6_unit_17 rfl (lv_at hl 0 rfl) ?_
      refine lv_dup hx hb dX6_unit_18 rfl ?_
      refine va_get (D := (dC, dI)) (ci := 6) (v := .int (MS_units s1)) (C := RX6) (T := TX6) (N := 26) hx hb hts kX6_unit_X6 hown hK hP 0 rfl rfl 1 (by decide) (hts _ mX6_unit_2) (fun _ h9 => h9) rfl dX6_unit_19 ?_
      refine lv_iconst (v := (1 : Int32)) hx hb dX6_unit_22 (by decide) ?_
      refine lv_iadd hx hb dX6_unit_23 ?_
      refine va_put (D := (dC, dI)) (ci := 6) (v := .int ((MS_units s1) + (1 : Int32))) (ty := .int) (C := RX6) (T := TX6) (N := 26) hx hb hts kX6_unit_X6 tyX6 tyX6_ok nmX6 hown hK hP hD hS 0 rfl rfl 1 (by decide) (hts _ mX6_unit_2) (fun _ h9 => h9) rfl (by decide +kernel) rfl rfl (Nat.le_of_ble_eq_true rfl) dX6_unit_24 (fun H locs hP hD hS => ?_)
      obtain ⟨s4, hs5, hf⟩ := bnd_e hf
      replace hP := putP_units hs5 hP
      replace hD := putD_units hs5 hD
      refine lv_aload_n hx hb dX6_unit_27 rfl (lv_at hl 0 rfl) ?_
      refine va_get (D := (dC, dI)) (ci := 6) (v := .int (MS_units s4)) (C := RX6) (T := TX6) (N := 26) hx hb hts kX6_unit_X6 hown hK hP 0 rfl rfl 1 (by decide) (hts _ mX6_unit_2) (fun _ h9 => h9) rfl dX6_unit_28 ?_
      refine lv_iconst (v := (1 : Int32)) hx hb dX6_unit_31 (by decide) ?_
      refine lv_isub hx hb dX6_unit_32 ?_
      obtain rfl := Option.some.inj hf
      rw [hQ]
      exact W.iret hx hb hr (fun t ht hW => ⟨rfl, ⟨by rw [ht]; exact hP, hD⟩, hS.F ht⟩) hS.2.2 dX6_unit_33
    · replace hf := it_p c3 hf
      refine lv_bipush (v := (-4 : Int32)) hx hb dX6_unit_14 (by decide) ?_
      obtain rfl := Option.some.inj hf
      rw [hQ]
      exact W.iret hx hb hr (fun t ht hW => ⟨rfl, ⟨by rw [ht]; exact hP, hD⟩, hS.F ht⟩) hS.2.2 dX6_unit_16
  exact main s.heap [] ls ⟨hP, hD, va_S.rf⟩ hl
