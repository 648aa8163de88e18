def rX6_factor : Room := { frames := 2, cells := 0, slots := 0, locals := 45 }
theorem kX6_factor_X6 : ∀ w ∈ wsX60, w ∈ wsX6_factor := fun w h => (List.mem_cons_of_mem _ (List.mem_append_right _ h))
theorem mX6_factor_1 : Cond.fieldLink RX6 76 "SmokeLedgerModel" "thrown" "I" ∈ wsX6_factor := List.mem_of_getElem? (i := 1) rfl
theorem mX6_factor_2 : Cond.constantLong RX6 124 (3) ∈ wsX6_factor := List.mem_of_getElem? (i := 2) rfl
theorem mX6_factor_3 : Cond.fieldLink RX6 87 "SmokeLedgerModel" "versions" "I" ∈ wsX6_factor := List.mem_of_getElem? (i := 3) rfl
theorem mX6_factor_4 : Cond.fieldLink RX6 44 "SmokeLedgerModel" "ofKind" "[I" ∈ wsX6_factor := List.mem_of_getElem? (i := 4) rfl
theorem mX6_factor_5 : Cond.fieldLink RX6 47 "SmokeLedgerModel" "ofYear" "[I" ∈ wsX6_factor := List.mem_of_getElem? (i := 5) rfl
theorem mX6_factor_6 : Cond.fieldLink RX6 50 "SmokeLedgerModel" "low" "[I" ∈ wsX6_factor := List.mem_of_getElem? (i := 6) rfl
theorem mX6_factor_7 : Cond.fieldLink RX6 53 "SmokeLedgerModel" "high" "[I" ∈ wsX6_factor := List.mem_of_getElem? (i := 7) rfl
set_option maxHeartbeats 4000000 in
set_option maxRecDepth 100000 in
theorem ct_X6_factor (l : Launch) (dC : Nat → ClassId) (dI : Nat → Nat → Nat) (a b : Nat → Nat) (cI cJ cZ : ClassId) (sz : Nat) (st : MS) (x1 : Int32) (x2 : Int32) (x3 : Int32) (x4 : Int32) (res : Int32 × MS) (hf : fX6_factor st x1 x2 x3 x4 = some res) : Met l yX6_factor wsX6_factor rX6_factor (Pm (dC, dI) (tyT cI cJ cZ) (WX6 a b cI cJ cZ st) sz [.ref (a 0), .int x1, .int x2, .int x3, .int x4]) (Qm (dC, dI) (some (.int res.1)) (WX6 a b cI cJ cZ res.2) (va_A (WX6 a b cI cJ cZ st) sz)) 0 0 (va_A (WX6 a b cI cJ cZ st) sz) := by
  refine Met.ofW (cc := cX6_factor) (maxL := 5) (ret := (some .int)) (by decide) rfl ?_
  intro p e s m args below meth c s₁ B hml hv
  obtain ⟨hargs, hsz, hP, hK, hD0⟩ := hv
  have hx := B.exec
  have hb := B.bytes
  have hr := B.returns
  have hts := atoms_spec (ws := wsX6_factor) B.pre
  have hown : s.vm.findClass RX6 = some m.cls := findClass_of_methodNamed B.named
  have hlocks := B.notSynchronized
  subst hsz
  have hD := hD0.self (sz := s.heap.size)
  generalize hAe : va_A (WX6 a b cI cJ cZ st) s.heap.size = A at hD ⊢
  have hA : ∀ q : Nat, s.heap.size ≤ q → A q := fun q h => by rw [← hAe]; exact Or.inr h
  have hl := lv_entry ([.ref (a 0), .int x1, .int x2, .int x3, .int x4]) (n := 5) (Nat.le_of_ble_eq_true rfl)
  refine W.eq (hargs ▸ lg_entry_eq m [.ref (a 0), .int x1, .int x2, .int x3, .int x4] 5) ?_
  generalize (lg_sl ([.ref (a 0), .int x1, .int x2, .int x3, .int x4]) ++ List.replicate (5 - (lg_sl ([.ref (a 0), .int x1, .int x2, .int x3, .int x4])).length) Slot.unset).toArray = ls at hl ⊢
  have hl : lv_has ls 5 [(0, .ref (a 0)), (1, .int x1), (2, .int x2), (3, .int x3), (4, .int x4)] := hl
  obtain ⟨QQ, hQ⟩ : ∃ QQ : State → Prop, QQ = MQ below (Qm (dC, dI) (some (.int res.1)) (WX6 a b cI cJ cZ res.2) A) args s 0 0 (A) := ⟨_, rfl⟩
  rw [← hQ]
  have main : ∀ (H : Heap) (locs : List Loc) (ls : Array Slot), IN (dC, dI) (WX6 a b cI cJ cZ st) A s.heap H locs → lv_has ls 5 [(0, .ref (a 0)), (1, .int x1), (2, .int x2), (3, .int x3), (4, .int x4)] → W p l e (headSpec wsX6_factor rX6_factor).room s m args below meth c H locs 0 0 QQ (F0 m 0 ls []) := by
    intro H locs ls hin hl
    obtain ⟨hP, hD, hS⟩ := hin
    unfold fX6_factor at hf
    refine lv_aload_n hx hb dX6_factor_0 rfl (lv_at hl 0 rfl) ?_
    refine lv_iconst (v := (0 : Int32)) hx hb dX6_factor_1 (by decide) ?_
    refine va_put (D := (dC, dI)) (ci := 6) (v := .int (0 : Int32)) (ty := .int) (C := RX6) (T := TX6) (N := 26) hx hb hts kX6_factor_X6 tyX6 tyX6_ok nmX6 hown hK hP hD hS 0 rfl rfl 0 (by decide) (hts _ mX6_factor_1) (fun _ h9 => h9) rfl (by decide +kernel) rfl rfl (Nat.le_of_ble_eq_true rfl) dX6_factor_2 (fun H locs hP hD hS => ?_)
    obtain ⟨s1, hs2, hf⟩ := bnd_e hf
    replace hP := putP_thrown hs2 hP
    replace hD := putD_thrown hs2 hD
    refine lv_iload_n hx hb dX6_factor_5 rfl (lv_at hl 1 rfl) ?_
    refine lv_i2l hx hb dX6_factor_6 rfl ?_
    refine lv_lconst (v := (0 : Int64)) hx hb dX6_factor_7 (by decide) ?_
    refine lv_ldc2 (v := (3 : Int64)) hx hb hown (hts _ mX6_factor_2) dX6_factor_8 ?_
    obtain ⟨r3, hc4, hf⟩ := bind_s hf
    refine cpS (v := .int r3) ⟨hx, hb, hml, hown, hts⟩ (ct_X6_in l dC dI cI cJ cZ (Int32.toInt64 x1) (0 : Int64) (3 : Int64) r3 hc4) (va_cwS 3 hts gX6_factor_X6_in rfl rfl rfl (by decide +kernel) ⟨(Nat.le_of_ble_eq_true rfl), (Nat.le_of_ble_eq_true rfl)⟩) hK hP [] rfl rfl hl.1 rfl (Nat.le_of_ble_eq_true rfl) (Nat.le_of_ble_eq_true rfl) (Nat.le_of_ble_eq_true rfl) dX6_factor_11 ?_
    refine lv_if_eq (tgt := 44) hx hb dX6_factor_14 (by decide) (fun c5 => ?_) (fun c5 => ?_)
    · replace hf := it_p c5 hf
      refine lv_bipush (v := (-2 : Int32)) hx hb dX6_factor_44 (by decide) ?_
      obtain rfl := Option.some.inj hf
      rw [hQ]
      exact W.iret hx hb hr (fun t ht hW => ⟨rfl, ⟨by rw [ht]; exact hP, hD⟩, hS.F ht⟩) hS.2.2 dX6_factor_46
    · replace hf := it_n c5 hf
      refine lv_iload_n hx hb dX6_factor_17 rfl (lv_at hl 2 rfl) ?_
      obtain ⟨r6, hc7, hf⟩ := bind_s hf
      refine cpS (v := .int r6) ⟨hx, hb, hml, hown, hts⟩ (ct_X6_noYear l dC dI cI cJ cZ x2 r6 hc7) (va_cwS 1 hts gX6_factor_X6_noYear rfl rfl rfl (by decide +kernel) ⟨(Nat.le_of_ble_eq_true rfl), (Nat.le_of_ble_eq_true rfl)⟩) hK hP [] rfl rfl hl.1 rfl (Nat.le_of_ble_eq_true rfl) (Nat.le_of_ble_eq_true rfl) (Nat.le_of_ble_eq_true rfl) dX6_factor_18 ?_
      refine lv_if_ne (tgt := 44) hx hb dX6_factor_21 (by decide) (fun c8 => ?_) (fun c8 => ?_)
      · replace hf := it_n c8 hf
        refine lv_bipush (v := (-2 : Int32)) hx hb dX6_factor_44 (by decide) ?_
        obtain rfl := Option.some.inj hf
        rw [hQ]
        exact W.iret hx hb hr (fun t ht hW => ⟨rfl, ⟨by rw [ht]; exact hP, hD⟩, hS.F ht⟩) hS.2.2 dX6_factor_46
      · replace hf := it_p c8 hf
        refine lv_iload_n hx hb dX6_factor_24 rfl (lv_at hl 3 rfl) ?_
        refine lv_i2l hx hb dX6_factor_25 rfl ?_
        refine lv_lconst (v := (0 : Int64)) hx hb dX6_factor_26 (by decide) ?_
        refine lv_iload hx hb dX6_factor_27 (lv_at hl 4 rfl) ?_
        refine lv_i2l hx hb dX6_factor_29 rfl ?_
        obtain ⟨r9, hc10, hf⟩ := bind_s hf
        refine cpS (v := .int r9) ⟨hx, hb, hml, hown, hts⟩ (ct_X6_in l dC dI cI cJ cZ (Int32.toInt64 x3) (0 : Int64) (Int32.toInt64 x4) r9 hc10) (va_cwS 3 hts gX6_factor_X6_in rfl rfl rfl (by decide +kernel) ⟨(Nat.le_of_ble_eq_true rfl), (Nat.le_of_ble_eq_true rfl)⟩) hK hP [] rfl rfl hl.1 rfl (Nat.le_of_ble_eq_true rfl) (Nat.le_of_ble_eq_true rfl) (Nat.le_of_ble_eq_true rfl) dX6_factor_30 ?_
        refine lv_if_eq (tgt := 44) hx hb dX6_factor_33 (by decide) (fun c11 => ?_) (fun c11 => ?_)
        · replace hf := it_p c11 hf
          refine lv_bipush (v := (-2 : Int32)) hx hb dX6_factor_44 (by decide) ?_
          obtain rfl := Option.some.inj hf
          rw [hQ]
          exact W.iret hx hb hr (fun t ht hW => ⟨rfl, ⟨by rw [ht]; exact hP, hD⟩, hS.F ht⟩) hS.2.2 dX6_factor_46
        · replace hf := it_n c11 hf
          refine lv_iload hx hb dX6_factor_36 (lv_at hl 4 rfl) ?_
          refine lv_sipush (v := (1000 : Int32)) hx hb dX6_factor_38 (by decide) ?_
          refine lv_icmp_le (tgt := 47) hx hb dX6_factor_41 (by decide) (fun c12 => ?_) (fun c12 => ?_)
          · replace hf := it_p c12 hf
            refine lv_aload_n hx hb dX6_factor_47 rfl (lv_at hl 0 rfl) ?_
            refine va_get (D := (dC, dI)) (ci := 6) (v := .int (MS_versions s1)) (C := RX6) (T := TX6) (N := 26) hx hb hts kX6_factor_X6 hown hK hP 0 rfl rfl 14 (by decide) (hts _ mX6_factor_3) (fun _ h9 => h9) rfl dX6_factor_48 ?_
            refine lv_bipush (v := (80 : Int32)) hx hb dX6_factor_51 (by decide) ?_
            refine lv_icmp_ne (tgt := 59) hx hb dX6_factor_53 (by decide) (fun c13 => ?_) (fun c13 => ?_)
            · replace hf := it_n c13 hf
              refine lv_aload_n hx hb dX6_factor_59 rfl (lv_at hl 0 rfl) ?_
              refine va_get (D := (dC, dI)) (ci := 6) (v := .ref (a 11)) (C := RX6) (T := TX6) (N := 26) hx hb hts kX6_factor_X6 hown hK hP 0 rfl rfl 15 (by decide) (hts _ mX6_factor_4) (fun _ h9 => h9) rfl dX6_factor_60 ?_
              refine lv_aload_n hx hb dX6_factor_63 rfl (lv_at hl 0 rfl) ?_
              refine va_get (D := (dC, dI)) (ci := 6) (v := .int (MS_versions s1)) (C := RX6) (T := TX6) (N := 26) hx hb hts kX6_factor_X6 hown hK hP 0 rfl rfl 14 (by decide) (hts _ mX6_factor_3) (fun _ h9 => h9) rfl dX6_factor_64 ?_
              refine lv_iload_n hx hb dX6_factor_67 rfl (lv_at hl 1 rfl) ?_
              obtain ⟨hi14, hf⟩ := it_s hf
              refine va_iast hx hb hK hP hD hS 11 0 rfl rfl (inb_in hi14) dX6_factor_68 (fun H locs hP hD hS => ?_)
              obtain ⟨s15, hs16, hf⟩ := bnd_e hf
              replace hP := putP_ofKind hs16 hP
              replace hD := putD_ofKind hs16 hD
              refine lv_aload_n hx hb dX6_factor_69 rfl (lv_at hl 0 rfl) ?_
              refine va_get (D := (dC, dI)) (ci := 6) (v := .ref (a 12)) (C := RX6) (T := TX6) (N := 26) hx hb hts kX6_factor_X6 hown hK hP 0 rfl rfl 16 (by decide) (hts _ mX6_factor_5) (fun _ h9 => h9) rfl dX6_factor_70 ?_
              refine lv_aload_n hx hb dX6_factor_73 rfl (lv_at hl 0 rfl) ?_
              refine va_get (D := (dC, dI)) (ci := 6) (v := .int (MS_versions s15)) (C := RX6) (T := TX6) (N := 26) hx hb hts kX6_factor_X6 hown hK hP 0 rfl rfl 14 (by decide) (hts _ mX6_factor_3) (fun _ h9 => h9) rfl dX6_factor_74 ?_
              refine lv_iload_n hx hb dX6_factor_77 rfl (lv_at hl 2 rfl) ?_
              obtain ⟨hi17, hf⟩ := it_s hf
              refine va_iast hx hb hK hP hD hS 12 0 rfl rfl (inb_in hi17) dX6_factor_78 (fun H locs hP hD hS => ?_)
              obtain ⟨s18, hs19, hf⟩ := bnd_e hf
              replace hP := putP_ofYear hs19 hP
              replace hD := putD_ofYear hs19 hD
              refine lv_aload_n hx hb dX6_factor_79 rfl (lv_at hl 0 rfl) ?_
              refine va_get (D := (dC, dI)) (ci := 6) (v := .ref (a 13)) (C := RX6) (T := TX6) (N := 26) hx hb hts kX6_factor_X6 hown hK hP 0 rfl rfl 17 (by decide) (hts _ mX6_factor_6) (fun _ h9 => h9) rfl dX6_factor_80 ?_
              refine lv_aload_n hx hb dX6_factor_83 rfl (lv_at hl 0 rfl) ?_
              refine va_get (D := (dC, dI)) (ci := 6) (v := .int (MS_versions s18)) (C := RX6) (T := TX6) (N := 26) hx hb hts kX6_factor_X6 hown hK hP 0 rfl rfl 14 (by decide) (hts _ mX6_factor_3) (fun _ h9 => h9) rfl dX6_factor_84 ?_
              refine lv_iload_n hx hb dX6_factor_87 rfl (lv_at hl 3 rfl) ?_
              obtain ⟨hi20, hf⟩ := it_s hf
              refine va_iast hx hb hK hP hD hS 13 0 rfl rfl (inb_in hi20) dX6_factor_88 (fun H locs hP hD hS => ?_)
              obtain ⟨s21, hs22, hf⟩ := bnd_e hf
              replace hP := putP_low hs22 hP
              replace hD := putD_low hs22 hD
              refine lv_aload_n hx hb dX6_factor_89 rfl (lv_at hl 0 rfl) ?_
              refine va_get (D := (dC, dI)) (ci := 6) (v := .ref (a 14)) (C := RX6) (T := TX6) (N := 26) hx hb hts kX6_factor_X6 hown hK hP 0 rfl rfl 18 (by decide) (hts _ mX6_factor_7) (fun _ h9 => h9) rfl dX6_factor_90 ?_
              refine lv_aload_n hx hb dX6_factor_93 rfl (lv_at hl 0 rfl) ?_
              refine va_get (D := (dC, dI)) (ci := 6) (v := .int (MS_versions s21)) (C := RX6) (T := TX6) (N := 26) hx hb hts kX6_factor_X6 hown hK hP 0 rfl rfl 14 (by decide) (hts _ mX6_factor_3) (fun _ h9 => h9) rfl dX6_factor_94 ?_
              refine lv_iload hx hb dX6_factor_97 (lv_at hl 4 rfl) ?_
              obtain ⟨hi23, hf⟩ := it_s hf
              refine va_iast hx hb hK hP hD hS 14 0 rfl rfl (inb_in hi23) dX6_factor_99 (fun H locs hP hD hS => ?_)
              obtain ⟨s24, hs25, hf⟩ := bnd_e hf
              replace hP := putP_high hs25 hP
              replace hD := putD_high hs25 hD
              refine lv_aload_n hx hb dX6_factor_100 rfl (lv_at hl 0 rfl) ?_
              refine lv_dup hx hb dX6_factor_101 rfl ?_
              refine va_get (D := (dC, dI)) (ci := 6) (v := .int (MS_versions s24)) (C := RX6) (T := TX6) (N := 26) hx hb hts kX6_factor_X6 hown hK hP 0 rfl rfl 14 (by decide) (hts _ mX6_factor_3) (fun _ h9 => h9) rfl dX6_factor_102 ?_
              refine lv_iconst (v := (1 : Int32)) hx hb dX6_factor_105 (by decide) ?_
              refine lv_iadd hx hb dX6_factor_106 ?_
              refine va_put (D := (dC, dI)) (ci := 6) (v := .int ((MS_versions s24) + (1 : Int32))) (ty := .int) (C := RX6) (T := TX6) (N := 26) hx hb hts kX6_factor_X6 tyX6 tyX6_ok nmX6 hown hK hP hD hS 0 rfl rfl 14 (by decide) (hts _ mX6_factor_3) (fun _ h9 => h9) rfl (by decide +kernel) rfl rfl (Nat.le_of_ble_eq_true rfl) dX6_factor_107 (fun H locs hP hD hS => ?_)
              obtain ⟨s26, hs27, hf⟩ := bnd_e hf
              replace hP := putP_versions hs27 hP
              replace hD := putD_versions hs27 hD
              refine lv_aload_n hx hb dX6_factor_110 rfl (lv_at hl 0 rfl) ?_
              refine va_get (D := (dC, dI)) (ci := 6) (v := .int (MS_versions s26)) (C := RX6) (T := TX6) (N := 26) hx hb hts kX6_factor_X6 hown hK hP 0 rfl rfl 14 (by decide) (hts _ mX6_factor_3) (fun _ h9 => h9) rfl dX6_factor_111 ?_
              refine lv_iconst (v := (1 : Int32)) hx hb dX6_factor_114 (by decide) ?_
              refine lv_isub hx hb dX6_factor_115 ?_
              obtain rfl := Option.some.inj hf
              rw [hQ]
              exact W.iret hx hb hr (fun t ht hW => ⟨rfl, ⟨by rw [ht]; exact hP, hD⟩, hS.F ht⟩) hS.2.2 dX6_factor_116
            · replace hf := it_p c13 hf
              refine lv_bipush (v := (-4 : Int32)) hx hb dX6_factor_56 (by decide) ?_
              obtain rfl := Option.some.inj hf
              rw [hQ]
              exact W.iret hx hb hr (fun t ht hW => ⟨rfl, ⟨by rw [ht]; exact hP, hD⟩, hS.F ht⟩) hS.2.2 dX6_factor_58
          · replace hf := it_n c12 hf
            refine lv_bipush (v := (-2 : Int32)) hx hb dX6_factor_44 (by decide) ?_
            obtain rfl := Option.some.inj hf
            rw [hQ]
            exact W.iret hx hb hr (fun t ht hW => ⟨rfl, ⟨by rw [ht]; exact hP, hD⟩, hS.F ht⟩) hS.2.2 dX6_factor_46
  exact main s.heap [] ls ⟨hP, hD, va_S.rf⟩ hl
def rX6_versionOf : Room := { frames := 0, cells := 0, slots := 0, locals := 0 }
theorem kX6_versionOf_X6 : ∀ w ∈ wsX60, w ∈ wsX6_versionOf := fun w h => (List.mem_cons_of_mem _ (List.mem_append_right _ h))
theorem mX6_versionOf_1 : Cond.fieldLink RX6 87 "SmokeLedgerModel" "versions" "I" ∈ wsX6_versionOf := List.mem_of_getElem? (i := 1) rfl
theorem mX6_versionOf_2 : Cond.fieldLink RX6 44 "SmokeLedgerModel" "ofKind" "[I" ∈ wsX6_versionOf := List.mem_of_getElem? (i := 2) rfl
theorem mX6_versionOf_3 : Cond.fieldLink RX6 47 "SmokeLedgerModel" "ofYear" "[I" ∈ wsX6_versionOf := List.mem_of_getElem? (i := 3) rfl
set_option maxHeartbeats 4000000 in
set_option maxRecDepth 100000 in
theorem ct_X6_versionOf (l : Launch) (dC : Nat → ClassId) (dI : Nat → Nat → Nat) (a b : Nat → Nat) (cI cJ cZ : ClassId) (st : MS) (x1 : Int32) (x2 : Int32) (x3 : Int32) (res : Int32) (hf : fX6_versionOf st x1 x2 x3 = some res) : Met l yX6_versionOf wsX6_versionOf rX6_versionOf (Pp (dC, dI) (tyT cI cJ cZ) (WX6 a b cI cJ cZ st) [.ref (a 0), .int x1, .int x2, .int x3]) (Qp (.int res)) 0 0 (fun _ => False) := by
  refine Met.ofW (cc := cX6_versionOf) (maxL := 6) (ret := (some .int)) (by decide) rfl ?_
  intro p e s m args below meth c s₁ B hml hv
  obtain ⟨hargs, hP, hK⟩ := hv
  have hx := B.exec
  have hb := B.bytes
  have hr := B.returns
  have hts := atoms_spec (ws := wsX6_versionOf) B.pre
  have hown : s.vm.findClass RX6 = some m.cls := findClass_of_methodNamed B.named
  have hlocks := B.notSynchronized
  have hP : va_P (dC, dI) vwCl (WX6 a b cI cJ cZ st) s.heap := hP
  have hl := lv_entry ([.ref (a 0), .int x1, .int x2, .int x3]) (n := 6) (Nat.le_of_ble_eq_true rfl)
  refine W.eq (hargs ▸ lg_entry_eq m [.ref (a 0), .int x1, .int x2, .int x3] 6) ?_
  generalize (lg_sl ([.ref (a 0), .int x1, .int x2, .int x3]) ++ List.replicate (6 - (lg_sl ([.ref (a 0), .int x1, .int x2, .int x3])).length) Slot.unset).toArray = ls at hl ⊢
  have hl : lv_has ls 6 [(0, .ref (a 0)), (1, .int x1), (2, .int x2), (3, .int x3)] := hl
  obtain ⟨QQ, hQ⟩ : ∃ QQ : State → Prop, QQ = MQ below (Qp (.int res)) args s 0 0 (fun _ => False) := ⟨_, rfl⟩
  rw [← hQ]
  have l7 : ∀ (x1 : Int32) (x2 : Int32) (x3 : Int32) (fu : Nat) (s0 : Int32 × Int32) (r : Int32 × Int32), loopN (fun (s : Int32 × Int32) => fX6_versionOf_l7 st x1 x2 x3 s.1 s.2) fu s0 = some r → (∀ (ls : Array Slot), lv_has ls 6 [(0, .ref (a 0)), (1, .int x1), (2, .int x2), (3, .int x3), (4, .int r.1), (5, .int r.2)] → W p l e (headSpec wsX6_versionOf rX6_versionOf).room s m args below meth c s.heap [] 0 0 QQ (F0 m 89 ls [])) → (∀ (ls : Array Slot), lv_has ls 6 [(0, .ref (a 0)), (1, .int x1), (2, .int x2), (3, .int x3), (4, .int s0.1), (5, .int s0.2)] → W p l e (headSpec wsX6_versionOf rX6_versionOf).room s m args below meth c s.heap [] 0 0 QQ (F0 m 7 ls [])) := by
    intro x1 x2 x3 fu s0 r
    have b81 : ∀ (x1 : Int32) (x2 : Int32) (x3 : Int32) (x5 : Int32) (k0 : Int32) (x : (Int32 × Int32) ⊕ (Int32 × Int32)), fX6_versionOf_b81 st x1 x2 x3 x5 k0 = some x → (∀ s', x = .inl s' → (∀ (ls : Array Slot), lv_has ls 6 [(0, .ref (a 0)), (1, .int x1), (2, .int x2), (3, .int x3), (4, .int s'.1), (5, .int s'.2)] → W p l e (headSpec wsX6_versionOf rX6_versionOf).room s m args below meth c s.heap [] 0 0 QQ (F0 m 7 ls []))) → (∀ r, x = .inr r → (∀ (ls : Array Slot), lv_has ls 6 [(0, .ref (a 0)), (1, .int x1), (2, .int x2), (3, .int x3), (4, .int r.1), (5, .int r.2)] → W p l e (headSpec wsX6_versionOf rX6_versionOf).room s m args below meth c s.heap [] 0 0 QQ (F0 m 89 ls []))) → (∀ (ls : Array Slot), lv_has ls 6 [(0, .ref (a 0)), (1, .int x1), (2, .int x2), (3, .int x3), (5, .int x5)] → W p l e (headSpec wsX6_versionOf rX6_versionOf).room s m args below meth c s.heap [] 0 0 QQ (F0 m 81 ls [.int k0])) := by
      intro x1 x2 x3 x5 k0 x hf kc ke
      intro ls hl
      unfold fX6_versionOf_b81 at hf
      refine lv_istore (lv' := [(4, .int k0), (0, .ref (a 0)), (1, .int x1), (2, .int x2), (3, .int x3), (5, .int x5)]) hx hb dX6_versionOf_81 hl (by decide) rfl (fun ls hl => ?_)
      refine lv_iinc (v := (x5 + (1 : Int32))) (lv' := [(5, .int (x5 + (1 : Int32))), (4, .int k0), (0, .ref (a 0)), (1, .int x1), (2, .int x2), (3, .int x3)]) hx hb dX6_versionOf_83 hl (k := 5) rfl rfl (by decide) rfl (fun ls hl => ?_)
      refine lv_goto (tgt := 7) hx hb dX6_versionOf_86 (by decide) ?_
      obtain rfl := Option.some.inj hf
      exact kc _ rfl ls (lv_sub hl [2, 3, 4, 5, 1, 0] rfl)
    have b79 : ∀ (x1 : Int32) (x2 : Int32) (x3 : Int32) (x4 : Int32) (x5 : Int32) (x : (Int32 × Int32) ⊕ (Int32 × Int32)), fX6_versionOf_b79 st x1 x2 x3 x4 x5 = some x → (∀ s', x = .inl s' → (∀ (ls : Array Slot), lv_has ls 6 [(0, .ref (a 0)), (1, .int x1), (2, .int x2), (3, .int x3), (4, .int s'.1), (5, .int s'.2)] → W p l e (headSpec wsX6_versionOf rX6_versionOf).room s m args below meth c s.heap [] 0 0 QQ (F0 m 7 ls []))) → (∀ r, x = .inr r → (∀ (ls : Array Slot), lv_has ls 6 [(0, .ref (a 0)), (1, .int x1), (2, .int x2), (3, .int x3), (4, .int r.1), (5, .int r.2)] → W p l e (headSpec wsX6_versionOf rX6_versionOf).room s m args below meth c s.heap [] 0 0 QQ (F0 m 89 ls []))) → (∀ (ls : Array Slot), lv_has ls 6 [(0, .ref (a 0)), (1, .int x1), (2, .int x2), (3, .int x3), (4, .int x4), (5, .int x5)] → W p l e (headSpec wsX6_versionOf rX6_versionOf).room s m args below meth c s.heap [] 0 0 QQ (F0 m 79 ls [])) := by
      intro x1 x2 x3 x4 x5 x hf kc ke
      intro ls hl
      unfold fX6_versionOf_b79 at hf
      refine lv_iload hx hb dX6_versionOf_79 (lv_at hl 4 rfl) ?_
      exact b81 x1 x2 x3 x5 x4 _ hf kc ke ls (lv_sub hl [0, 1, 2, 3, 5] rfl)
    have b74 : ∀ (x1 : Int32) (x2 : Int32) (x3 : Int32) (x5 : Int32) (x : (Int32 × Int32) ⊕ (Int32 × Int32)), fX6_versionOf_b74 st x1 x2 x3 x5 = some x → (∀ s', x = .inl s' → (∀ (ls : Array Slot), lv_has ls 6 [(0, .ref (a 0)), (1, .int x1), (2, .int x2), (3, .int x3), (4, .int s'.1), (5, .int s'.2)] → W p l e (headSpec wsX6_versionOf rX6_versionOf).room s m args below meth c s.heap [] 0 0 QQ (F0 m 7 ls []))) → (∀ r, x = .inr r → (∀ (ls : Array Slot), lv_has ls 6 [(0, .ref (a 0)), (1, .int x1), (2, .int x2), (3, .int x3), (4, .int r.1), (5, .int r.2)] → W p l e (headSpec wsX6_versionOf rX6_versionOf).room s m args below meth c s.heap [] 0 0 QQ (F0 m 89 ls []))) → (∀ (ls : Array Slot), lv_has ls 6 [(0, .ref (a 0)), (1, .int x1), (2, .int x2), (3, .int x3), (5, .int x5)] → W p l e (headSpec wsX6_versionOf rX6_versionOf).room s m args below meth c s.heap [] 0 0 QQ (F0 m 74 ls [])) := by
      intro x1 x2 x3 x5 x hf kc ke
      intro ls hl
      unfold fX6_versionOf_b74 at hf
      refine lv_iload hx hb dX6_versionOf_74 (lv_at hl 4 rfl) ?_
      refine lv_goto (tgt := 81) hx hb dX6_versionOf_76 (by decide) ?_
      exact b81 x1 x2 x3 x5 x5 _ hf kc ke ls (lv_sub hl [0, 1, 2, 3, 4] rfl)
    have b28 : ∀ (x1 : Int32) (x2 : Int32) (x3 : Int32) (x4 : Int32) (x5 : Int32) (x : (Int32 × Int32) ⊕ (Int32 × Int32)), fX6_versionOf_b28 st x1 x2 x3 x4 x5 = some x → (∀ s', x = .inl s' → (∀ (ls : Array Slot), lv_has ls 6 [(0, .ref (a 0)), (1, .int x1), (2, .int x2), (3, .int x3), (4, .int s'.1), (5, .int s'.2)] → W p l e (headSpec wsX6_versionOf rX6_versionOf).room s m args below meth c s.heap [] 0 0 QQ (F0 m 7 ls []))) → (∀ r, x = .inr r → (∀ (ls : Array Slot), lv_has ls 6 [(0, .ref (a 0)), (1, .int x1), (2, .int x2), (3, .int x3), (4, .int r.1), (5, .int r.2)] → W p l e (headSpec wsX6_versionOf rX6_versionOf).room s m args below meth c s.heap [] 0 0 QQ (F0 m 89 ls []))) → (∀ (ls : Array Slot), lv_has ls 6 [(0, .ref (a 0)), (1, .int x1), (2, .int x2), (3, .int x3), (4, .int x4), (5, .int x5)] → W p l e (headSpec wsX6_versionOf rX6_versionOf).room s m args below meth c s.heap [] 0 0 QQ (F0 m 28 ls [])) := by
      intro x1 x2 x3 x4 x5 x hf kc ke
      intro ls hl
      unfold fX6_versionOf_b28 at hf
      refine lv_aload_n hx hb dX6_versionOf_28 rfl (lv_at hl 0 rfl) ?_
      refine va_get (D := (dC, dI)) (ci := 6) (v := .ref (a 11)) (C := RX6) (T := TX6) (N := 26) hx hb hts kX6_versionOf_X6 hown hK hP 0 rfl rfl 15 (by decide) (hts _ mX6_versionOf_2) (fun _ h9 => h9) rfl dX6_versionOf_29 ?_
      refine lv_iload hx hb dX6_versionOf_32 (lv_at hl 5 rfl) ?_
      obtain ⟨hi3, hf⟩ := it_s hf
      refine va_iald hx hb hK hP 11 0 rfl rfl (inb_in hi3) dX6_versionOf_34 ?_
      refine lv_iload_n hx hb dX6_versionOf_35 rfl (lv_at hl 1 rfl) ?_
      refine lv_icmp_ne (tgt := 79) hx hb dX6_versionOf_36 (by decide) (fun c4 => ?_) (fun c4 => ?_)
      · replace hf := it_n c4 hf
        exact b79 x1 x2 x3 x4 x5 _ hf kc ke ls (lv_sub hl [0, 1, 2, 3, 4, 5] rfl)
      · replace hf := it_p c4 hf
        refine lv_aload_n hx hb dX6_versionOf_39 rfl (lv_at hl 0 rfl) ?_
        refine va_get (D := (dC, dI)) (ci := 6) (v := .ref (a 12)) (C := RX6) (T := TX6) (N := 26) hx hb hts kX6_versionOf_X6 hown hK hP 0 rfl rfl 16 (by decide) (hts _ mX6_versionOf_3) (fun _ h9 => h9) rfl dX6_versionOf_40 ?_
        refine lv_iload hx hb dX6_versionOf_43 (lv_at hl 5 rfl) ?_
        obtain ⟨hi5, hf⟩ := it_s hf
        refine va_iald hx hb hK hP 12 0 rfl rfl (inb_in hi5) dX6_versionOf_45 ?_
        refine lv_iload_n hx hb dX6_versionOf_46 rfl (lv_at hl 2 rfl) ?_
        refine lv_icmp_gt (tgt := 79) hx hb dX6_versionOf_47 (by decide) (fun c6 => ?_) (fun c6 => ?_)
        · replace hf := it_p c6 hf
          exact b79 x1 x2 x3 x4 x5 _ hf kc ke ls (lv_sub hl [0, 1, 2, 3, 4, 5] rfl)
        · replace hf := it_n c6 hf
          refine lv_iload hx hb dX6_versionOf_50 (lv_at hl 4 rfl) ?_
          refine lv_bipush (v := (-9 : Int32)) hx hb dX6_versionOf_52 (by decide) ?_
          refine lv_icmp_eq (tgt := 74) hx hb dX6_versionOf_54 (by decide) (fun c7 => ?_) (fun c7 => ?_)
          · replace hf := it_p c7 hf
            exact b74 x1 x2 x3 x5 _ hf kc ke ls (lv_sub hl [0, 1, 2, 3, 5] rfl)
          · replace hf := it_n c7 hf
            refine lv_aload_n hx hb dX6_versionOf_57 rfl (lv_at hl 0 rfl) ?_
            refine va_get (D := (dC, dI)) (ci := 6) (v := .ref (a 12)) (C := RX6) (T := TX6) (N := 26) hx hb hts kX6_versionOf_X6 hown hK hP 0 rfl rfl 16 (by decide) (hts _ mX6_versionOf_3) (fun _ h9 => h9) rfl dX6_versionOf_58 ?_
            refine lv_iload hx hb dX6_versionOf_61 (lv_at hl 5 rfl) ?_
            obtain ⟨hi8, hf⟩ := it_s hf
            refine va_iald hx hb hK hP 12 0 rfl rfl (inb_in hi8) dX6_versionOf_63 ?_
            refine lv_aload_n hx hb dX6_versionOf_64 rfl (lv_at hl 0 rfl) ?_
            refine va_get (D := (dC, dI)) (ci := 6) (v := .ref (a 12)) (C := RX6) (T := TX6) (N := 26) hx hb hts kX6_versionOf_X6 hown hK hP 0 rfl rfl 16 (by decide) (hts _ mX6_versionOf_3) (fun _ h9 => h9) rfl dX6_versionOf_65 ?_
            refine lv_iload hx hb dX6_versionOf_68 (lv_at hl 4 rfl) ?_
            obtain ⟨hi9, hf⟩ := it_s hf
            refine va_iald hx hb hK hP 12 0 rfl rfl (inb_in hi9) dX6_versionOf_70 ?_
            refine lv_icmp_lt (tgt := 79) hx hb dX6_versionOf_71 (by decide) (fun c10 => ?_) (fun c10 => ?_)
            · replace hf := it_p c10 hf
              exact b79 x1 x2 x3 x4 x5 _ hf kc ke ls (lv_sub hl [0, 1, 2, 3, 4, 5] rfl)
            · replace hf := it_n c10 hf
              exact b74 x1 x2 x3 x5 _ hf kc ke ls (lv_sub hl [0, 1, 2, 3, 5] rfl)
    refine loop_ind (P := fun s0 => ∀ (ls : Array Slot), lv_has ls 6 [(0, .ref (a 0)), (1, .int x1), (2, .int x2), (3, .int x3), (4, .int s0.1), (5, .int s0.2)] → W p l e (headSpec wsX6_versionOf rX6_versionOf).room s m args below meth c s.heap [] 0 0 QQ (F0 m 7 ls [])) (Q := fun r => ∀ (ls : Array Slot), lv_has ls 6 [(0, .ref (a 0)), (1, .int x1), (2, .int x2), (3, .int x3), (4, .int r.1), (5, .int r.2)] → W p l e (headSpec wsX6_versionOf rX6_versionOf).room s m args below meth c s.heap [] 0 0 QQ (F0 m 89 ls [])) ?_ fu s0 r
    clear fu s0 r
    rintro ⟨x4, x5⟩ x hf kc ke
    replace hf : fX6_versionOf_l7 st x1 x2 x3 x4 x5 = some x := hf
    replace kc : (∀ s', x = .inl s' → (∀ (ls : Array Slot), lv_has ls 6 [(0, .ref (a 0)), (1, .int x1), (2, .int x2), (3, .int x3), (4, .int s'.1), (5, .int s'.2)] → W p l e (headSpec wsX6_versionOf rX6_versionOf).room s m args below meth c s.heap [] 0 0 QQ (F0 m 7 ls []))) := kc
    replace ke : (∀ r, x = .inr r → (∀ (ls : Array Slot), lv_has ls 6 [(0, .ref (a 0)), (1, .int x1), (2, .int x2), (3, .int x3), (4, .int r.1), (5, .int r.2)] → W p l e (headSpec wsX6_versionOf rX6_versionOf).room s m args below meth c s.heap [] 0 0 QQ (F0 m 89 ls []))) := ke
    intro ls hl
    unfold fX6_versionOf_l7 at hf
    refine lv_iload hx hb dX6_versionOf_7 (lv_at hl 5 rfl) ?_
    refine lv_aload_n hx hb dX6_versionOf_9 rfl (lv_at hl 0 rfl) ?_
    refine va_get (D := (dC, dI)) (ci := 6) (v := .int (MS_versions st)) (C := RX6) (T := TX6) (N := 26) hx hb hts kX6_versionOf_X6 hown hK hP 0 rfl rfl 14 (by decide) (hts _ mX6_versionOf_1) (fun _ h9 => h9) rfl dX6_versionOf_10 ?_
    refine lv_icmp_ge (tgt := 89) hx hb dX6_versionOf_13 (by decide) (fun c1 => ?_) (fun c1 => ?_)
    · replace hf := it_p c1 hf
      obtain rfl := Option.some.inj hf
      exact ke _ rfl ls (lv_sub hl [0, 1, 2, 3, 4, 5] rfl)
    · replace hf := it_n c1 hf
      refine lv_iload_n hx hb dX6_versionOf_16 rfl (lv_at hl 3 rfl) ?_
      refine lv_bipush (v := (-9 : Int32)) hx hb dX6_versionOf_17 (by decide) ?_
      refine lv_icmp_eq (tgt := 28) hx hb dX6_versionOf_19 (by decide) (fun c2 => ?_) (fun c2 => ?_)
      · replace hf := it_p c2 hf
        exact b28 x1 x2 x3 x4 x5 _ hf kc ke ls (lv_sub hl [0, 1, 2, 3, 4, 5] rfl)
      · replace hf := it_n c2 hf
        refine lv_iload hx hb dX6_versionOf_22 (lv_at hl 5 rfl) ?_
        refine lv_iload_n hx hb dX6_versionOf_24 rfl (lv_at hl 3 rfl) ?_
        refine lv_icmp_gt (tgt := 89) hx hb dX6_versionOf_25 (by decide) (fun c11 => ?_) (fun c11 => ?_)
        · replace hf := it_p c11 hf
          obtain rfl := Option.some.inj hf
          exact ke _ rfl ls (lv_sub hl [0, 1, 2, 3, 4, 5] rfl)
        · replace hf := it_n c11 hf
          exact b28 x1 x2 x3 x4 x5 _ hf kc ke ls (lv_sub hl [0, 1, 2, 3, 4, 5] rfl)
  unfold fX6_versionOf at hf
  refine lv_bipush (v := (-9 : Int32)) hx hb dX6_versionOf_0 (by decide) ?_
  refine lv_istore (lv' := [(4, .int (-9 : Int32)), (0, .ref (a 0)), (1, .int x1), (2, .int x2), (3, .int x3)]) hx hb dX6_versionOf_2 hl (by decide) rfl (fun ls hl => ?_)
  refine lv_iconst (v := (0 : Int32)) hx hb dX6_versionOf_4 (by decide) ?_
  refine lv_istore (lv' := [(5, .int (0 : Int32)), (4, .int (-9 : Int32)), (0, .ref (a 0)), (1, .int x1), (2, .int x2), (3, .int x3)]) hx hb dX6_versionOf_5 hl (by decide) rfl (fun ls hl => ?_)
  obtain ⟨y12, hlp, hf⟩ := bind_s hf
  refine l7 x1 x2 x3 fuelN ((-9 : Int32), (0 : Int32)) y12 hlp ?_ ls (lv_sub hl [2, 3, 4, 5, 1, 0] rfl)
  intro ls hl
  refine lv_iload hx hb dX6_versionOf_89 (lv_at hl 4 rfl) ?_
  obtain rfl := Option.some.inj hf
  rw [hQ]
  exact W.iret hx hb hr (fun t ht hW => ⟨rfl, ht⟩) (fun q hq => absurd hq List.not_mem_nil) dX6_versionOf_91
def rX6_factorOf : Room := { frames := 1, cells := 0, slots := 0, locals := 25 }
theorem kX6_factorOf_X6 : ∀ w ∈ wsX60, w ∈ wsX6_factorOf := fun w h => (List.mem_cons_of_mem _ (List.mem_append_right _ h))
theorem mX6_factorOf_2 : Cond.fieldLink RX6 50 "SmokeLedgerModel" "low" "[I" ∈ wsX6_factorOf := List.mem_of_getElem? (i := 2) rfl
theorem mX6_factorOf_1 : Cond.fieldLink RX6 53 "SmokeLedgerModel" "high" "[I" ∈ wsX6_factorOf := List.mem_of_getElem? (i := 1) rfl
set_option maxHeartbeats 4000000 in
set_option maxRecDepth 100000 in
theorem ct_X6_factorOf (l : Launch) (dC : Nat → ClassId) (dI : Nat → Nat → Nat) (a b : Nat → Nat) (cI cJ cZ : ClassId) (st : MS) (x1 : Int32) (x2 : Int32) (x3 : Int32) (x4 : Int32) (res : Int32) (hf : fX6_factorOf st x1 x2 x3 x4 = some res) : Met l yX6_factorOf wsX6_factorOf rX6_factorOf (Pp (dC, dI) (tyT cI cJ cZ) (WX6 a b cI cJ cZ st) [.ref (a 0), .int x1, .int x2, .int x3, .int x4]) (Qp (.int res)) 0 0 (fun _ => False) := by
  refine Met.ofW (cc := cX6_factorOf) (maxL := 6) (ret := (some .int)) (by decide) rfl ?_
  intro p e s m args below meth c s₁ B hml hv
  obtain ⟨hargs, hP, hK⟩ := hv
  have hx := B.exec
  have hb := B.bytes
  have hr := B.returns
  have hts := atoms_spec (ws := wsX6_factorOf) B.pre
  have hown : s.vm.findClass RX6 = some m.cls := findClass_of_methodNamed B.named
  have hlocks := B.notSynchronized
  have hP : va_P (dC, dI) vwCl (WX6 a b cI cJ cZ st) s.heap := hP
  have hl := lv_entry ([.ref (a 0), .int x1, .int x2, .int x3, .int x4]) (n := 6) (Nat.le_of_ble_eq_true rfl)
  refine W.eq (hargs ▸ lg_entry_eq m [.ref (a 0), .int x1, .int x2, .int x3, .int x4] 6) ?_
  generalize (lg_sl ([.ref (a 0), .int x1, .int x2, .int x3, .int x4]) ++ List.replicate (6 - (lg_sl ([.ref (a 0), .int x1, .int x2, .int x3, .int x4])).length) Slot.unset).toArray = ls at hl ⊢
  have hl : lv_has ls 6 [(0, .ref (a 0)), (1, .int x1), (2, .int x2), (3, .int x3), (4, .int x4)] := hl
  obtain ⟨QQ, hQ⟩ : ∃ QQ : State → Prop, QQ = MQ below (Qp (.int res)) args s 0 0 (fun _ => False) := ⟨_, rfl⟩
  rw [← hQ]
  unfold fX6_factorOf at hf
  refine lv_aload_n hx hb dX6_factorOf_0 rfl (lv_at hl 0 rfl) ?_
  refine lv_iload_n hx hb dX6_factorOf_1 rfl (lv_at hl 1 rfl) ?_
  refine lv_iload_n hx hb dX6_factorOf_2 rfl (lv_at hl 2 rfl) ?_
  refine lv_iload_n hx hb dX6_factorOf_3 rfl (lv_at hl 3 rfl) ?_
  obtain ⟨r1, hc2, hf⟩ := bind_s hf
  refine cpV (v := .int r1) ⟨hx, hb, hml, hown, hts⟩ (ct_X6_versionOf l dC dI a b cI cJ cZ st x1 x2 x3 r1 hc2) (cwV 3 hts gX6_factorOf_X6_versionOf rfl rfl rfl (by decide +kernel) ⟨(Nat.le_of_ble_eq_true rfl), (Nat.le_of_ble_eq_true rfl)⟩) hK hP [0, 1, 2, 3, 4, 5, 6, 7, 8, 9, 10, 11, 12, 13, 14, 15, 16, 17, 18, 19, 20] rfl rfl rfl rfl hl.1 rfl (Nat.le_of_ble_eq_true rfl) (Nat.le_of_ble_eq_true rfl) (Nat.le_of_ble_eq_true rfl) dX6_factorOf_4 ?_
  refine lv_istore (lv' := [(5, .int r1), (0, .ref (a 0)), (1, .int x1), (2, .int x2), (3, .int x3), (4, .int x4)]) hx hb dX6_factorOf_7 hl (by decide) rfl (fun ls hl => ?_)
  refine lv_iload hx hb dX6_factorOf_9 (lv_at hl 0 rfl) ?_
  refine lv_bipush (v := (-9 : Int32)) hx hb dX6_factorOf_11 (by decide) ?_
  refine lv_icmp_ne (tgt := 21) hx hb dX6_factorOf_13 (by decide) (fun c3 => ?_) (fun c3 => ?_)
  · replace hf := it_n c3 hf
    refine lv_iload hx hb dX6_factorOf_21 (lv_at hl 5 rfl) ?_
    refine lv_if_eq (tgt := 36) hx hb dX6_factorOf_23 (by decide) (fun c4 => ?_) (fun c4 => ?_)
    · replace hf := it_p c4 hf
      refine lv_aload_n hx hb dX6_factorOf_36 rfl (lv_at hl 1 rfl) ?_
      refine va_get (D := (dC, dI)) (ci := 6) (v := .ref (a 13)) (C := RX6) (T := TX6) (N := 26) hx hb hts kX6_factorOf_X6 hown hK hP 0 rfl rfl 17 (by decide) (hts _ mX6_factorOf_2) (fun _ h9 => h9) rfl dX6_factorOf_37 ?_
      refine lv_iload hx hb dX6_factorOf_40 (lv_at hl 0 rfl) ?_
      obtain ⟨hi5, hf⟩ := it_s hf
      refine va_iald hx hb hK hP 13 0 rfl rfl (inb_in hi5) dX6_factorOf_42 ?_
      obtain rfl := Option.some.inj hf
      rw [hQ]
      exact W.iret hx hb hr (fun t ht hW => ⟨rfl, ht⟩) (fun q hq => absurd hq List.not_mem_nil) dX6_factorOf_43
    · replace hf := it_n c4 hf
      refine lv_aload_n hx hb dX6_factorOf_26 rfl (lv_at hl 1 rfl) ?_
      refine va_get (D := (dC, dI)) (ci := 6) (v := .ref (a 14)) (C := RX6) (T := TX6) (N := 26) hx hb hts kX6_factorOf_X6 hown hK hP 0 rfl rfl 18 (by decide) (hts _ mX6_factorOf_1) (fun _ h9 => h9) rfl dX6_factorOf_27 ?_
      refine lv_iload hx hb dX6_factorOf_30 (lv_at hl 0 rfl) ?_
      obtain ⟨hi6, hf⟩ := it_s hf
      refine va_iald hx hb hK hP 14 0 rfl rfl (inb_in hi6) dX6_factorOf_32 ?_
      refine lv_goto (tgt := 43) hx hb dX6_factorOf_33 (by decide) ?_
      obtain rfl := Option.some.inj hf
      rw [hQ]
      exact W.iret hx hb hr (fun t ht hW => ⟨rfl, ht⟩) (fun q hq => absurd hq List.not_mem_nil) dX6_factorOf_43
  · replace hf := it_p c3 hf
    refine lv_bipush (v := (-9 : Int32)) hx hb dX6_factorOf_16 (by decide) ?_
    refine lv_goto (tgt := 43) hx hb dX6_factorOf_18 (by decide) ?_
    obtain rfl := Option.some.inj hf
    rw [hQ]
    exact W.iret hx hb hr (fun t ht hW => ⟨rfl, ht⟩) (fun q hq => absurd hq List.not_mem_nil) dX6_factorOf_43
def rX6_factorAs : Room := { frames := 2, cells := 0, slots := 0, locals := 50 }
theorem kX6_factorAs_X6 : ∀ w ∈ wsX60, w ∈ wsX6_factorAs := fun w h => (List.mem_cons_of_mem _ (List.mem_append_right _ h))
theorem mX6_factorAs_1 : Cond.fieldLink RX6 76 "SmokeLedgerModel" "thrown" "I" ∈ wsX6_factorAs := List.mem_of_getElem? (i := 1) rfl
theorem mX6_factorAs_2 : Cond.constantLong RX6 124 (3) ∈ wsX6_factorAs := List.mem_of_getElem? (i := 2) rfl
set_option maxHeartbeats 4000000 in
set_option maxRecDepth 100000 in
theorem ct_X6_factorAs (l : Launch) (dC : Nat → ClassId) (dI : Nat → Nat → Nat) (a b : Nat → Nat) (cI cJ cZ : ClassId) (sz : Nat) (st : MS) (x1 : Int32) (x2 : Int32) (x3 : Int32) (x4 : Int32) (res : Int32 × MS) (hf : fX6_factorAs st x1 x2 x3 x4 = some res) : Met l yX6_factorAs wsX6_factorAs rX6_factorAs (Pm (dC, dI) (tyT cI cJ cZ) (WX6 a b cI cJ cZ st) sz [.ref (a 0), .int x1, .int x2, .int x3, .int x4]) (Qm (dC, dI) (some (.int res.1)) (WX6 a b cI cJ cZ res.2) (va_A (WX6 a b cI cJ cZ st) sz)) 0 0 (va_A (WX6 a b cI cJ cZ st) sz) := by
  refine Met.ofW (cc := cX6_factorAs) (maxL := 5) (ret := (some .int)) (by decide) rfl ?_
  intro p e s m args below meth c s₁ B hml hv
  obtain ⟨hargs, hsz, hP, hK, hD0⟩ := hv
  have hx := B.exec
  have hb := B.bytes
  have hr := B.returns
  have hts := atoms_spec (ws := wsX6_factorAs) B.pre
  have hown : s.vm.findClass RX6 = some m.cls := findClass_of_methodNamed B.named
  have hlocks := B.notSynchronized
  subst hsz
  have hD := hD0.self (sz := s.heap.size)
  generalize hAe : va_A (WX6 a b cI cJ cZ st) s.heap.size = A at hD ⊢
  have hA : ∀ q : Nat, s.heap.size ≤ q → A q := fun q h => by rw [← hAe]; exact Or.inr h
  have hl := lv_entry ([.ref (a 0), .int x1, .int x2, .int x3, .int x4]) (n := 5) (Nat.le_of_ble_eq_true rfl)
  refine W.eq (hargs ▸ lg_entry_eq m [.ref (a 0), .int x1, .int x2, .int x3, .int x4] 5) ?_
  generalize (lg_sl ([.ref (a 0), .int x1, .int x2, .int x3, .int x4]) ++ List.replicate (5 - (lg_sl ([.ref (a 0), .int x1, .int x2, .int x3, .int x4])).length) Slot.unset).toArray = ls at hl ⊢
  have hl : lv_has ls 5 [(0, .ref (a 0)), (1, .int x1), (2, .int x2), (3, .int x3), (4, .int x4)] := hl
  obtain ⟨QQ, hQ⟩ : ∃ QQ : State → Prop, QQ = MQ below (Qm (dC, dI) (some (.int res.1)) (WX6 a b cI cJ cZ res.2) A) args s 0 0 (A) := ⟨_, rfl⟩
  rw [← hQ]
  have b34 : ∀ (st : MS), fX6_factorAs_b34 st = some res → (∀ (H : Heap) (locs : List Loc) (ls : Array Slot), IN (dC, dI) (WX6 a b cI cJ cZ st) A s.heap H locs → lv_has ls 5 [] → W p l e (headSpec wsX6_factorAs rX6_factorAs).room s m args below meth c H locs 0 0 QQ (F0 m 34 ls [])) := by
    intro st hf
    intro H locs ls hin hl
    obtain ⟨hP, hD, hS⟩ := hin
    unfold fX6_factorAs_b34 at hf
    refine lv_bipush (v := (-2 : Int32)) hx hb dX6_factorAs_34 (by decide) ?_
    refine lv_goto (tgt := 48) hx hb dX6_factorAs_36 (by decide) ?_
    obtain rfl := Option.some.inj hf
    rw [hQ]
    exact W.iret hx hb hr (fun t ht hW => ⟨rfl, ⟨by rw [ht]; exact hP, hD⟩, hS.F ht⟩) hS.2.2 dX6_factorAs_48
  have main : ∀ (H : Heap) (locs : List Loc) (ls : Array Slot), IN (dC, dI) (WX6 a b cI cJ cZ st) A s.heap H locs → lv_has ls 5 [(0, .ref (a 0)), (1, .int x1), (2, .int x2), (3, .int x3), (4, .int x4)] → W p l e (headSpec wsX6_factorAs rX6_factorAs).room s m args below meth c H locs 0 0 QQ (F0 m 0 ls []) := by
    intro H locs ls hin hl
    obtain ⟨hP, hD, hS⟩ := hin
    unfold fX6_factorAs at hf
    refine lv_aload_n hx hb dX6_factorAs_0 rfl (lv_at hl 0 rfl) ?_
    refine lv_iconst (v := (0 : Int32)) hx hb dX6_factorAs_1 (by decide) ?_
    refine va_put (D := (dC, dI)) (ci := 6) (v := .int (0 : Int32)) (ty := .int) (C := RX6) (T := TX6) (N := 26) hx hb hts kX6_factorAs_X6 tyX6 tyX6_ok nmX6 hown hK hP hD hS 0 rfl rfl 0 (by decide) (hts _ mX6_factorAs_1) (fun _ h9 => h9) rfl (by decide +kernel) rfl rfl (Nat.le_of_ble_eq_true rfl) dX6_factorAs_2 (fun H locs hP hD hS => ?_)
    obtain ⟨s1, hs2, hf⟩ := bnd_e hf
    replace hP := putP_thrown hs2 hP
    replace hD := putD_thrown hs2 hD
    refine lv_aload_n hx hb dX6_factorAs_5 rfl (lv_at hl 0 rfl) ?_
    refine lv_iload_n hx hb dX6_factorAs_6 rfl (lv_at hl 3 rfl) ?_
    obtain ⟨r3, hc4, hf⟩ := bind_s hf
    refine cpV (v := .int r3) ⟨hx, hb, hml, hown, hts⟩ (ct_X6_noAs l dC dI a b cI cJ cZ s1 x3 r3 hc4) (cwV 1 hts gX6_factorAs_X6_noAs rfl rfl rfl (by decide +kernel) ⟨(Nat.le_of_ble_eq_true rfl), (Nat.le_of_ble_eq_true rfl)⟩) hK hP [0, 1, 2, 3, 4, 5, 6, 7, 8, 9, 10, 11, 12, 13, 14, 15, 16, 17, 18, 19, 20] rfl rfl rfl rfl hl.1 rfl (Nat.le_of_ble_eq_true rfl) (Nat.le_of_ble_eq_true rfl) (Nat.le_of_ble_eq_true rfl) dX6_factorAs_7 ?_
    refine lv_if_eq (tgt := 15) hx hb dX6_factorAs_10 (by decide) (fun c5 => ?_) (fun c5 => ?_)
    · replace hf := it_p c5 hf
      refine lv_iload_n hx hb dX6_factorAs_15 rfl (lv_at hl 1 rfl) ?_
      refine lv_i2l hx hb dX6_factorAs_16 rfl ?_
      refine lv_lconst (v := (0 : Int64)) hx hb dX6_factorAs_17 (by decide) ?_
      refine lv_ldc2 (v := (3 : Int64)) hx hb hown (hts _ mX6_factorAs_2) dX6_factorAs_18 ?_
      obtain ⟨r6, hc7, hf⟩ := bind_s hf
      refine cpS (v := .int r6) ⟨hx, hb, hml, hown, hts⟩ (ct_X6_in l dC dI cI cJ cZ (Int32.toInt64 x1) (0 : Int64) (3 : Int64) r6 hc7) (va_cwS 3 hts gX6_factorAs_X6_in rfl rfl rfl (by decide +kernel) ⟨(Nat.le_of_ble_eq_true rfl), (Nat.le_of_ble_eq_true rfl)⟩) hK hP [] rfl rfl hl.1 rfl (Nat.le_of_ble_eq_true rfl) (Nat.le_of_ble_eq_true rfl) (Nat.le_of_ble_eq_true rfl) dX6_factorAs_21 ?_
      refine lv_if_eq (tgt := 34) hx hb dX6_factorAs_24 (by decide) (fun c8 => ?_) (fun c8 => ?_)
      · replace hf := it_p c8 hf
        exact b34 s1 hf H locs ls ⟨hP, hD, hS⟩ (lv_sub hl [] rfl)
      · replace hf := it_n c8 hf
        refine lv_iload_n hx hb dX6_factorAs_27 rfl (lv_at hl 2 rfl) ?_
        obtain ⟨r9, hc10, hf⟩ := bind_s hf
        refine cpS (v := .int r9) ⟨hx, hb, hml, hown, hts⟩ (ct_X6_noYear l dC dI cI cJ cZ x2 r9 hc10) (va_cwS 1 hts gX6_factorAs_X6_noYear rfl rfl rfl (by decide +kernel) ⟨(Nat.le_of_ble_eq_true rfl), (Nat.le_of_ble_eq_true rfl)⟩) hK hP [] rfl rfl hl.1 rfl (Nat.le_of_ble_eq_true rfl) (Nat.le_of_ble_eq_true rfl) (Nat.le_of_ble_eq_true rfl) dX6_factorAs_28 ?_
        refine lv_if_eq (tgt := 39) hx hb dX6_factorAs_31 (by decide) (fun c11 => ?_) (fun c11 => ?_)
        · replace hf := it_p c11 hf
          refine lv_aload_n hx hb dX6_factorAs_39 rfl (lv_at hl 0 rfl) ?_
          refine lv_iload_n hx hb dX6_factorAs_40 rfl (lv_at hl 1 rfl) ?_
          refine lv_iload_n hx hb dX6_factorAs_41 rfl (lv_at hl 2 rfl) ?_
          refine lv_iload_n hx hb dX6_factorAs_42 rfl (lv_at hl 3 rfl) ?_
          refine lv_iload hx hb dX6_factorAs_43 (lv_at hl 4 rfl) ?_
          obtain ⟨r12, hc13, hf⟩ := bind_s hf
          refine cpV (v := .int r12) ⟨hx, hb, hml, hown, hts⟩ (ct_X6_factorOf l dC dI a b cI cJ cZ s1 x1 x2 x3 x4 r12 hc13) (cwV 4 hts gX6_factorAs_X6_factorOf rfl rfl rfl (by decide +kernel) ⟨(Nat.le_of_ble_eq_true rfl), (Nat.le_of_ble_eq_true rfl)⟩) hK hP [0, 1, 2, 3, 4, 5, 6, 7, 8, 9, 10, 11, 12, 13, 14, 15, 16, 17, 18, 19, 20] rfl rfl rfl rfl hl.1 rfl (Nat.le_of_ble_eq_true rfl) (Nat.le_of_ble_eq_true rfl) (Nat.le_of_ble_eq_true rfl) dX6_factorAs_45 ?_
          obtain rfl := Option.some.inj hf
          rw [hQ]
          exact W.iret hx hb hr (fun t ht hW => ⟨rfl, ⟨by rw [ht]; exact hP, hD⟩, hS.F ht⟩) hS.2.2 dX6_factorAs_48
        · replace hf := it_n c11 hf
          exact b34 s1 hf H locs ls ⟨hP, hD, hS⟩ (lv_sub hl [] rfl)
    · replace hf := it_n c5 hf
      refine lv_iconst (v := (-1 : Int32)) hx hb dX6_factorAs_13 (by decide) ?_
      obtain rfl := Option.some.inj hf
      rw [hQ]
      exact W.iret hx hb hr (fun t ht hW => ⟨rfl, ⟨by rw [ht]; exact hP, hD⟩, hS.F ht⟩) hS.2.2 dX6_factorAs_14
  exact main s.heap [] ls ⟨hP, hD, va_S.rf⟩ hl
def rX6_tonsOf : Room := { frames := 2, cells := 0, slots := 0, locals := 50 }
theorem kX6_tonsOf_X6 : ∀ w ∈ wsX60, w ∈ wsX6_tonsOf := fun w h => (List.mem_cons_of_mem _ (List.mem_append_right _ h))
theorem mX6_tonsOf_1 : Cond.fieldLink RX6 29 "SmokeLedgerModel" "kind" "[I" ∈ wsX6_tonsOf := List.mem_of_getElem? (i := 1) rfl
theorem mX6_tonsOf_2 : Cond.fieldLink RX6 35 "SmokeLedgerModel" "day" "[I" ∈ wsX6_tonsOf := List.mem_of_getElem? (i := 2) rfl
theorem mX6_tonsOf_3 : Cond.fieldLink RX6 32 "SmokeLedgerModel" "amount" "[I" ∈ wsX6_tonsOf := List.mem_of_getElem? (i := 3) rfl
theorem mX6_tonsOf_5 : Cond.constantLong RX6 148 (-9) ∈ wsX6_tonsOf := List.mem_of_getElem? (i := 5) rfl
theorem mX6_tonsOf_4 : Cond.fieldLink RX6 41 "SmokeLedgerModel" "covered" "[I" ∈ wsX6_tonsOf := List.mem_of_getElem? (i := 4) rfl
set_option maxHeartbeats 4000000 in
set_option maxRecDepth 100000 in
theorem ct_X6_tonsOf (l : Launch) (dC : Nat → ClassId) (dI : Nat → Nat → Nat) (a b : Nat → Nat) (cI cJ cZ : ClassId) (st : MS) (x1 : Int32) (x2 : Int32) (x3 : Int32) (x4 : Int32) (res : Int64) (hf : fX6_tonsOf st x1 x2 x3 x4 = some res) : Met l yX6_tonsOf wsX6_tonsOf rX6_tonsOf (Pp (dC, dI) (tyT cI cJ cZ) (WX6 a b cI cJ cZ st) [.ref (a 0), .int x1, .int x2, .int x3, .int x4]) (Qp (.long res)) 0 0 (fun _ => False) := by
  refine Met.ofW (cc := cX6_tonsOf) (maxL := 7) (ret := (some .long)) (by decide) rfl ?_
  intro p e s m args below meth c s₁ B hml hv
  obtain ⟨hargs, hP, hK⟩ := hv
  have hx := B.exec
  have hb := B.bytes
  have hr := B.returns
  have hts := atoms_spec (ws := wsX6_tonsOf) B.pre
  have hown : s.vm.findClass RX6 = some m.cls := findClass_of_methodNamed B.named
  have hlocks := B.notSynchronized
  have hP : va_P (dC, dI) vwCl (WX6 a b cI cJ cZ st) s.heap := hP
  have hl := lv_entry ([.ref (a 0), .int x1, .int x2, .int x3, .int x4]) (n := 7) (Nat.le_of_ble_eq_true rfl)
  refine W.eq (hargs ▸ lg_entry_eq m [.ref (a 0), .int x1, .int x2, .int x3, .int x4] 7) ?_
  generalize (lg_sl ([.ref (a 0), .int x1, .int x2, .int x3, .int x4]) ++ List.replicate (7 - (lg_sl ([.ref (a 0), .int x1, .int x2, .int x3, .int x4])).length) Slot.unset).toArray = ls at hl ⊢
  have hl : lv_has ls 7 [(0, .ref (a 0)), (1, .int x1), (2, .int x2), (3, .int x3), (4, .int x4)] := hl
  obtain ⟨QQ, hQ⟩ : ∃ QQ : State → Prop, QQ = MQ below (Qp (.long res)) args s 0 0 (fun _ => False) := ⟨_, rfl⟩
  rw [← hQ]
  have b55 : ∀ (x5 : Int32) (k0 : Int32) (k1 : Int32), fX6_tonsOf_b55 st x5 k0 k1 = some res → (∀ (ls : Array Slot), lv_has ls 7 [(5, .int x5)] → W p l e (headSpec wsX6_tonsOf rX6_tonsOf).room s m args below meth c s.heap [] 0 0 QQ (F0 m 55 ls [.int k1, .int k0])) := by
    intro x5 k0 k1 hf
    intro ls hl
    unfold fX6_tonsOf_b55 at hf
    refine lv_isub hx hb dX6_tonsOf_55 ?_
    refine lv_istore (lv' := [(6, .int (k0 - k1)), (5, .int x5)]) hx hb dX6_tonsOf_56 hl (by decide) rfl (fun ls hl => ?_)
    refine lv_iload hx hb dX6_tonsOf_58 (lv_at hl 1 rfl) ?_
    refine lv_bipush (v := (-9 : Int32)) hx hb dX6_tonsOf_60 (by decide) ?_
    refine lv_icmp_ne (tgt := 71) hx hb dX6_tonsOf_62 (by decide) (fun c7 => ?_) (fun c7 => ?_)
    · replace hf := it_n c7 hf
      refine lv_iload hx hb dX6_tonsOf_71 (lv_at hl 0 rfl) ?_
      refine lv_i2l hx hb dX6_tonsOf_73 rfl ?_
      refine lv_iload hx hb dX6_tonsOf_74 (lv_at hl 1 rfl) ?_
      refine lv_i2l hx hb dX6_tonsOf_76 rfl ?_
      refine lv_lmul hx hb dX6_tonsOf_77 ?_
      obtain rfl := Option.some.inj hf
      rw [hQ]
      exact W.lret hx hb hr (fun t ht hW => ⟨rfl, ht⟩) (fun q hq => absurd hq List.not_mem_nil) dX6_tonsOf_78
    · replace hf := it_p c7 hf
      refine lv_ldc2 (v := (-9 : Int64)) hx hb hown (hts _ mX6_tonsOf_5) dX6_tonsOf_65 ?_
      refine lv_goto (tgt := 78) hx hb dX6_tonsOf_68 (by decide) ?_
      obtain rfl := Option.some.inj hf
      rw [hQ]
      exact W.lret hx hb hr (fun t ht hW => ⟨rfl, ht⟩) (fun q hq => absurd hq List.not_mem_nil) dX6_tonsOf_78
  have b54 : ∀ (x5 : Int32) (k0 : Int32), fX6_tonsOf_b54 st x5 k0 = some res → (∀ (ls : Array Slot), lv_has ls 7 [(5, .int x5)] → W p l e (headSpec wsX6_tonsOf rX6_tonsOf).room s m args below meth c s.heap [] 0 0 QQ (F0 m 54 ls [.int k0])) := by
    intro x5 k0 hf
    intro ls hl
    unfold fX6_tonsOf_b54 at hf
    refine lv_iconst (v := (0 : Int32)) hx hb dX6_tonsOf_54 (by decide) ?_
    exact b55 x5 k0 (0 : Int32) hf ls (lv_sub hl [0] rfl)
  unfold fX6_tonsOf at hf
  refine lv_aload_n hx hb dX6_tonsOf_0 rfl (lv_at hl 0 rfl) ?_
  refine lv_aload_n hx hb dX6_tonsOf_1 rfl (lv_at hl 0 rfl) ?_
  refine va_get (D := (dC, dI)) (ci := 6) (v := .ref (a 6)) (C := RX6) (T := TX6) (N := 26) hx hb hts kX6_tonsOf_X6 hown hK hP 0 rfl rfl 9 (by decide) (hts _ mX6_tonsOf_1) (fun _ h9 => h9) rfl dX6_tonsOf_2 ?_
  refine lv_iload_n hx hb dX6_tonsOf_5 rfl (lv_at hl 1 rfl) ?_
  obtain ⟨hi1, hf⟩ := it_s hf
  refine va_iald hx hb hK hP 6 0 rfl rfl (inb_in hi1) dX6_tonsOf_6 ?_
  refine lv_aload_n hx hb dX6_tonsOf_7 rfl (lv_at hl 0 rfl) ?_
  refine va_get (D := (dC, dI)) (ci := 6) (v := .ref (a 8)) (C := RX6) (T := TX6) (N := 26) hx hb hts kX6_tonsOf_X6 hown hK hP 0 rfl rfl 11 (by decide) (hts _ mX6_tonsOf_2) (fun _ h9 => h9) rfl dX6_tonsOf_8 ?_
  refine lv_iload_n hx hb dX6_tonsOf_11 rfl (lv_at hl 1 rfl) ?_
  obtain ⟨hi2, hf⟩ := it_s hf
  refine va_iald hx hb hK hP 8 0 rfl rfl (inb_in hi2) dX6_tonsOf_12 ?_
  refine lv_sipush (v := (365 : Int32)) hx hb dX6_tonsOf_13 (by decide) ?_
  refine lv_idiv hx hb dX6_tonsOf_16 (by decide) ?_
  refine lv_iload_n hx hb dX6_tonsOf_17 rfl (lv_at hl 2 rfl) ?_
  refine lv_iload hx hb dX6_tonsOf_18 (lv_at hl 4 rfl) ?_
  obtain ⟨r3, hc4, hf⟩ := bind_s hf
  refine cpV (v := .int r3) ⟨hx, hb, hml, hown, hts⟩ (ct_X6_factorOf l dC dI a b cI cJ cZ st ((MS_kind st) (x1).toNatClampNeg) (((MS_day st) (x1).toNatClampNeg) / (365 : Int32)) x2 x4 r3 hc4) (cwV 4 hts gX6_tonsOf_X6_factorOf rfl rfl rfl (by decide +kernel) ⟨(Nat.le_of_ble_eq_true rfl), (Nat.le_of_ble_eq_true rfl)⟩) hK hP [0, 1, 2, 3, 4, 5, 6, 7, 8, 9, 10, 11, 12, 13, 14, 15, 16, 17, 18, 19, 20] rfl rfl rfl rfl hl.1 rfl (Nat.le_of_ble_eq_true rfl) (Nat.le_of_ble_eq_true rfl) (Nat.le_of_ble_eq_true rfl) dX6_tonsOf_20 ?_
  refine lv_istore (lv' := [(5, .int r3), (0, .ref (a 0)), (1, .int x1), (2, .int x2), (3, .int x3), (4, .int x4)]) hx hb dX6_tonsOf_23 hl (by decide) rfl (fun ls hl => ?_)
  refine lv_aload_n hx hb dX6_tonsOf_25 rfl (lv_at hl 1 rfl) ?_
  refine va_get (D := (dC, dI)) (ci := 6) (v := .ref (a 7)) (C := RX6) (T := TX6) (N := 26) hx hb hts kX6_tonsOf_X6 hown hK hP 0 rfl rfl 10 (by decide) (hts _ mX6_tonsOf_3) (fun _ h9 => h9) rfl dX6_tonsOf_26 ?_
  refine lv_iload_n hx hb dX6_tonsOf_29 rfl (lv_at hl 2 rfl) ?_
  obtain ⟨hi5, hf⟩ := it_s hf
  refine va_iald hx hb hK hP 7 0 rfl rfl (inb_in hi5) dX6_tonsOf_30 ?_
  refine lv_iload_n hx hb dX6_tonsOf_31 rfl (lv_at hl 4 rfl) ?_
  refine lv_if_eq (tgt := 54) hx hb dX6_tonsOf_32 (by decide) (fun c6 => ?_) (fun c6 => ?_)
  · replace hf := it_p c6 hf
    exact b54 r3 ((MS_amount st) (x1).toNatClampNeg) hf ls (lv_sub hl [0] rfl)
  · replace hf := it_n c6 hf
    refine lv_aload_n hx hb dX6_tonsOf_35 rfl (lv_at hl 1 rfl) ?_
    refine va_get (D := (dC, dI)) (ci := 6) (v := .ref (a 6)) (C := RX6) (T := TX6) (N := 26) hx hb hts kX6_tonsOf_X6 hown hK hP 0 rfl rfl 9 (by decide) (hts _ mX6_tonsOf_1) (fun _ h9 => h9) rfl dX6_tonsOf_36 ?_
    refine lv_iload_n hx hb dX6_tonsOf_39 rfl (lv_at hl 2 rfl) ?_
    obtain ⟨hi8, hf⟩ := it_s hf
    refine va_iald hx hb hK hP 6 0 rfl rfl (inb_in hi8) dX6_tonsOf_40 ?_
    refine lv_iconst (v := (1 : Int32)) hx hb dX6_tonsOf_41 (by decide) ?_
    refine lv_icmp_ne (tgt := 54) hx hb dX6_tonsOf_42 (by decide) (fun c9 => ?_) (fun c9 => ?_)
    · replace hf := it_n c9 hf
      exact b54 r3 ((MS_amount st) (x1).toNatClampNeg) hf ls (lv_sub hl [0] rfl)
    · replace hf := it_p c9 hf
      refine lv_aload_n hx hb dX6_tonsOf_45 rfl (lv_at hl 1 rfl) ?_
      refine va_get (D := (dC, dI)) (ci := 6) (v := .ref (a 10)) (C := RX6) (T := TX6) (N := 26) hx hb hts kX6_tonsOf_X6 hown hK hP 0 rfl rfl 13 (by decide) (hts _ mX6_tonsOf_4) (fun _ h9 => h9) rfl dX6_tonsOf_46 ?_
      refine lv_iload_n hx hb dX6_tonsOf_49 rfl (lv_at hl 2 rfl) ?_
      obtain ⟨hi10, hf⟩ := it_s hf
      refine va_iald hx hb hK hP 10 0 rfl rfl (inb_in hi10) dX6_tonsOf_50 ?_
      refine lv_goto (tgt := 55) hx hb dX6_tonsOf_51 (by decide) ?_
      exact b55 r3 ((MS_amount st) (x1).toNatClampNeg) ((MS_covered st) (x1).toNatClampNeg) hf ls (lv_sub hl [0] rfl)
def rX6_tons : Room := { frames := 3, cells := 0, slots := 0, locals := 76 }
theorem kX6_tons_X6 : ∀ w ∈ wsX60, w ∈ wsX6_tons := fun w h => (List.mem_cons_of_mem _ (List.mem_append_right _ h))
theorem mX6_tons_1 : Cond.fieldLink RX6 76 "SmokeLedgerModel" "thrown" "I" ∈ wsX6_tons := List.mem_of_getElem? (i := 1) rfl
theorem mX6_tons_2 : Cond.constantLong RX6 117 (-1) ∈ wsX6_tons := List.mem_of_getElem? (i := 2) rfl
set_option maxHeartbeats 4000000 in
set_option maxRecDepth 100000 in
theorem ct_X6_tons (l : Launch) (dC : Nat → ClassId) (dI : Nat → Nat → Nat) (a b : Nat → Nat) (cI cJ cZ : ClassId) (sz : Nat) (st : MS) (x1 : Int32) (x2 : Int32) (x3 : Int32) (x4 : Int32) (res : Int64 × MS) (hf : fX6_tons st x1 x2 x3 x4 = some res) : Met l yX6_tons wsX6_tons rX6_tons (Pm (dC, dI) (tyT cI cJ cZ) (WX6 a b cI cJ cZ st) sz [.ref (a 0), .int x1, .int x2, .int x3, .int x4]) (Qm (dC, dI) (some (.long res.1)) (WX6 a b cI cJ cZ res.2) (va_A (WX6 a b cI cJ cZ st) sz)) 0 0 (va_A (WX6 a b cI cJ cZ st) sz) := by
  refine Met.ofW (cc := cX6_tons) (maxL := 5) (ret := (some .long)) (by decide) rfl ?_
  intro p e s m args below meth c s₁ B hml hv
  obtain ⟨hargs, hsz, hP, hK, hD0⟩ := hv
  have hx := B.exec
  have hb := B.bytes
  have hr := B.returns
  have hts := atoms_spec (ws := wsX6_tons) B.pre
  have hown : s.vm.findClass RX6 = some m.cls := findClass_of_methodNamed B.named
  have hlocks := B.notSynchronized
  subst hsz
  have hD := hD0.self (sz := s.heap.size)
  generalize hAe : va_A (WX6 a b cI cJ cZ st) s.heap.size = A at hD ⊢
  have hA : ∀ q : Nat, s.heap.size ≤ q → A q := fun q h => by rw [← hAe]; exact Or.inr h
  have hl := lv_entry ([.ref (a 0), .int x1, .int x2, .int x3, .int x4]) (n := 5) (Nat.le_of_ble_eq_true rfl)
  refine W.eq (hargs ▸ lg_entry_eq m [.ref (a 0), .int x1, .int x2, .int x3, .int x4] 5) ?_
  generalize (lg_sl ([.ref (a 0), .int x1, .int x2, .int x3, .int x4]) ++ List.replicate (5 - (lg_sl ([.ref (a 0), .int x1, .int x2, .int x3, .int x4])).length) Slot.unset).toArray = ls at hl ⊢
  have hl : lv_has ls 5 [(0, .ref (a 0)), (1, .int x1), (2, .int x2), (3, .int x3), (4, .int x4)] := hl
  obtain ⟨QQ, hQ⟩ : ∃ QQ : State → Prop, QQ = MQ below (Qm (dC, dI) (some (.long res.1)) (WX6 a b cI cJ cZ res.2) A) args s 0 0 (A) := ⟨_, rfl⟩
  rw [← hQ]
  have b21 : ∀ (st : MS), fX6_tons_b21 st = some res → (∀ (H : Heap) (locs : List Loc) (ls : Array Slot), IN (dC, dI) (WX6 a b cI cJ cZ st) A s.heap H locs → lv_has ls 5 [] → W p l e (headSpec wsX6_tons rX6_tons).room s m args below meth c H locs 0 0 QQ (F0 m 21 ls [])) := by
    intro st hf
    intro H locs ls hin hl
    obtain ⟨hP, hD, hS⟩ := hin
    unfold fX6_tons_b21 at hf
    refine lv_ldc2 (v := (-1 : Int64)) hx hb hown (hts _ mX6_tons_2) dX6_tons_21 ?_
    refine lv_goto (tgt := 36) hx hb dX6_tons_24 (by decide) ?_
    obtain rfl := Option.some.inj hf
    rw [hQ]
    exact W.lret hx hb hr (fun t ht hW => ⟨rfl, ⟨by rw [ht]; exact hP, hD⟩, hS.F ht⟩) hS.2.2 dX6_tons_36
  have main : ∀ (H : Heap) (locs : List Loc) (ls : Array Slot), IN (dC, dI) (WX6 a b cI cJ cZ st) A s.heap H locs → lv_has ls 5 [(0, .ref (a 0)), (1, .int x1), (2, .int x2), (3, .int x3), (4, .int x4)] → W p l e (headSpec wsX6_tons rX6_tons).room s m args below meth c H locs 0 0 QQ (F0 m 0 ls []) := by
    intro H locs ls hin hl
    obtain ⟨hP, hD, hS⟩ := hin
    unfold fX6_tons at hf
    refine lv_aload_n hx hb dX6_tons_0 rfl (lv_at hl 0 rfl) ?_
    refine lv_iconst (v := (0 : Int32)) hx hb dX6_tons_1 (by decide) ?_
    refine va_put (D := (dC, dI)) (ci := 6) (v := .int (0 : Int32)) (ty := .int) (C := RX6) (T := TX6) (N := 26) hx hb hts kX6_tons_X6 tyX6 tyX6_ok nmX6 hown hK hP hD hS 0 rfl rfl 0 (by decide) (hts _ mX6_tons_1) (fun _ h9 => h9) rfl (by decide +kernel) rfl rfl (Nat.le_of_ble_eq_true rfl) dX6_tons_2 (fun H locs hP hD hS => ?_)
    obtain ⟨s1, hs2, hf⟩ := bnd_e hf
    replace hP := putP_thrown hs2 hP
    replace hD := putD_thrown hs2 hD
    refine lv_aload_n hx hb dX6_tons_5 rfl (lv_at hl 0 rfl) ?_
    refine lv_iload_n hx hb dX6_tons_6 rfl (lv_at hl 1 rfl) ?_
    obtain ⟨r3, hc4, hf⟩ := bind_s hf
    refine cpV (v := .int r3) ⟨hx, hb, hml, hown, hts⟩ (ct_X6_noRow l dC dI a b cI cJ cZ s1 x1 r3 hc4) (cwV 1 hts gX6_tons_X6_noRow rfl rfl rfl (by decide +kernel) ⟨(Nat.le_of_ble_eq_true rfl), (Nat.le_of_ble_eq_true rfl)⟩) hK hP [0, 1, 2, 3, 4, 5, 6, 7, 8, 9, 10, 11, 12, 13, 14, 15, 16, 17, 18, 19, 20] rfl rfl rfl rfl hl.1 rfl (Nat.le_of_ble_eq_true rfl) (Nat.le_of_ble_eq_true rfl) (Nat.le_of_ble_eq_true rfl) dX6_tons_7 ?_
    refine lv_if_ne (tgt := 21) hx hb dX6_tons_10 (by decide) (fun c5 => ?_) (fun c5 => ?_)
    · replace hf := it_n c5 hf
      exact b21 s1 hf H locs ls ⟨hP, hD, hS⟩ (lv_sub hl [] rfl)
    · replace hf := it_p c5 hf
      refine lv_aload_n hx hb dX6_tons_13 rfl (lv_at hl 0 rfl) ?_
      refine lv_iload_n hx hb dX6_tons_14 rfl (lv_at hl 2 rfl) ?_
      obtain ⟨r6, hc7, hf⟩ := bind_s hf
      refine cpV (v := .int r6) ⟨hx, hb, hml, hown, hts⟩ (ct_X6_noAs l dC dI a b cI cJ cZ s1 x2 r6 hc7) (cwV 1 hts gX6_tons_X6_noAs rfl rfl rfl (by decide +kernel) ⟨(Nat.le_of_ble_eq_true rfl), (Nat.le_of_ble_eq_true rfl)⟩) hK hP [0, 1, 2, 3, 4, 5, 6, 7, 8, 9, 10, 11, 12, 13, 14, 15, 16, 17, 18, 19, 20] rfl rfl rfl rfl hl.1 rfl (Nat.le_of_ble_eq_true rfl) (Nat.le_of_ble_eq_true rfl) (Nat.le_of_ble_eq_true rfl) dX6_tons_15 ?_
      refine lv_if_eq (tgt := 27) hx hb dX6_tons_18 (by decide) (fun c8 => ?_) (fun c8 => ?_)
      · replace hf := it_p c8 hf
        refine lv_aload_n hx hb dX6_tons_27 rfl (lv_at hl 0 rfl) ?_
        refine lv_iload_n hx hb dX6_tons_28 rfl (lv_at hl 1 rfl) ?_
        refine lv_iload_n hx hb dX6_tons_29 rfl (lv_at hl 2 rfl) ?_
        refine lv_iload_n hx hb dX6_tons_30 rfl (lv_at hl 3 rfl) ?_
        refine lv_iload hx hb dX6_tons_31 (lv_at hl 4 rfl) ?_
        obtain ⟨r9, hc10, hf⟩ := bind_s hf
        refine cpV (v := .long r9) ⟨hx, hb, hml, hown, hts⟩ (ct_X6_tonsOf l dC dI a b cI cJ cZ s1 x1 x2 x3 x4 r9 hc10) (cwV 4 hts gX6_tons_X6_tonsOf rfl rfl rfl (by decide +kernel) ⟨(Nat.le_of_ble_eq_true rfl), (Nat.le_of_ble_eq_true rfl)⟩) hK hP [0, 1, 2, 3, 4, 5, 6, 7, 8, 9, 10, 11, 12, 13, 14, 15, 16, 17, 18, 19, 20] rfl rfl rfl rfl hl.1 rfl (Nat.le_of_ble_eq_true rfl) (Nat.le_of_ble_eq_true rfl) (Nat.le_of_ble_eq_true rfl) dX6_tons_33 ?_
        obtain rfl := Option.some.inj hf
        rw [hQ]
        exact W.lret hx hb hr (fun t ht hW => ⟨rfl, ⟨by rw [ht]; exact hP, hD⟩, hS.F ht⟩) hS.2.2 dX6_tons_36
      · replace hf := it_n c8 hf
        exact b21 s1 hf H locs ls ⟨hP, hD, hS⟩ (lv_sub hl [] rfl)
  exact main s.heap [] ls ⟨hP, hD, va_S.rf⟩ hl
def rX6_isOther : Room := { frames := 3, cells := 0, slots := 0, locals := 76 }
set_option maxHeartbeats 4000000 in
set_option maxRecDepth 100000 in
theorem ct_X6_isOther (l : Launch) (dC : Nat → ClassId) (dI : Nat → Nat → Nat) (a b : Nat → Nat) (cI cJ cZ : ClassId) (st : MS) (x1 : Int32) (x2 : Int32) (x3 : Int32) (res : Int32) (hf : fX6_isOther st x1 x2 x3 = some res) : Met l yX6_isOther wsX6_isOther rX6_isOther (Pp (dC, dI) (tyT cI cJ cZ) (WX6 a b cI cJ cZ st) [.ref (a 0), .int x1, .int x2, .int x3]) (Qp (.int res)) 0 0 (fun _ => False) := by
  refine Met.ofW (cc := cX6_isOther) (maxL := 4) (ret := (some .boolean)) (by decide) rfl ?_
  intro p e s m args below meth c s₁ B hml hv
  obtain ⟨hargs, hP, hK⟩ := hv
  have hx := B.exec
  have hb := B.bytes
  have hr := B.returns
  have hts := atoms_spec (ws := wsX6_isOther) B.pre
  have hown : s.vm.findClass RX6 = some m.cls := findClass_of_methodNamed B.named
  have hlocks := B.notSynchronized
  have hP : va_P (dC, dI) vwCl (WX6 a b cI cJ cZ st) s.heap := hP
  have hl := lv_entry ([.ref (a 0), .int x1, .int x2, .int x3]) (n := 4) (Nat.le_of_ble_eq_true rfl)
  refine W.eq (hargs ▸ lg_entry_eq m [.ref (a 0), .int x1, .int x2, .int x3] 4) ?_
  generalize (lg_sl ([.ref (a 0), .int x1, .int x2, .int x3]) ++ List.replicate (4 - (lg_sl ([.ref (a 0), .int x1, .int x2, .int x3])).length) Slot.unset).toArray = ls at hl ⊢
  have hl : lv_has ls 4 [(0, .ref (a 0)), (1, .int x1), (2, .int x2), (3, .int x3)] := hl
  obtain ⟨QQ, hQ⟩ : ∃ QQ : State → Prop, QQ = MQ below (Qp (.int res)) args s 0 0 (fun _ => False) := ⟨_, rfl⟩
  rw [← hQ]
  have b40 : fX6_isOther_b40 st = some res → (∀ (ls : Array Slot), lv_has ls 4 [] → W p l e (headSpec wsX6_isOther rX6_isOther).room s m args below meth c s.heap [] 0 0 QQ (F0 m 40 ls [])) := by
    intro hf
    intro ls hl
    unfold fX6_isOther_b40 at hf
    refine lv_iconst (v := (1 : Int32)) hx hb dX6_isOther_40 (by decide) ?_
    refine lv_goto (tgt := 45) hx hb dX6_isOther_41 (by decide) ?_
    obtain rfl := Option.some.inj hf
    rw [hQ]
    exact W.zret hx hb hr rfl (fun t ht hW => ⟨rfl, ht⟩) (fun q hq => absurd hq List.not_mem_nil) dX6_isOther_45
  unfold fX6_isOther at hf
  refine lv_aload_n hx hb dX6_isOther_0 rfl (lv_at hl 0 rfl) ?_
  refine lv_iload_n hx hb dX6_isOther_1 rfl (lv_at hl 1 rfl) ?_
  refine lv_iload_n hx hb dX6_isOther_2 rfl (lv_at hl 2 rfl) ?_
  refine lv_iconst (v := (0 : Int32)) hx hb dX6_isOther_3 (by decide) ?_
  refine lv_iconst (v := (0 : Int32)) hx hb dX6_isOther_4 (by decide) ?_
  obtain ⟨r1, hc2, hf⟩ := bind_s hf
  refine cpV (v := .long r1) ⟨hx, hb, hml, hown, hts⟩ (ct_X6_tonsOf l dC dI a b cI cJ cZ st x1 x2 (0 : Int32) (0 : Int32) r1 hc2) (cwV 4 hts gX6_isOther_X6_tonsOf rfl rfl rfl (by decide +kernel) ⟨(Nat.le_of_ble_eq_true rfl), (Nat.le_of_ble_eq_true rfl)⟩) hK hP [0, 1, 2, 3, 4, 5, 6, 7, 8, 9, 10, 11, 12, 13, 14, 15, 16, 17, 18, 19, 20] rfl rfl rfl rfl hl.1 rfl (Nat.le_of_ble_eq_true rfl) (Nat.le_of_ble_eq_true rfl) (Nat.le_of_ble_eq_true rfl) dX6_isOther_5 ?_
  refine lv_aload_n hx hb dX6_isOther_8 rfl (lv_at hl 0 rfl) ?_
  refine lv_iload_n hx hb dX6_isOther_9 rfl (lv_at hl 1 rfl) ?_
  refine lv_iload_n hx hb dX6_isOther_10 rfl (lv_at hl 3 rfl) ?_
  refine lv_iconst (v := (0 : Int32)) hx hb dX6_isOther_11 (by decide) ?_
  refine lv_iconst (v := (0 : Int32)) hx hb dX6_isOther_12 (by decide) ?_
  obtain ⟨r3, hc4, hf⟩ := bind_s hf
  refine cpV (v := .long r3) ⟨hx, hb, hml, hown, hts⟩ (ct_X6_tonsOf l dC dI a b cI cJ cZ st x1 x3 (0 : Int32) (0 : Int32) r3 hc4) (cwV 4 hts gX6_isOther_X6_tonsOf rfl rfl rfl (by decide +kernel) ⟨(Nat.le_of_ble_eq_true rfl), (Nat.le_of_ble_eq_true rfl)⟩) hK hP [0, 1, 2, 3, 4, 5, 6, 7, 8, 9, 10, 11, 12, 13, 14, 15, 16, 17, 18, 19, 20] rfl rfl rfl rfl hl.1 rfl (Nat.le_of_ble_eq_true rfl) (Nat.le_of_ble_eq_true rfl) (Nat.le_of_ble_eq_true rfl) dX6_isOther_13 ?_
  refine W.lcmp hx hb dX6_isOther_16 ?_
  refine lv_if_ne (tgt := 40) hx hb dX6_isOther_17 (by decide) (fun c5 => ?_) (fun c5 => ?_)
  · replace hf := it_n c5 hf
    exact b40  hf ls (lv_sub hl [] rfl)
  · replace hf := it_p c5 hf
    refine lv_aload_n hx hb dX6_isOther_20 rfl (lv_at hl 0 rfl) ?_
    refine lv_iload_n hx hb dX6_isOther_21 rfl (lv_at hl 1 rfl) ?_
    refine lv_iload_n hx hb dX6_isOther_22 rfl (lv_at hl 2 rfl) ?_
    refine lv_iconst (v := (0 : Int32)) hx hb dX6_isOther_23 (by decide) ?_
    refine lv_iconst (v := (1 : Int32)) hx hb dX6_isOther_24 (by decide) ?_
    obtain ⟨r6, hc7, hf⟩ := bind_s hf
    refine cpV (v := .long r6) ⟨hx, hb, hml, hown, hts⟩ (ct_X6_tonsOf l dC dI a b cI cJ cZ st x1 x2 (0 : Int32) (1 : Int32) r6 hc7) (cwV 4 hts gX6_isOther_X6_tonsOf rfl rfl rfl (by decide +kernel) ⟨(Nat.le_of_ble_eq_true rfl), (Nat.le_of_ble_eq_true rfl)⟩) hK hP [0, 1, 2, 3, 4, 5, 6, 7, 8, 9, 10, 11, 12, 13, 14, 15, 16, 17, 18, 19, 20] rfl rfl rfl rfl hl.1 rfl (Nat.le_of_ble_eq_true rfl) (Nat.le_of_ble_eq_true rfl) (Nat.le_of_ble_eq_true rfl) dX6_isOther_25 ?_
    refine lv_aload_n hx hb dX6_isOther_28 rfl (lv_at hl 0 rfl) ?_
    refine lv_iload_n hx hb dX6_isOther_29 rfl (lv_at hl 1 rfl) ?_
    refine lv_iload_n hx hb dX6_isOther_30 rfl (lv_at hl 3 rfl) ?_
    refine lv_iconst (v := (0 : Int32)) hx hb dX6_isOther_31 (by decide) ?_
    refine lv_iconst (v := (1 : Int32)) hx hb dX6_isOther_32 (by decide) ?_
    obtain ⟨r8, hc9, hf⟩ := bind_s hf
    refine cpV (v := .long r8) ⟨hx, hb, hml, hown, hts⟩ (ct_X6_tonsOf l dC dI a b cI cJ cZ st x1 x3 (0 : Int32) (1 : Int32) r8 hc9) (cwV 4 hts gX6_isOther_X6_tonsOf rfl rfl rfl (by decide +kernel) ⟨(Nat.le_of_ble_eq_true rfl), (Nat.le_of_ble_eq_true rfl)⟩) hK hP [0, 1, 2, 3, 4, 5, 6, 7, 8, 9, 10, 11, 12, 13, 14, 15, 16, 17, 18, 19, 20] rfl rfl rfl rfl hl.1 rfl (Nat.le_of_ble_eq_true rfl) (Nat.le_of_ble_eq_true rfl) (Nat.le_of_ble_eq_true rfl) dX6_isOther_33 ?_
    refine W.lcmp hx hb dX6_isOther_36 ?_
    refine lv_if_eq (tgt := 44) hx hb dX6_isOther_37 (by decide) (fun c10 => ?_) (fun c10 => ?_)
    · replace hf := it_p c10 hf
      refine lv_iconst (v := (0 : Int32)) hx hb dX6_isOther_44 (by decide) ?_
      obtain rfl := Option.some.inj hf
      rw [hQ]
      exact W.zret hx hb hr rfl (fun t ht hW => ⟨rfl, ht⟩) (fun q hq => absurd hq List.not_mem_nil) dX6_isOther_45
    · replace hf := it_n c10 hf
      exact b40  hf ls (lv_sub hl [] rfl)
def rX6_changed : Room := { frames := 4, cells := 0, slots := 0, locals := 99 }
theorem kX6_changed_X6 : ∀ w ∈ wsX60, w ∈ wsX6_changed := fun w h => (List.mem_cons_of_mem _ (List.mem_append_right _ h))
theorem mX6_changed_1 : Cond.fieldLink RX6 76 "SmokeLedgerModel" "thrown" "I" ∈ wsX6_changed := List.mem_of_getElem? (i := 1) rfl
theorem mX6_changed_2 : Cond.fieldLink RX6 90 "SmokeLedgerModel" "rows" "I" ∈ wsX6_changed := List.mem_of_getElem? (i := 2) rfl
theorem mX6_changed_3 : Cond.fieldLink RX6 35 "SmokeLedgerModel" "day" "[I" ∈ wsX6_changed := List.mem_of_getElem? (i := 3) rfl
set_option maxHeartbeats 4000000 in
set_option maxRecDepth 100000 in
theorem ct_X6_changed (l : Launch) (dC : Nat → ClassId) (dI : Nat → Nat → Nat) (a b : Nat → Nat) (cI cJ cZ : ClassId) (sz : Nat) (st : MS) (x1 : Int32) (x2 : Int32) (x3 : Int32) (res : Int32 × MS) (hf : fX6_changed st x1 x2 x3 = some res) : Met l yX6_changed wsX6_changed rX6_changed (Pm (dC, dI) (tyT cI cJ cZ) (WX6 a b cI cJ cZ st) sz [.ref (a 0), .int x1, .int x2, .int x3]) (Qm (dC, dI) (some (.int res.1)) (WX6 a b cI cJ cZ res.2) (va_A (WX6 a b cI cJ cZ st) sz)) 0 0 (va_A (WX6 a b cI cJ cZ st) sz) := by
  refine Met.ofW (cc := cX6_changed) (maxL := 6) (ret := (some .int)) (by decide) rfl ?_
  intro p e s m args below meth c s₁ B hml hv
  obtain ⟨hargs, hsz, hP, hK, hD0⟩ := hv
  have hx := B.exec
  have hb := B.bytes
  have hr := B.returns
  have hts := atoms_spec (ws := wsX6_changed) B.pre
  have hown : s.vm.findClass RX6 = some m.cls := findClass_of_methodNamed B.named
  have hlocks := B.notSynchronized
  subst hsz
  have hD := hD0.self (sz := s.heap.size)
  generalize hAe : va_A (WX6 a b cI cJ cZ st) s.heap.size = A at hD ⊢
  have hA : ∀ q : Nat, s.heap.size ≤ q → A q := fun q h => by rw [← hAe]; exact Or.inr h
  have hl := lv_entry ([.ref (a 0), .int x1, .int x2, .int x3]) (n := 6) (Nat.le_of_ble_eq_true rfl)
  refine W.eq (hargs ▸ lg_entry_eq m [.ref (a 0), .int x1, .int x2, .int x3] 6) ?_
  generalize (lg_sl ([.ref (a 0), .int x1, .int x2, .int x3]) ++ List.replicate (6 - (lg_sl ([.ref (a 0), .int x1, .int x2, .int x3])).length) Slot.unset).toArray = ls at hl ⊢
  have hl : lv_has ls 6 [(0, .ref (a 0)), (1, .int x1), (2, .int x2), (3, .int x3)] := hl
  obtain ⟨QQ, hQ⟩ : ∃ QQ : State → Prop, QQ = MQ below (Qm (dC, dI) (some (.int res.1)) (WX6 a b cI cJ cZ res.2) A) args s 0 0 (A) := ⟨_, rfl⟩
  rw [← hQ]
  have l39 : ∀ (st : MS) (x1 : Int32) (x2 : Int32) (x3 : Int32) (fu : Nat) (s0 : Int32 × Int32) (r : Int32 × Int32), loopN (fun (s : Int32 × Int32) => fX6_changed_l39 st x1 x2 x3 s.1 s.2) fu s0 = some r → (∀ (H : Heap) (locs : List Loc) (ls : Array Slot), IN (dC, dI) (WX6 a b cI cJ cZ st) A s.heap H locs → lv_has ls 6 [(0, .ref (a 0)), (1, .int x1), (2, .int x2), (3, .int x3), (4, .int r.1), (5, .int r.2)] → W p l e (headSpec wsX6_changed rX6_changed).room s m args below meth c H locs 0 0 QQ (F0 m 90 ls [])) → (∀ (H : Heap) (locs : List Loc) (ls : Array Slot), IN (dC, dI) (WX6 a b cI cJ cZ st) A s.heap H locs → lv_has ls 6 [(0, .ref (a 0)), (1, .int x1), (2, .int x2), (3, .int x3), (4, .int s0.1), (5, .int s0.2)] → W p l e (headSpec wsX6_changed rX6_changed).room s m args below meth c H locs 0 0 QQ (F0 m 39 ls [])) := by
    intro st x1 x2 x3 fu s0 r
    have b81 : ∀ (st : MS) (x1 : Int32) (x2 : Int32) (x3 : Int32) (x5 : Int32) (k0 : Int32) (k1 : Int32) (x : (Int32 × Int32) ⊕ (Int32 × Int32)), fX6_changed_b81 st x1 x2 x3 x5 k0 k1 = some x → (∀ s', x = .inl s' → (∀ (H : Heap) (locs : List Loc) (ls : Array Slot), IN (dC, dI) (WX6 a b cI cJ cZ st) A s.heap H locs → lv_has ls 6 [(0, .ref (a 0)), (1, .int x1), (2, .int x2), (3, .int x3), (4, .int s'.1), (5, .int s'.2)] → W p l e (headSpec wsX6_changed rX6_changed).room s m args below meth c H locs 0 0 QQ (F0 m 39 ls []))) → (∀ r, x = .inr r → (∀ (H : Heap) (locs : List Loc) (ls : Array Slot), IN (dC, dI) (WX6 a b cI cJ cZ st) A s.heap H locs → lv_has ls 6 [(0, .ref (a 0)), (1, .int x1), (2, .int x2), (3, .int x3), (4, .int r.1), (5, .int r.2)] → W p l e (headSpec wsX6_changed rX6_changed).room s m args below meth c H locs 0 0 QQ (F0 m 90 ls []))) → (∀ (H : Heap) (locs : List Loc) (ls : Array Slot), IN (dC, dI) (WX6 a b cI cJ cZ st) A s.heap H locs → lv_has ls 6 [(0, .ref (a 0)), (1, .int x1), (2, .int x2), (3, .int x3), (5, .int x5)] → W p l e (headSpec wsX6_changed rX6_changed).room s m args below meth c H locs 0 0 QQ (F0 m 81 ls [.int k1, .int k0])) := by
      intro st x1 x2 x3 x5 k0 k1 x hf kc ke
      intro H locs ls hin hl
      obtain ⟨hP, hD, hS⟩ := hin
      unfold fX6_changed_b81 at hf
      refine lv_iadd hx hb dX6_changed_81 ?_
      refine lv_istore (lv' := [(4, .int (k0 + k1)), (0, .ref (a 0)), (1, .int x1), (2, .int x2), (3, .int x3), (5, .int x5)]) hx hb dX6_changed_82 hl (by decide) rfl (fun ls hl => ?_)
      refine lv_iinc (v := (x5 + (1 : Int32))) (lv' := [(5, .int (x5 + (1 : Int32))), (4, .int (k0 + k1)), (0, .ref (a 0)), (1, .int x1), (2, .int x2), (3, .int x3)]) hx hb dX6_changed_84 hl (k := 5) rfl rfl (by decide) rfl (fun ls hl => ?_)
      refine lv_goto (tgt := 39) hx hb dX6_changed_87 (by decide) ?_
      obtain rfl := Option.some.inj hf
      exact kc _ rfl H locs ls ⟨hP, hD, hS⟩ (lv_sub hl [2, 3, 4, 5, 1, 0] rfl)
    have b80 : ∀ (st : MS) (x1 : Int32) (x2 : Int32) (x3 : Int32) (x5 : Int32) (k0 : Int32) (x : (Int32 × Int32) ⊕ (Int32 × Int32)), fX6_changed_b80 st x1 x2 x3 x5 k0 = some x → (∀ s', x = .inl s' → (∀ (H : Heap) (locs : List Loc) (ls : Array Slot), IN (dC, dI) (WX6 a b cI cJ cZ st) A s.heap H locs → lv_has ls 6 [(0, .ref (a 0)), (1, .int x1), (2, .int x2), (3, .int x3), (4, .int s'.1), (5, .int s'.2)] → W p l e (headSpec wsX6_changed rX6_changed).room s m args below meth c H locs 0 0 QQ (F0 m 39 ls []))) → (∀ r, x = .inr r → (∀ (H : Heap) (locs : List Loc) (ls : Array Slot), IN (dC, dI) (WX6 a b cI cJ cZ st) A s.heap H locs → lv_has ls 6 [(0, .ref (a 0)), (1, .int x1), (2, .int x2), (3, .int x3), (4, .int r.1), (5, .int r.2)] → W p l e (headSpec wsX6_changed rX6_changed).room s m args below meth c H locs 0 0 QQ (F0 m 90 ls []))) → (∀ (H : Heap) (locs : List Loc) (ls : Array Slot), IN (dC, dI) (WX6 a b cI cJ cZ st) A s.heap H locs → lv_has ls 6 [(0, .ref (a 0)), (1, .int x1), (2, .int x2), (3, .int x3), (5, .int x5)] → W p l e (headSpec wsX6_changed rX6_changed).room s m args below meth c H locs 0 0 QQ (F0 m 80 ls [.int k0])) := by
      intro st x1 x2 x3 x5 k0 x hf kc ke
      intro H locs ls hin hl
      obtain ⟨hP, hD, hS⟩ := hin
      unfold fX6_changed_b80 at hf
      refine lv_iconst (v := (0 : Int32)) hx hb dX6_changed_80 (by decide) ?_
      exact b81 st x1 x2 x3 x5 k0 (0 : Int32) _ hf kc ke H locs ls ⟨hP, hD, hS⟩ (lv_sub hl [0, 1, 2, 3, 4] rfl)
    refine loop_ind (P := fun s0 => ∀ (H : Heap) (locs : List Loc) (ls : Array Slot), IN (dC, dI) (WX6 a b cI cJ cZ st) A s.heap H locs → lv_has ls 6 [(0, .ref (a 0)), (1, .int x1), (2, .int x2), (3, .int x3), (4, .int s0.1), (5, .int s0.2)] → W p l e (headSpec wsX6_changed rX6_changed).room s m args below meth c H locs 0 0 QQ (F0 m 39 ls [])) (Q := fun r => ∀ (H : Heap) (locs : List Loc) (ls : Array Slot), IN (dC, dI) (WX6 a b cI cJ cZ st) A s.heap H locs → lv_has ls 6 [(0, .ref (a 0)), (1, .int x1), (2, .int x2), (3, .int x3), (4, .int r.1), (5, .int r.2)] → W p l e (headSpec wsX6_changed rX6_changed).room s m args below meth c H locs 0 0 QQ (F0 m 90 ls [])) ?_ fu s0 r
    clear fu s0 r
    rintro ⟨x4, x5⟩ x hf kc ke
    replace hf : fX6_changed_l39 st x1 x2 x3 x4 x5 = some x := hf
    replace kc : (∀ s', x = .inl s' → (∀ (H : Heap) (locs : List Loc) (ls : Array Slot), IN (dC, dI) (WX6 a b cI cJ cZ st) A s.heap H locs → lv_has ls 6 [(0, .ref (a 0)), (1, .int x1), (2, .int x2), (3, .int x3), (4, .int s'.1), (5, .int s'.2)] → W p l e (headSpec wsX6_changed rX6_changed).room s m args below meth c H locs 0 0 QQ (F0 m 39 ls []))) := kc
    replace ke : (∀ r, x = .inr r → (∀ (H : Heap) (locs : List Loc) (ls : Array Slot), IN (dC, dI) (WX6 a b cI cJ cZ st) A s.heap H locs → lv_has ls 6 [(0, .ref (a 0)), (1, .int x1), (2, .int x2), (3, .int x3), (4, .int r.1), (5, .int r.2)] → W p l e (headSpec wsX6_changed rX6_changed).room s m args below meth c H locs 0 0 QQ (F0 m 90 ls []))) := ke
    intro H locs ls hin hl
    obtain ⟨hP, hD, hS⟩ := hin
    unfold fX6_changed_l39 at hf
    refine lv_iload hx hb dX6_changed_39 (lv_at hl 5 rfl) ?_
    refine lv_aload_n hx hb dX6_changed_41 rfl (lv_at hl 0 rfl) ?_
    refine va_get (D := (dC, dI)) (ci := 6) (v := .int (MS_rows st)) (C := RX6) (T := TX6) (N := 26) hx hb hts kX6_changed_X6 hown hK hP 0 rfl rfl 7 (by decide) (hts _ mX6_changed_2) (fun _ h9 => h9) rfl dX6_changed_42 ?_
    refine lv_icmp_ge (tgt := 90) hx hb dX6_changed_45 (by decide) (fun c12 => ?_) (fun c12 => ?_)
    · replace hf := it_p c12 hf
      obtain rfl := Option.some.inj hf
      exact ke _ rfl H locs ls ⟨hP, hD, hS⟩ (lv_sub hl [0, 1, 2, 3, 4, 5] rfl)
    · replace hf := it_n c12 hf
      refine lv_iload hx hb dX6_changed_48 (lv_at hl 4 rfl) ?_
      refine lv_aload_n hx hb dX6_changed_50 rfl (lv_at hl 0 rfl) ?_
      refine va_get (D := (dC, dI)) (ci := 6) (v := .ref (a 8)) (C := RX6) (T := TX6) (N := 26) hx hb hts kX6_changed_X6 hown hK hP 0 rfl rfl 11 (by decide) (hts _ mX6_changed_3) (fun _ h9 => h9) rfl dX6_changed_51 ?_
      refine lv_iload hx hb dX6_changed_54 (lv_at hl 5 rfl) ?_
      obtain ⟨hi13, hf⟩ := it_s hf
      refine va_iald hx hb hK hP 8 0 rfl rfl (inb_in hi13) dX6_changed_56 ?_
      refine lv_sipush (v := (365 : Int32)) hx hb dX6_changed_57 (by decide) ?_
      refine lv_idiv hx hb dX6_changed_60 (by decide) ?_
      refine lv_iload_n hx hb dX6_changed_61 rfl (lv_at hl 1 rfl) ?_
      refine lv_icmp_ne (tgt := 80) hx hb dX6_changed_62 (by decide) (fun c14 => ?_) (fun c14 => ?_)
      · replace hf := it_n c14 hf
        exact b80 st x1 x2 x3 x5 x4 _ hf kc ke H locs ls ⟨hP, hD, hS⟩ (lv_sub hl [0, 1, 2, 3, 5] rfl)
      · replace hf := it_p c14 hf
        refine lv_aload_n hx hb dX6_changed_65 rfl (lv_at hl 0 rfl) ?_
        refine lv_iload hx hb dX6_changed_66 (lv_at hl 5 rfl) ?_
        refine lv_iload_n hx hb dX6_changed_68 rfl (lv_at hl 2 rfl) ?_
        refine lv_iload_n hx hb dX6_changed_69 rfl (lv_at hl 3 rfl) ?_
        obtain ⟨r15, hc16, hf⟩ := bind_s hf
        refine cpV (v := .int r15) ⟨hx, hb, hml, hown, hts⟩ (ct_X6_isOther l dC dI a b cI cJ cZ st x5 x2 x3 r15 hc16) (cwV 3 hts gX6_changed_X6_isOther rfl rfl rfl (by decide +kernel) ⟨(Nat.le_of_ble_eq_true rfl), (Nat.le_of_ble_eq_true rfl)⟩) hK hP [0, 1, 2, 3, 4, 5, 6, 7, 8, 9, 10, 11, 12, 13, 14, 15, 16, 17, 18, 19, 20] rfl rfl rfl rfl hl.1 rfl (Nat.le_of_ble_eq_true rfl) (Nat.le_of_ble_eq_true rfl) (Nat.le_of_ble_eq_true rfl) dX6_changed_70 ?_
        refine lv_if_eq (tgt := 80) hx hb dX6_changed_73 (by decide) (fun c17 => ?_) (fun c17 => ?_)
        · replace hf := it_p c17 hf
          exact b80 st x1 x2 x3 x5 x4 _ hf kc ke H locs ls ⟨hP, hD, hS⟩ (lv_sub hl [0, 1, 2, 3, 5] rfl)
        · replace hf := it_n c17 hf
          refine lv_iconst (v := (1 : Int32)) hx hb dX6_changed_76 (by decide) ?_
          refine lv_goto (tgt := 81) hx hb dX6_changed_77 (by decide) ?_
          exact b81 st x1 x2 x3 x5 x4 (1 : Int32) _ hf kc ke H locs ls ⟨hP, hD, hS⟩ (lv_sub hl [0, 1, 2, 3, 5] rfl)
  have main : ∀ (H : Heap) (locs : List Loc) (ls : Array Slot), IN (dC, dI) (WX6 a b cI cJ cZ st) A s.heap H locs → lv_has ls 6 [(0, .ref (a 0)), (1, .int x1), (2, .int x2), (3, .int x3)] → W p l e (headSpec wsX6_changed rX6_changed).room s m args below meth c H locs 0 0 QQ (F0 m 0 ls []) := by
    intro H locs ls hin hl
    obtain ⟨hP, hD, hS⟩ := hin
    unfold fX6_changed at hf
    refine lv_aload_n hx hb dX6_changed_0 rfl (lv_at hl 0 rfl) ?_
    refine lv_iconst (v := (0 : Int32)) hx hb dX6_changed_1 (by decide) ?_
    refine va_put (D := (dC, dI)) (ci := 6) (v := .int (0 : Int32)) (ty := .int) (C := RX6) (T := TX6) (N := 26) hx hb hts kX6_changed_X6 tyX6 tyX6_ok nmX6 hown hK hP hD hS 0 rfl rfl 0 (by decide) (hts _ mX6_changed_1) (fun _ h9 => h9) rfl (by decide +kernel) rfl rfl (Nat.le_of_ble_eq_true rfl) dX6_changed_2 (fun H locs hP hD hS => ?_)
    obtain ⟨s1, hs2, hf⟩ := bnd_e hf
    replace hP := putP_thrown hs2 hP
    replace hD := putD_thrown hs2 hD
    refine lv_aload_n hx hb dX6_changed_5 rfl (lv_at hl 0 rfl) ?_
    refine lv_iload_n hx hb dX6_changed_6 rfl (lv_at hl 2 rfl) ?_
    obtain ⟨r3, hc4, hf⟩ := bind_s hf
    refine cpV (v := .int r3) ⟨hx, hb, hml, hown, hts⟩ (ct_X6_noAs l dC dI a b cI cJ cZ s1 x2 r3 hc4) (cwV 1 hts gX6_changed_X6_noAs rfl rfl rfl (by decide +kernel) ⟨(Nat.le_of_ble_eq_true rfl), (Nat.le_of_ble_eq_true rfl)⟩) hK hP [0, 1, 2, 3, 4, 5, 6, 7, 8, 9, 10, 11, 12, 13, 14, 15, 16, 17, 18, 19, 20] rfl rfl rfl rfl hl.1 rfl (Nat.le_of_ble_eq_true rfl) (Nat.le_of_ble_eq_true rfl) (Nat.le_of_ble_eq_true rfl) dX6_changed_7 ?_
    refine lv_if_ne (tgt := 21) hx hb dX6_changed_10 (by decide) (fun c5 => ?_) (fun c5 => ?_)
    · replace hf := it_n c5 hf
      refine lv_iconst (v := (-1 : Int32)) hx hb dX6_changed_21 (by decide) ?_
      obtain rfl := Option.some.inj hf
      rw [hQ]
      exact W.iret hx hb hr (fun t ht hW => ⟨rfl, ⟨by rw [ht]; exact hP, hD⟩, hS.F ht⟩) hS.2.2 dX6_changed_22
    · replace hf := it_p c5 hf
      refine lv_aload_n hx hb dX6_changed_13 rfl (lv_at hl 0 rfl) ?_
      refine lv_iload_n hx hb dX6_changed_14 rfl (lv_at hl 3 rfl) ?_
      obtain ⟨r6, hc7, hf⟩ := bind_s hf
      refine cpV (v := .int r6) ⟨hx, hb, hml, hown, hts⟩ (ct_X6_noAs l dC dI a b cI cJ cZ s1 x3 r6 hc7) (cwV 1 hts gX6_changed_X6_noAs rfl rfl rfl (by decide +kernel) ⟨(Nat.le_of_ble_eq_true rfl), (Nat.le_of_ble_eq_true rfl)⟩) hK hP [0, 1, 2, 3, 4, 5, 6, 7, 8, 9, 10, 11, 12, 13, 14, 15, 16, 17, 18, 19, 20] rfl rfl rfl rfl hl.1 rfl (Nat.le_of_ble_eq_true rfl) (Nat.le_of_ble_eq_true rfl) (Nat.le_of_ble_eq_true rfl) dX6_changed_15 ?_
      refine lv_if_eq (tgt := 23) hx hb dX6_changed_18 (by decide) (fun c8 => ?_) (fun c8 => ?_)
      · replace hf := it_p c8 hf
        refine lv_iload_n hx hb dX6_changed_23 rfl (lv_at hl 1 rfl) ?_
        obtain ⟨r9, hc10, hf⟩ := bind_s hf
        refine cpS (v := .int r9) ⟨hx, hb, hml, hown, hts⟩ (ct_X6_noYear l dC dI cI cJ cZ x1 r9 hc10) (va_cwS 1 hts gX6_changed_X6_noYear rfl rfl rfl (by decide +kernel) ⟨(Nat.le_of_ble_eq_true rfl), (Nat.le_of_ble_eq_true rfl)⟩) hK hP [] rfl rfl hl.1 rfl (Nat.le_of_ble_eq_true rfl) (Nat.le_of_ble_eq_true rfl) (Nat.le_of_ble_eq_true rfl) dX6_changed_24 ?_
        refine lv_if_eq (tgt := 33) hx hb dX6_changed_27 (by decide) (fun c11 => ?_) (fun c11 => ?_)
        · replace hf := it_p c11 hf
          refine lv_iconst (v := (0 : Int32)) hx hb dX6_changed_33 (by decide) ?_
          refine lv_istore (lv' := [(4, .int (0 : Int32)), (0, .ref (a 0)), (1, .int x1), (2, .int x2), (3, .int x3)]) hx hb dX6_changed_34 hl (by decide) rfl (fun ls hl => ?_)
          refine lv_iconst (v := (0 : Int32)) hx hb dX6_changed_36 (by decide) ?_
          refine lv_istore (lv' := [(5, .int (0 : Int32)), (4, .int (0 : Int32)), (0, .ref (a 0)), (1, .int x1), (2, .int x2), (3, .int x3)]) hx hb dX6_changed_37 hl (by decide) rfl (fun ls hl => ?_)
          obtain ⟨y18, hlp, hf⟩ := bind_s hf
          refine l39 s1 x1 x2 x3 fuelN ((0 : Int32), (0 : Int32)) y18 hlp ?_ H locs ls ⟨hP, hD, hS⟩ (lv_sub hl [2, 3, 4, 5, 1, 0] rfl)
          intro H locs ls hin hl
          obtain ⟨hP, hD, hS⟩ := hin
          refine lv_iload hx hb dX6_changed_90 (lv_at hl 4 rfl) ?_
          obtain rfl := Option.some.inj hf
          rw [hQ]
          exact W.iret hx hb hr (fun t ht hW => ⟨rfl, ⟨by rw [ht]; exact hP, hD⟩, hS.F ht⟩) hS.2.2 dX6_changed_92
        · replace hf := it_n c11 hf
          refine lv_bipush (v := (-2 : Int32)) hx hb dX6_changed_30 (by decide) ?_
          obtain rfl := Option.some.inj hf
          rw [hQ]
          exact W.iret hx hb hr (fun t ht hW => ⟨rfl, ⟨by rw [ht]; exact hP, hD⟩, hS.F ht⟩) hS.2.2 dX6_changed_32
      · replace hf := it_n c8 hf
        refine lv_iconst (v := (-1 : Int32)) hx hb dX6_changed_21 (by decide) ?_
        obtain rfl := Option.some.inj hf
        rw [hQ]
        exact W.iret hx hb hr (fun t ht hW => ⟨rfl, ⟨by rw [ht]; exact hP, hD⟩, hS.F ht⟩) hS.2.2 dX6_changed_22
  exact main s.heap [] ls ⟨hP, hD, va_S.rf⟩ hl
def rX6_change : Room := { frames := 4, cells := 0, slots := 0, locals := 99 }
theorem kX6_change_X6 : ∀ w ∈ wsX60, w ∈ wsX6_change := fun w h => (List.mem_cons_of_mem _ (List.mem_append_right _ h))
theorem mX6_change_1 : Cond.fieldLink RX6 76 "SmokeLedgerModel" "thrown" "I" ∈ wsX6_change := List.mem_of_getElem? (i := 1) rfl
theorem mX6_change_2 : Cond.fieldLink RX6 90 "SmokeLedgerModel" "rows" "I" ∈ wsX6_change := List.mem_of_getElem? (i := 2) rfl
theorem mX6_change_3 : Cond.fieldLink RX6 35 "SmokeLedgerModel" "day" "[I" ∈ wsX6_change := List.mem_of_getElem? (i := 3) rfl
set_option maxHeartbeats 4000000 in
set_option maxRecDepth 100000 in
theorem ct_X6_change (l : Launch) (dC : Nat → ClassId) (dI : Nat → Nat → Nat) (a b : Nat → Nat) (cI cJ cZ : ClassId) (sz : Nat) (st : MS) (x1 : Int32) (x2 : Int32) (x3 : Int32) (x4 : Int32) (res : Int32 × MS) (hf : fX6_change st x1 x2 x3 x4 = some res) : Met l yX6_change wsX6_change rX6_change (Pm (dC, dI) (tyT cI cJ cZ) (WX6 a b cI cJ cZ st) sz [.ref (a 0), .int x1, .int x2, .int x3, .int x4]) (Qm (dC, dI) (some (.int res.1)) (WX6 a b cI cJ cZ res.2) (va_A (WX6 a b cI cJ cZ st) sz)) 0 0 (va_A (WX6 a b cI cJ cZ st) sz) := by
  refine Met.ofW (cc := cX6_change) (maxL := 7) (ret := (some .int)) (by decide) rfl ?_
  intro p e s m args below meth c s₁ B hml hv
  obtain ⟨hargs, hsz, hP, hK, hD0⟩ := hv
  have hx := B.exec
  have hb := B.bytes
  have hr := B.returns
  have hts := atoms_spec (ws := wsX6_change) B.pre
  have hown : s.vm.findClass RX6 = some m.cls := findClass_of_methodNamed B.named
  have hlocks := B.notSynchronized
  subst hsz
  have hD := hD0.self (sz := s.heap.size)
  generalize hAe : va_A (WX6 a b cI cJ cZ st) s.heap.size = A at hD ⊢
  have hA : ∀ q : Nat, s.heap.size ≤ q → A q := fun q h => by rw [← hAe]; exact Or.inr h
  have hl := lv_entry ([.ref (a 0), .int x1, .int x2, .int x3, .int x4]) (n := 7) (Nat.le_of_ble_eq_true rfl)
  refine W.eq (hargs ▸ lg_entry_eq m [.ref (a 0), .int x1, .int x2, .int x3, .int x4] 7) ?_
  generalize (lg_sl ([.ref (a 0), .int x1, .int x2, .int x3, .int x4]) ++ List.replicate (7 - (lg_sl ([.ref (a 0), .int x1, .int x2, .int x3, .int x4])).length) Slot.unset).toArray = ls at hl ⊢
  have hl : lv_has ls 7 [(0, .ref (a 0)), (1, .int x1), (2, .int x2), (3, .int x3), (4, .int x4)] := hl
  obtain ⟨QQ, hQ⟩ : ∃ QQ : State → Prop, QQ = MQ below (Qm (dC, dI) (some (.int res.1)) (WX6 a b cI cJ cZ res.2) A) args s 0 0 (A) := ⟨_, rfl⟩
  rw [← hQ]
  have l40 : ∀ (st : MS) (x1 : Int32) (x2 : Int32) (x3 : Int32) (x4 : Int32) (fu : Nat) (s0 : Int32 × Int32) (r : (Int32 × Int32) ⊕ (Int32 × MS)), loopN (fun (s : Int32 × Int32) => fX6_change_l40 st x1 x2 x3 x4 s.1 s.2) fu s0 = some r → ((∀ s', r = .inl s' → (∀ (H : Heap) (locs : List Loc) (ls : Array Slot), IN (dC, dI) (WX6 a b cI cJ cZ st) A s.heap H locs → lv_has ls 7 [(0, .ref (a 0)), (1, .int x1), (2, .int x2), (3, .int x3), (4, .int x4), (5, .int s'.1), (6, .int s'.2)] → W p l e (headSpec wsX6_change rX6_change).room s m args below meth c H locs 0 0 QQ (F0 m 94 ls []))) ∧ (∀ v, r = .inr v → some v = some res)) → (∀ (H : Heap) (locs : List Loc) (ls : Array Slot), IN (dC, dI) (WX6 a b cI cJ cZ st) A s.heap H locs → lv_has ls 7 [(0, .ref (a 0)), (1, .int x1), (2, .int x2), (3, .int x3), (4, .int x4), (5, .int s0.1), (6, .int s0.2)] → W p l e (headSpec wsX6_change rX6_change).room s m args below meth c H locs 0 0 QQ (F0 m 40 ls [])) := by
    intro st x1 x2 x3 x4 fu s0 r
    have b88 : ∀ (st : MS) (x1 : Int32) (x2 : Int32) (x3 : Int32) (x4 : Int32) (x5 : Int32) (x6 : Int32) (x : (Int32 × Int32) ⊕ ((Int32 × Int32) ⊕ (Int32 × MS))), fX6_change_b88 st x1 x2 x3 x4 x5 x6 = some x → (∀ s', x = .inl s' → (∀ (H : Heap) (locs : List Loc) (ls : Array Slot), IN (dC, dI) (WX6 a b cI cJ cZ st) A s.heap H locs → lv_has ls 7 [(0, .ref (a 0)), (1, .int x1), (2, .int x2), (3, .int x3), (4, .int x4), (5, .int s'.1), (6, .int s'.2)] → W p l e (headSpec wsX6_change rX6_change).room s m args below meth c H locs 0 0 QQ (F0 m 40 ls []))) → (∀ r, x = .inr r → ((∀ s', r = .inl s' → (∀ (H : Heap) (locs : List Loc) (ls : Array Slot), IN (dC, dI) (WX6 a b cI cJ cZ st) A s.heap H locs → lv_has ls 7 [(0, .ref (a 0)), (1, .int x1), (2, .int x2), (3, .int x3), (4, .int x4), (5, .int s'.1), (6, .int s'.2)] → W p l e (headSpec wsX6_change rX6_change).room s m args below meth c H locs 0 0 QQ (F0 m 94 ls []))) ∧ (∀ v, r = .inr v → some v = some res))) → (∀ (H : Heap) (locs : List Loc) (ls : Array Slot), IN (dC, dI) (WX6 a b cI cJ cZ st) A s.heap H locs → lv_has ls 7 [(0, .ref (a 0)), (1, .int x1), (2, .int x2), (3, .int x3), (4, .int x4), (5, .int x5), (6, .int x6)] → W p l e (headSpec wsX6_change rX6_change).room s m args below meth c H locs 0 0 QQ (F0 m 88 ls [])) := by
      intro st x1 x2 x3 x4 x5 x6 x hf kc ke
      intro H locs ls hin hl
      obtain ⟨hP, hD, hS⟩ := hin
      unfold fX6_change_b88 at hf
      refine lv_iinc (v := (x6 + (1 : Int32))) (lv' := [(6, .int (x6 + (1 : Int32))), (0, .ref (a 0)), (1, .int x1), (2, .int x2), (3, .int x3), (4, .int x4), (5, .int x5)]) hx hb dX6_change_88 hl (k := 6) rfl rfl (by decide) rfl (fun ls hl => ?_)
      refine lv_goto (tgt := 40) hx hb dX6_change_91 (by decide) ?_
      obtain rfl := Option.some.inj hf
      exact kc _ rfl H locs ls ⟨hP, hD, hS⟩ (lv_sub hl [1, 2, 3, 4, 5, 6, 0] rfl)
    refine loop_ind (P := fun s0 => ∀ (H : Heap) (locs : List Loc) (ls : Array Slot), IN (dC, dI) (WX6 a b cI cJ cZ st) A s.heap H locs → lv_has ls 7 [(0, .ref (a 0)), (1, .int x1), (2, .int x2), (3, .int x3), (4, .int x4), (5, .int s0.1), (6, .int s0.2)] → W p l e (headSpec wsX6_change rX6_change).room s m args below meth c H locs 0 0 QQ (F0 m 40 ls [])) (Q := fun r => (∀ s', r = .inl s' → (∀ (H : Heap) (locs : List Loc) (ls : Array Slot), IN (dC, dI) (WX6 a b cI cJ cZ st) A s.heap H locs → lv_has ls 7 [(0, .ref (a 0)), (1, .int x1), (2, .int x2), (3, .int x3), (4, .int x4), (5, .int s'.1), (6, .int s'.2)] → W p l e (headSpec wsX6_change rX6_change).room s m args below meth c H locs 0 0 QQ (F0 m 94 ls []))) ∧ (∀ v, r = .inr v → some v = some res)) ?_ fu s0 r
    clear fu s0 r
    rintro ⟨x5, x6⟩ x hf kc ke
    replace hf : fX6_change_l40 st x1 x2 x3 x4 x5 x6 = some x := hf
    replace kc : (∀ s', x = .inl s' → (∀ (H : Heap) (locs : List Loc) (ls : Array Slot), IN (dC, dI) (WX6 a b cI cJ cZ st) A s.heap H locs → lv_has ls 7 [(0, .ref (a 0)), (1, .int x1), (2, .int x2), (3, .int x3), (4, .int x4), (5, .int s'.1), (6, .int s'.2)] → W p l e (headSpec wsX6_change rX6_change).room s m args below meth c H locs 0 0 QQ (F0 m 40 ls []))) := kc
    replace ke : (∀ r, x = .inr r → ((∀ s', r = .inl s' → (∀ (H : Heap) (locs : List Loc) (ls : Array Slot), IN (dC, dI) (WX6 a b cI cJ cZ st) A s.heap H locs → lv_has ls 7 [(0, .ref (a 0)), (1, .int x1), (2, .int x2), (3, .int x3), (4, .int x4), (5, .int s'.1), (6, .int s'.2)] → W p l e (headSpec wsX6_change rX6_change).room s m args below meth c H locs 0 0 QQ (F0 m 94 ls []))) ∧ (∀ v, r = .inr v → some v = some res))) := ke
    intro H locs ls hin hl
    obtain ⟨hP, hD, hS⟩ := hin
    unfold fX6_change_l40 at hf
    refine lv_iload hx hb dX6_change_40 (lv_at hl 6 rfl) ?_
    refine lv_aload_n hx hb dX6_change_42 rfl (lv_at hl 0 rfl) ?_
    refine va_get (D := (dC, dI)) (ci := 6) (v := .int (MS_rows st)) (C := RX6) (T := TX6) (N := 26) hx hb hts kX6_change_X6 hown hK hP 0 rfl rfl 7 (by decide) (hts _ mX6_change_2) (fun _ h9 => h9) rfl dX6_change_43 ?_
    refine lv_icmp_ge (tgt := 94) hx hb dX6_change_46 (by decide) (fun c12 => ?_) (fun c12 => ?_)
    · replace hf := it_p c12 hf
      obtain rfl := Option.some.inj hf
      exact (ke _ rfl).1 _ rfl H locs ls ⟨hP, hD, hS⟩ (lv_sub hl [0, 1, 2, 3, 4, 5, 6] rfl)
    · replace hf := it_n c12 hf
      refine lv_aload_n hx hb dX6_change_49 rfl (lv_at hl 0 rfl) ?_
      refine va_get (D := (dC, dI)) (ci := 6) (v := .ref (a 8)) (C := RX6) (T := TX6) (N := 26) hx hb hts kX6_change_X6 hown hK hP 0 rfl rfl 11 (by decide) (hts _ mX6_change_3) (fun _ h9 => h9) rfl dX6_change_50 ?_
      refine lv_iload hx hb dX6_change_53 (lv_at hl 6 rfl) ?_
      obtain ⟨hi13, hf⟩ := it_s hf
      refine va_iald hx hb hK hP 8 0 rfl rfl (inb_in hi13) dX6_change_55 ?_
      refine lv_sipush (v := (365 : Int32)) hx hb dX6_change_56 (by decide) ?_
      refine lv_idiv hx hb dX6_change_59 (by decide) ?_
      refine lv_iload_n hx hb dX6_change_60 rfl (lv_at hl 2 rfl) ?_
      refine lv_icmp_ne (tgt := 88) hx hb dX6_change_61 (by decide) (fun c14 => ?_) (fun c14 => ?_)
      · replace hf := it_n c14 hf
        exact b88 st x1 x2 x3 x4 x5 x6 _ hf kc ke H locs ls ⟨hP, hD, hS⟩ (lv_sub hl [0, 1, 2, 3, 4, 5, 6] rfl)
      · replace hf := it_p c14 hf
        refine lv_aload_n hx hb dX6_change_64 rfl (lv_at hl 0 rfl) ?_
        refine lv_iload hx hb dX6_change_65 (lv_at hl 6 rfl) ?_
        refine lv_iload_n hx hb dX6_change_67 rfl (lv_at hl 3 rfl) ?_
        refine lv_iload hx hb dX6_change_68 (lv_at hl 4 rfl) ?_
        obtain ⟨r15, hc16, hf⟩ := bind_s hf
        refine cpV (v := .int r15) ⟨hx, hb, hml, hown, hts⟩ (ct_X6_isOther l dC dI a b cI cJ cZ st x6 x3 x4 r15 hc16) (cwV 3 hts gX6_change_X6_isOther rfl rfl rfl (by decide +kernel) ⟨(Nat.le_of_ble_eq_true rfl), (Nat.le_of_ble_eq_true rfl)⟩) hK hP [0, 1, 2, 3, 4, 5, 6, 7, 8, 9, 10, 11, 12, 13, 14, 15, 16, 17, 18, 19, 20] rfl rfl rfl rfl hl.1 rfl (Nat.le_of_ble_eq_true rfl) (Nat.le_of_ble_eq_true rfl) (Nat.le_of_ble_eq_true rfl) dX6_change_70 ?_
        refine lv_if_eq (tgt := 88) hx hb dX6_change_73 (by decide) (fun c17 => ?_) (fun c17 => ?_)
        · replace hf := it_p c17 hf
          exact b88 st x1 x2 x3 x4 x5 x6 _ hf kc ke H locs ls ⟨hP, hD, hS⟩ (lv_sub hl [0, 1, 2, 3, 4, 5, 6] rfl)
        · replace hf := it_n c17 hf
          refine lv_iload hx hb dX6_change_76 (lv_at hl 5 rfl) ?_
          refine lv_iload_n hx hb dX6_change_78 rfl (lv_at hl 1 rfl) ?_
          refine lv_icmp_ne (tgt := 85) hx hb dX6_change_79 (by decide) (fun c18 => ?_) (fun c18 => ?_)
          · replace hf := it_n c18 hf
            refine lv_iinc (v := (x5 + (1 : Int32))) (lv' := [(5, .int (x5 + (1 : Int32))), (0, .ref (a 0)), (1, .int x1), (2, .int x2), (3, .int x3), (4, .int x4), (6, .int x6)]) hx hb dX6_change_85 hl (k := 5) rfl rfl (by decide) rfl (fun ls hl => ?_)
            exact b88 st x1 x2 x3 x4 (x5 + (1 : Int32)) x6 _ hf kc ke H locs ls ⟨hP, hD, hS⟩ (lv_sub hl [1, 2, 3, 4, 5, 0, 6] rfl)
          · replace hf := it_p c18 hf
            refine lv_iload hx hb dX6_change_82 (lv_at hl 6 rfl) ?_
            obtain rfl := Option.some.inj hf
            replace hf := (ke _ rfl).2 _ rfl
            obtain rfl := Option.some.inj hf
            rw [hQ]
            exact W.iret hx hb hr (fun t ht hW => ⟨rfl, ⟨by rw [ht]; exact hP, hD⟩, hS.F ht⟩) hS.2.2 dX6_change_84
  have main : ∀ (H : Heap) (locs : List Loc) (ls : Array Slot), IN (dC, dI) (WX6 a b cI cJ cZ st) A s.heap H locs → lv_has ls 7 [(0, .ref (a 0)), (1, .int x1), (2, .int x2), (3, .int x3), (4, .int x4)] → W p l e (headSpec wsX6_change rX6_change).room s m args below meth c H locs 0 0 QQ (F0 m 0 ls []) := by
    intro H locs ls hin hl
    obtain ⟨hP, hD, hS⟩ := hin
    unfold fX6_change at hf
    refine lv_aload_n hx hb dX6_change_0 rfl (lv_at hl 0 rfl) ?_
    refine lv_iconst (v := (0 : Int32)) hx hb dX6_change_1 (by decide) ?_
    refine va_put (D := (dC, dI)) (ci := 6) (v := .int (0 : Int32)) (ty := .int) (C := RX6) (T := TX6) (N := 26) hx hb hts kX6_change_X6 tyX6 tyX6_ok nmX6 hown hK hP hD hS 0 rfl rfl 0 (by decide) (hts _ mX6_change_1) (fun _ h9 => h9) rfl (by decide +kernel) rfl rfl (Nat.le_of_ble_eq_true rfl) dX6_change_2 (fun H locs hP hD hS => ?_)
    obtain ⟨s1, hs2, hf⟩ := bnd_e hf
    replace hP := putP_thrown hs2 hP
    replace hD := putD_thrown hs2 hD
    refine lv_aload_n hx hb dX6_change_5 rfl (lv_at hl 0 rfl) ?_
    refine lv_iload_n hx hb dX6_change_6 rfl (lv_at hl 3 rfl) ?_
    obtain ⟨r3, hc4, hf⟩ := bind_s hf
    refine cpV (v := .int r3) ⟨hx, hb, hml, hown, hts⟩ (ct_X6_noAs l dC dI a b cI cJ cZ s1 x3 r3 hc4) (cwV 1 hts gX6_change_X6_noAs rfl rfl rfl (by decide +kernel) ⟨(Nat.le_of_ble_eq_true rfl), (Nat.le_of_ble_eq_true rfl)⟩) hK hP [0, 1, 2, 3, 4, 5, 6, 7, 8, 9, 10, 11, 12, 13, 14, 15, 16, 17, 18, 19, 20] rfl rfl rfl rfl hl.1 rfl (Nat.le_of_ble_eq_true rfl) (Nat.le_of_ble_eq_true rfl) (Nat.le_of_ble_eq_true rfl) dX6_change_7 ?_
    refine lv_if_ne (tgt := 22) hx hb dX6_change_10 (by decide) (fun c5 => ?_) (fun c5 => ?_)
    · replace hf := it_n c5 hf
      refine lv_iconst (v := (-1 : Int32)) hx hb dX6_change_22 (by decide) ?_
      obtain rfl := Option.some.inj hf
      rw [hQ]
      exact W.iret hx hb hr (fun t ht hW => ⟨rfl, ⟨by rw [ht]; exact hP, hD⟩, hS.F ht⟩) hS.2.2 dX6_change_23
    · replace hf := it_p c5 hf
      refine lv_aload_n hx hb dX6_change_13 rfl (lv_at hl 0 rfl) ?_
      refine lv_iload hx hb dX6_change_14 (lv_at hl 4 rfl) ?_
      obtain ⟨r6, hc7, hf⟩ := bind_s hf
      refine cpV (v := .int r6) ⟨hx, hb, hml, hown, hts⟩ (ct_X6_noAs l dC dI a b cI cJ cZ s1 x4 r6 hc7) (cwV 1 hts gX6_change_X6_noAs rfl rfl rfl (by decide +kernel) ⟨(Nat.le_of_ble_eq_true rfl), (Nat.le_of_ble_eq_true rfl)⟩) hK hP [0, 1, 2, 3, 4, 5, 6, 7, 8, 9, 10, 11, 12, 13, 14, 15, 16, 17, 18, 19, 20] rfl rfl rfl rfl hl.1 rfl (Nat.le_of_ble_eq_true rfl) (Nat.le_of_ble_eq_true rfl) (Nat.le_of_ble_eq_true rfl) dX6_change_16 ?_
      refine lv_if_eq (tgt := 24) hx hb dX6_change_19 (by decide) (fun c8 => ?_) (fun c8 => ?_)
      · replace hf := it_p c8 hf
        refine lv_iload_n hx hb dX6_change_24 rfl (lv_at hl 2 rfl) ?_
        obtain ⟨r9, hc10, hf⟩ := bind_s hf
        refine cpS (v := .int r9) ⟨hx, hb, hml, hown, hts⟩ (ct_X6_noYear l dC dI cI cJ cZ x2 r9 hc10) (va_cwS 1 hts gX6_change_X6_noYear rfl rfl rfl (by decide +kernel) ⟨(Nat.le_of_ble_eq_true rfl), (Nat.le_of_ble_eq_true rfl)⟩) hK hP [] rfl rfl hl.1 rfl (Nat.le_of_ble_eq_true rfl) (Nat.le_of_ble_eq_true rfl) (Nat.le_of_ble_eq_true rfl) dX6_change_25 ?_
        refine lv_if_eq (tgt := 34) hx hb dX6_change_28 (by decide) (fun c11 => ?_) (fun c11 => ?_)
        · replace hf := it_p c11 hf
          refine lv_iconst (v := (0 : Int32)) hx hb dX6_change_34 (by decide) ?_
          refine lv_istore (lv' := [(5, .int (0 : Int32)), (0, .ref (a 0)), (1, .int x1), (2, .int x2), (3, .int x3), (4, .int x4)]) hx hb dX6_change_35 hl (by decide) rfl (fun ls hl => ?_)
          refine lv_iconst (v := (0 : Int32)) hx hb dX6_change_37 (by decide) ?_
          refine lv_istore (lv' := [(6, .int (0 : Int32)), (5, .int (0 : Int32)), (0, .ref (a 0)), (1, .int x1), (2, .int x2), (3, .int x3), (4, .int x4)]) hx hb dX6_change_38 hl (by decide) rfl (fun ls hl => ?_)
          obtain ⟨y19, hlp, hf⟩ := bind_s hf
          refine l40 s1 x1 x2 x3 x4 fuelN ((0 : Int32), (0 : Int32)) y19 hlp ?_ H locs ls ⟨hP, hD, hS⟩ (lv_sub hl [2, 3, 4, 5, 6, 1, 0] rfl)
          refine ⟨fun e_ he_ => ?_, fun v_ hv_ => ?_⟩
          · subst he_
            replace hf : (some ((-9 : Int32), s1)) = some res := hf
            intro H locs ls hin hl
            obtain ⟨hP, hD, hS⟩ := hin
            refine lv_bipush (v := (-9 : Int32)) hx hb dX6_change_94 (by decide) ?_
            obtain rfl := Option.some.inj hf
            rw [hQ]
            exact W.iret hx hb hr (fun t ht hW => ⟨rfl, ⟨by rw [ht]; exact hP, hD⟩, hS.F ht⟩) hS.2.2 dX6_change_96
          · subst hv_
            exact hf
        · replace hf := it_n c11 hf
          refine lv_bipush (v := (-2 : Int32)) hx hb dX6_change_31 (by decide) ?_
          obtain rfl := Option.some.inj hf
          rw [hQ]
          exact W.iret hx hb hr (fun t ht hW => ⟨rfl, ⟨by rw [ht]; exact hP, hD⟩, hS.F ht⟩) hS.2.2 dX6_change_33
      · replace hf := it_n c8 hf
        refine lv_iconst (v := (-1 : Int32)) hx hb dX6_change_22 (by decide) ?_
        obtain rfl := Option.some.inj hf
        rw [hQ]
        exact W.iret hx hb hr (fun t ht hW => ⟨rfl, ⟨by rw [ht]; exact hP, hD⟩, hS.F ht⟩) hS.2.2 dX6_change_23
  exact main s.heap [] ls ⟨hP, hD, va_S.rf⟩ hl
def rX6_totalOf : Room := { frames := 3, cells := 0, slots := 0, locals := 76 }
theorem kX6_totalOf_X6 : ∀ w ∈ wsX60, w ∈ wsX6_totalOf := fun w h => (List.mem_cons_of_mem _ (List.mem_append_right _ h))
theorem mX6_totalOf_1 : Cond.fieldLink RX6 90 "SmokeLedgerModel" "rows" "I" ∈ wsX6_totalOf := List.mem_of_getElem? (i := 1) rfl
theorem mX6_totalOf_2 : Cond.fieldLink RX6 35 "SmokeLedgerModel" "day" "[I" ∈ wsX6_totalOf := List.mem_of_getElem? (i := 2) rfl
theorem mX6_totalOf_4 : Cond.fieldLink RX6 65 "SmokeLedgerModel" "share" "[J" ∈ wsX6_totalOf := List.mem_of_getElem? (i := 4) rfl
theorem mX6_totalOf_3 : Cond.fieldLink RX6 26 "SmokeLedgerModel" "unitOf" "[I" ∈ wsX6_totalOf := List.mem_of_getElem? (i := 3) rfl
theorem mX6_totalOf_5 : Cond.constantLong RX6 148 (-9) ∈ wsX6_totalOf := List.mem_of_getElem? (i := 5) rfl
set_option maxHeartbeats 4000000 in
set_option maxRecDepth 100000 in
theorem ct_X6_totalOf (l : Launch) (dC : Nat → ClassId) (dI : Nat → Nat → Nat) (a b : Nat → Nat) (cI cJ cZ : ClassId) (sz : Nat) (st : MS) (x1 : Int32) (x2 : Int32) (x3 : Int32) (x4 : Int32) (x5 : Int32) (x6 : Int32) (x7 : Int32) (res : Int64 × MS) (hf : fX6_totalOf st x1 x2 x3 x4 x5 x6 x7 = some res) : Met l yX6_totalOf wsX6_totalOf rX6_totalOf (Pm (dC, dI) (tyT cI cJ cZ) (WX6 a b cI cJ cZ st) sz [.ref (a 0), .int x1, .int x2, .int x3, .int x4, .int x5, .int x6, .int x7]) (Qm (dC, dI) (some (.long res.1)) (WX6 a b cI cJ cZ res.2) (va_A (WX6 a b cI cJ cZ st) sz)) 0 0 (va_A (WX6 a b cI cJ cZ st) sz) := by
  refine Met.ofW (cc := cX6_totalOf) (maxL := 14) (ret := (some .long)) (by decide) rfl ?_
  intro p e s m args below meth c s₁ B hml hv
  obtain ⟨hargs, hsz, hP, hK, hD0⟩ := hv
  have hx := B.exec
  have hb := B.bytes
  have hr := B.returns
  have hts := atoms_spec (ws := wsX6_totalOf) B.pre
  have hown : s.vm.findClass RX6 = some m.cls := findClass_of_methodNamed B.named
  have hlocks := B.notSynchronized
  subst hsz
  have hD := hD0.self (sz := s.heap.size)
  generalize hAe : va_A (WX6 a b cI cJ cZ st) s.heap.size = A at hD ⊢
  have hA : ∀ q : Nat, s.heap.size ≤ q → A q := fun q h => by rw [← hAe]; exact Or.inr h
  have hl := lv_entry ([.ref (a 0), .int x1, .int x2, .int x3, .int x4, .int x5, .int x6, .int x7]) (n := 14) (Nat.le_of_ble_eq_true rfl)
  refine W.eq (hargs ▸ lg_entry_eq m [.ref (a 0), .int x1, .int x2, .int x3, .int x4, .int x5, .int x6, .int x7] 14) ?_
  generalize (lg_sl ([.ref (a 0), .int x1, .int x2, .int x3, .int x4, .int x5, .int x6, .int x7]) ++ List.replicate (14 - (lg_sl ([.ref (a 0), .int x1, .int x2, .int x3, .int x4, .int x5, .int x6, .int x7])).length) Slot.unset).toArray = ls at hl ⊢
  have hl : lv_has ls 14 [(0, .ref (a 0)), (1, .int x1), (2, .int x2), (3, .int x3), (4, .int x4), (5, .int x5), (6, .int x6), (7, .int x7)] := hl
  obtain ⟨QQ, hQ⟩ : ∃ QQ : State → Prop, QQ = MQ below (Qm (dC, dI) (some (.long res.1)) (WX6 a b cI cJ cZ res.2) A) args s 0 0 (A) := ⟨_, rfl⟩
  rw [← hQ]
  have l6 : ∀ (x1 : Int32) (x2 : Int32) (x3 : Int32) (x4 : Int32) (x5 : Int32) (x6 : Int32) (x7 : Int32) (fu : Nat) (s0 : MS × Int64 × Int32) (r : (MS × Int64 × Int32) ⊕ (Int64 × MS)), loopN (fun (s : MS × Int64 × Int32) => fX6_totalOf_l6 x1 x2 x3 x4 x5 x6 x7 s.1 s.2.1 s.2.2) fu s0 = some r → ((∀ s', r = .inl s' → (∀ (H : Heap) (locs : List Loc) (ls : Array Slot), IN (dC, dI) (WX6 a b cI cJ cZ s'.1) A s.heap H locs → lv_has ls 14 [(0, .ref (a 0)), (1, .int x1), (2, .int x2), (3, .int x3), (4, .int x4), (5, .int x5), (6, .int x6), (7, .int x7), (8, .long s'.2.1), (10, .int s'.2.2)] → W p l e (headSpec wsX6_totalOf rX6_totalOf).room s m args below meth c H locs 0 0 QQ (F0 m 179 ls []))) ∧ (∀ v, r = .inr v → some v = some res)) → (∀ (H : Heap) (locs : List Loc) (ls : Array Slot), IN (dC, dI) (WX6 a b cI cJ cZ s0.1) A s.heap H locs → lv_has ls 14 [(0, .ref (a 0)), (1, .int x1), (2, .int x2), (3, .int x3), (4, .int x4), (5, .int x5), (6, .int x6), (7, .int x7), (8, .long s0.2.1), (10, .int s0.2.2)] → W p l e (headSpec wsX6_totalOf rX6_totalOf).room s m args below meth c H locs 0 0 QQ (F0 m 6 ls [])) := by
    intro x1 x2 x3 x4 x5 x6 x7 fu s0 r
    have b173 : ∀ (st : MS) (x1 : Int32) (x2 : Int32) (x3 : Int32) (x4 : Int32) (x5 : Int32) (x6 : Int32) (x7 : Int32) (x8 : Int64) (x10 : Int32) (x : (MS × Int64 × Int32) ⊕ ((MS × Int64 × Int32) ⊕ (Int64 × MS))), fX6_totalOf_b173 st x1 x2 x3 x4 x5 x6 x7 x8 x10 = some x → (∀ s', x = .inl s' → (∀ (H : Heap) (locs : List Loc) (ls : Array Slot), IN (dC, dI) (WX6 a b cI cJ cZ s'.1) A s.heap H locs → lv_has ls 14 [(0, .ref (a 0)), (1, .int x1), (2, .int x2), (3, .int x3), (4, .int x4), (5, .int x5), (6, .int x6), (7, .int x7), (8, .long s'.2.1), (10, .int s'.2.2)] → W p l e (headSpec wsX6_totalOf rX6_totalOf).room s m args below meth c H locs 0 0 QQ (F0 m 6 ls []))) → (∀ r, x = .inr r → ((∀ s', r = .inl s' → (∀ (H : Heap) (locs : List Loc) (ls : Array Slot), IN (dC, dI) (WX6 a b cI cJ cZ s'.1) A s.heap H locs → lv_has ls 14 [(0, .ref (a 0)), (1, .int x1), (2, .int x2), (3, .int x3), (4, .int x4), (5, .int x5), (6, .int x6), (7, .int x7), (8, .long s'.2.1), (10, .int s'.2.2)] → W p l e (headSpec wsX6_totalOf rX6_totalOf).room s m args below meth c H locs 0 0 QQ (F0 m 179 ls []))) ∧ (∀ v, r = .inr v → some v = some res))) → (∀ (H : Heap) (locs : List Loc) (ls : Array Slot), IN (dC, dI) (WX6 a b cI cJ cZ st) A s.heap H locs → lv_has ls 14 [(0, .ref (a 0)), (1, .int x1), (2, .int x2), (3, .int x3), (4, .int x4), (5, .int x5), (6, .int x6), (7, .int x7), (8, .long x8), (10, .int x10)] → W p l e (headSpec wsX6_totalOf rX6_totalOf).room s m args below meth c H locs 0 0 QQ (F0 m 173 ls [])) := by
      intro st x1 x2 x3 x4 x5 x6 x7 x8 x10 x hf kc ke
      intro H locs ls hin hl
      obtain ⟨hP, hD, hS⟩ := hin
      unfold fX6_totalOf_b173 at hf
      refine lv_iinc (v := (x10 + (1 : Int32))) (lv' := [(10, .int (x10 + (1 : Int32))), (0, .ref (a 0)), (1, .int x1), (2, .int x2), (3, .int x3), (4, .int x4), (5, .int x5), (6, .int x6), (7, .int x7), (8, .long x8)]) hx hb dX6_totalOf_173 hl (k := 9) rfl rfl (by decide) rfl (fun ls hl => ?_)
      refine lv_goto (tgt := 6) hx hb dX6_totalOf_176 (by decide) ?_
      obtain rfl := Option.some.inj hf
      exact kc _ rfl H locs ls ⟨hP, hD, hS⟩ (lv_sub hl [1, 2, 3, 4, 5, 6, 7, 8, 9, 0] rfl)
    have b170 : ∀ (st : MS) (x1 : Int32) (x2 : Int32) (x3 : Int32) (x4 : Int32) (x5 : Int32) (x6 : Int32) (x7 : Int32) (x10 : Int32) (k0 : Int64) (k1 : Int64) (x : (MS × Int64 × Int32) ⊕ ((MS × Int64 × Int32) ⊕ (Int64 × MS))), fX6_totalOf_b170 st x1 x2 x3 x4 x5 x6 x7 x10 k0 k1 = some x → (∀ s', x = .inl s' → (∀ (H : Heap) (locs : List Loc) (ls : Array Slot), IN (dC, dI) (WX6 a b cI cJ cZ s'.1) A s.heap H locs → lv_has ls 14 [(0, .ref (a 0)), (1, .int x1), (2, .int x2), (3, .int x3), (4, .int x4), (5, .int x5), (6, .int x6), (7, .int x7), (8, .long s'.2.1), (10, .int s'.2.2)] → W p l e (headSpec wsX6_totalOf rX6_totalOf).room s m args below meth c H locs 0 0 QQ (F0 m 6 ls []))) → (∀ r, x = .inr r → ((∀ s', r = .inl s' → (∀ (H : Heap) (locs : List Loc) (ls : Array Slot), IN (dC, dI) (WX6 a b cI cJ cZ s'.1) A s.heap H locs → lv_has ls 14 [(0, .ref (a 0)), (1, .int x1), (2, .int x2), (3, .int x3), (4, .int x4), (5, .int x5), (6, .int x6), (7, .int x7), (8, .long s'.2.1), (10, .int s'.2.2)] → W p l e (headSpec wsX6_totalOf rX6_totalOf).room s m args below meth c H locs 0 0 QQ (F0 m 179 ls []))) ∧ (∀ v, r = .inr v → some v = some res))) → (∀ (H : Heap) (locs : List Loc) (ls : Array Slot), IN (dC, dI) (WX6 a b cI cJ cZ st) A s.heap H locs → lv_has ls 14 [(0, .ref (a 0)), (1, .int x1), (2, .int x2), (3, .int x3), (4, .int x4), (5, .int x5), (6, .int x6), (7, .int x7), (10, .int x10)] → W p l e (headSpec wsX6_totalOf rX6_totalOf).room s m args below meth c H locs 0 0 QQ (F0 m 170 ls [.long k1, .long k0])) := by
      intro st x1 x2 x3 x4 x5 x6 x7 x10 k0 k1 x hf kc ke
      intro H locs ls hin hl
      obtain ⟨hP, hD, hS⟩ := hin
      unfold fX6_totalOf_b170 at hf
      refine lv_ladd hx hb dX6_totalOf_170 ?_
      refine lv_lstore (lv' := [(8, .long (k0 + k1)), (0, .ref (a 0)), (1, .int x1), (2, .int x2), (3, .int x3), (4, .int x4), (5, .int x5), (6, .int x6), (7, .int x7), (10, .int x10)]) hx hb dX6_totalOf_171 hl (by decide) rfl (fun ls hl => ?_)
      exact b173 st x1 x2 x3 x4 x5 x6 x7 (k0 + k1) x10 _ hf kc ke H locs ls ⟨hP, hD, hS⟩ (lv_sub hl [1, 2, 3, 4, 5, 6, 7, 8, 0, 9] rfl)
    have b132 : ∀ (st : MS) (x1 : Int32) (x2 : Int32) (x3 : Int32) (x4 : Int32) (x5 : Int32) (x6 : Int32) (x7 : Int32) (x8 : Int64) (x10 : Int32) (x12 : Int64) (x : (MS × Int64 × Int32) ⊕ ((MS × Int64 × Int32) ⊕ (Int64 × MS))), fX6_totalOf_b132 st x1 x2 x3 x4 x5 x6 x7 x8 x10 x12 = some x → (∀ s', x = .inl s' → (∀ (H : Heap) (locs : List Loc) (ls : Array Slot), IN (dC, dI) (WX6 a b cI cJ cZ s'.1) A s.heap H locs → lv_has ls 14 [(0, .ref (a 0)), (1, .int x1), (2, .int x2), (3, .int x3), (4, .int x4), (5, .int x5), (6, .int x6), (7, .int x7), (8, .long s'.2.1), (10, .int s'.2.2)] → W p l e (headSpec wsX6_totalOf rX6_totalOf).room s m args below meth c H locs 0 0 QQ (F0 m 6 ls []))) → (∀ r, x = .inr r → ((∀ s', r = .inl s' → (∀ (H : Heap) (locs : List Loc) (ls : Array Slot), IN (dC, dI) (WX6 a b cI cJ cZ s'.1) A s.heap H locs → lv_has ls 14 [(0, .ref (a 0)), (1, .int x1), (2, .int x2), (3, .int x3), (4, .int x4), (5, .int x5), (6, .int x6), (7, .int x7), (8, .long s'.2.1), (10, .int s'.2.2)] → W p l e (headSpec wsX6_totalOf rX6_totalOf).room s m args below meth c H locs 0 0 QQ (F0 m 179 ls []))) ∧ (∀ v, r = .inr v → some v = some res))) → (∀ (H : Heap) (locs : List Loc) (ls : Array Slot), IN (dC, dI) (WX6 a b cI cJ cZ st) A s.heap H locs → lv_has ls 14 [(0, .ref (a 0)), (1, .int x1), (2, .int x2), (3, .int x3), (4, .int x4), (5, .int x5), (6, .int x6), (7, .int x7), (8, .long x8), (10, .int x10), (12, .long x12)] → W p l e (headSpec wsX6_totalOf rX6_totalOf).room s m args below meth c H locs 0 0 QQ (F0 m 132 ls [])) := by
      intro st x1 x2 x3 x4 x5 x6 x7 x8 x10 x12 x hf kc ke
      intro H locs ls hin hl
      obtain ⟨hP, hD, hS⟩ := hin
      unfold fX6_totalOf_b132 at hf
      refine lv_lload hx hb dX6_totalOf_132 (lv_at hl 8 rfl) ?_
      refine lv_aload_n hx hb dX6_totalOf_134 rfl (lv_at hl 0 rfl) ?_
      refine va_get (D := (dC, dI)) (ci := 6) (v := .ref (a 18)) (C := RX6) (T := TX6) (N := 26) hx hb hts kX6_totalOf_X6 hown hK hP 0 rfl rfl 23 (by decide) (hts _ mX6_totalOf_4) (fun _ h9 => h9) rfl dX6_totalOf_135 ?_
      refine lv_aload_n hx hb dX6_totalOf_138 rfl (lv_at hl 0 rfl) ?_
      refine va_get (D := (dC, dI)) (ci := 6) (v := .ref (a 5)) (C := RX6) (T := TX6) (N := 26) hx hb hts kX6_totalOf_X6 hown hK hP 0 rfl rfl 8 (by decide) (hts _ mX6_totalOf_3) (fun _ h9 => h9) rfl dX6_totalOf_139 ?_
      refine lv_iload hx hb dX6_totalOf_142 (lv_at hl 9 rfl) ?_
      obtain ⟨hi14, hf⟩ := it_s hf
      refine va_iald hx hb hK hP 5 0 rfl rfl (inb_in hi14) dX6_totalOf_144 ?_
      obtain ⟨hi15, hf⟩ := it_s hf
      refine va_lald hx hb hK hP 18 1 rfl rfl (inb_in hi15) dX6_totalOf_145 ?_
      refine lv_lconst (v := (0 : Int64)) hx hb dX6_totalOf_146 (by decide) ?_
      refine W.lcmp hx hb dX6_totalOf_147 ?_
      refine lv_if_le (tgt := 169) hx hb dX6_totalOf_148 (by decide) (fun c16 => ?_) (fun c16 => ?_)
      · replace hf := it_p c16 hf
        refine lv_lconst (v := (0 : Int64)) hx hb dX6_totalOf_169 (by decide) ?_
        exact b170 st x1 x2 x3 x4 x5 x6 x7 x10 x8 (0 : Int64) _ hf kc ke H locs ls ⟨hP, hD, hS⟩ (lv_sub hl [0, 1, 2, 3, 4, 5, 6, 7, 9] rfl)
      · replace hf := it_n c16 hf
        refine lv_lload hx hb dX6_totalOf_151 (lv_at hl 10 rfl) ?_
        refine lv_aload_n hx hb dX6_totalOf_153 rfl (lv_at hl 0 rfl) ?_
        refine va_get (D := (dC, dI)) (ci := 6) (v := .ref (a 18)) (C := RX6) (T := TX6) (N := 26) hx hb hts kX6_totalOf_X6 hown hK hP 0 rfl rfl 23 (by decide) (hts _ mX6_totalOf_4) (fun _ h9 => h9) rfl dX6_totalOf_154 ?_
        refine lv_aload_n hx hb dX6_totalOf_157 rfl (lv_at hl 0 rfl) ?_
        refine va_get (D := (dC, dI)) (ci := 6) (v := .ref (a 5)) (C := RX6) (T := TX6) (N := 26) hx hb hts kX6_totalOf_X6 hown hK hP 0 rfl rfl 8 (by decide) (hts _ mX6_totalOf_3) (fun _ h9 => h9) rfl dX6_totalOf_158 ?_
        refine lv_iload hx hb dX6_totalOf_161 (lv_at hl 9 rfl) ?_
        obtain ⟨hi17, hf⟩ := it_s hf
        refine va_iald hx hb hK hP 5 0 rfl rfl (inb_in hi17) dX6_totalOf_163 ?_
        obtain ⟨hi18, hf⟩ := it_s hf
        refine va_lald hx hb hK hP 18 1 rfl rfl (inb_in hi18) dX6_totalOf_164 ?_
        refine lv_lmul hx hb dX6_totalOf_165 ?_
        refine lv_goto (tgt := 170) hx hb dX6_totalOf_166 (by decide) ?_
        exact b170 st x1 x2 x3 x4 x5 x6 x7 x10 x8 (x12 * ((MS_share st) (((MS_unitOf st) (x10).toNatClampNeg)).toNatClampNeg)) _ hf kc ke H locs ls ⟨hP, hD, hS⟩ (lv_sub hl [0, 1, 2, 3, 4, 5, 6, 7, 9] rfl)
    have b82 : ∀ (st : MS) (x1 : Int32) (x2 : Int32) (x3 : Int32) (x4 : Int32) (x5 : Int32) (x6 : Int32) (x7 : Int32) (x8 : Int64) (x10 : Int32) (x11 : Int32) (x : (MS × Int64 × Int32) ⊕ ((MS × Int64 × Int32) ⊕ (Int64 × MS))), fX6_totalOf_b82 st x1 x2 x3 x4 x5 x6 x7 x8 x10 x11 = some x → (∀ s', x = .inl s' → (∀ (H : Heap) (locs : List Loc) (ls : Array Slot), IN (dC, dI) (WX6 a b cI cJ cZ s'.1) A s.heap H locs → lv_has ls 14 [(0, .ref (a 0)), (1, .int x1), (2, .int x2), (3, .int x3), (4, .int x4), (5, .int x5), (6, .int x6), (7, .int x7), (8, .long s'.2.1), (10, .int s'.2.2)] → W p l e (headSpec wsX6_totalOf rX6_totalOf).room s m args below meth c H locs 0 0 QQ (F0 m 6 ls []))) → (∀ r, x = .inr r → ((∀ s', r = .inl s' → (∀ (H : Heap) (locs : List Loc) (ls : Array Slot), IN (dC, dI) (WX6 a b cI cJ cZ s'.1) A s.heap H locs → lv_has ls 14 [(0, .ref (a 0)), (1, .int x1), (2, .int x2), (3, .int x3), (4, .int x4), (5, .int x5), (6, .int x6), (7, .int x7), (8, .long s'.2.1), (10, .int s'.2.2)] → W p l e (headSpec wsX6_totalOf rX6_totalOf).room s m args below meth c H locs 0 0 QQ (F0 m 179 ls []))) ∧ (∀ v, r = .inr v → some v = some res))) → (∀ (H : Heap) (locs : List Loc) (ls : Array Slot), IN (dC, dI) (WX6 a b cI cJ cZ st) A s.heap H locs → lv_has ls 14 [(0, .ref (a 0)), (1, .int x1), (2, .int x2), (3, .int x3), (4, .int x4), (5, .int x5), (6, .int x6), (7, .int x7), (8, .long x8), (10, .int x10), (11, .int x11)] → W p l e (headSpec wsX6_totalOf rX6_totalOf).room s m args below meth c H locs 0 0 QQ (F0 m 82 ls [])) := by
      intro st x1 x2 x3 x4 x5 x6 x7 x8 x10 x11 x hf kc ke
      intro H locs ls hin hl
      obtain ⟨hP, hD, hS⟩ := hin
      unfold fX6_totalOf_b82 at hf
      refine lv_aload_n hx hb dX6_totalOf_82 rfl (lv_at hl 0 rfl) ?_
      refine lv_iload hx hb dX6_totalOf_83 (lv_at hl 10 rfl) ?_
      obtain ⟨p7, hc8, hf⟩ := bind_s hf
      refine cmV (wr := []) ⟨hx, hb, hml, hown, hts⟩ (ct_X6_shares l dC dI a b cI cJ cZ H.size st x11 p7 hc8) (cwV 1 hts gX6_totalOf_X6_shares rfl rfl rfl (by decide +kernel) ⟨(Nat.le_of_ble_eq_true rfl), (Nat.le_of_ble_eq_true rfl)⟩) hK hP hD hS hA [0, 1, 2, 3, 4, 5, 6, 7, 8, 9, 10, 11, 12, 13, 14, 15, 16, 17, 18, 19, 20] [] rfl rfl (by decide) rfl (by decide) (by decide) rfl rfl rfl hl.1 rfl (Nat.le_of_ble_eq_true rfl) (Nat.le_of_ble_eq_true rfl) (Nat.le_of_ble_eq_true rfl) dX6_totalOf_85 (fun H locs hP hD hS => ?_)
      replace hP : va_P (dC, dI) vwCl (WX6 a b cI cJ cZ p7) H := hP
      replace hD : va_D A (WX6 a b cI cJ cZ p7) := hD
      refine W.eq (g2 := F0 m 88 ls []) rfl ?_
      refine lv_aload_n hx hb dX6_totalOf_88 rfl (lv_at hl 0 rfl) ?_
      refine lv_iload hx hb dX6_totalOf_89 (lv_at hl 9 rfl) ?_
      refine lv_iload hx hb dX6_totalOf_91 (lv_at hl 4 rfl) ?_
      refine lv_iload hx hb dX6_totalOf_93 (lv_at hl 5 rfl) ?_
      refine lv_iload hx hb dX6_totalOf_95 (lv_at hl 7 rfl) ?_
      obtain ⟨r9, hc10, hf⟩ := bind_s hf
      refine cpV (v := .long r9) ⟨hx, hb, hml, hown, hts⟩ (ct_X6_tonsOf l dC dI a b cI cJ cZ p7 x10 x4 x5 x7 r9 hc10) (cwV 4 hts gX6_totalOf_X6_tonsOf rfl rfl rfl (by decide +kernel) ⟨(Nat.le_of_ble_eq_true rfl), (Nat.le_of_ble_eq_true rfl)⟩) hK hP [0, 1, 2, 3, 4, 5, 6, 7, 8, 9, 10, 11, 12, 13, 14, 15, 16, 17, 18, 19, 20] rfl rfl rfl rfl hl.1 rfl (Nat.le_of_ble_eq_true rfl) (Nat.le_of_ble_eq_true rfl) (Nat.le_of_ble_eq_true rfl) dX6_totalOf_97 ?_
      refine lv_lstore (lv' := [(12, .long r9), (0, .ref (a 0)), (1, .int x1), (2, .int x2), (3, .int x3), (4, .int x4), (5, .int x5), (6, .int x6), (7, .int x7), (8, .long x8), (10, .int x10), (11, .int x11)]) hx hb dX6_totalOf_100 hl (by decide) rfl (fun ls hl => ?_)
      refine lv_aload_n hx hb dX6_totalOf_102 rfl (lv_at hl 1 rfl) ?_
      refine va_get (D := (dC, dI)) (ci := 6) (v := .ref (a 18)) (C := RX6) (T := TX6) (N := 26) hx hb hts kX6_totalOf_X6 hown hK hP 0 rfl rfl 23 (by decide) (hts _ mX6_totalOf_4) (fun _ h9 => h9) rfl dX6_totalOf_103 ?_
      refine lv_aload_n hx hb dX6_totalOf_106 rfl (lv_at hl 1 rfl) ?_
      refine va_get (D := (dC, dI)) (ci := 6) (v := .ref (a 5)) (C := RX6) (T := TX6) (N := 26) hx hb hts kX6_totalOf_X6 hown hK hP 0 rfl rfl 8 (by decide) (hts _ mX6_totalOf_3) (fun _ h9 => h9) rfl dX6_totalOf_107 ?_
      refine lv_iload hx hb dX6_totalOf_110 (lv_at hl 10 rfl) ?_
      obtain ⟨hi11, hf⟩ := it_s hf
      refine va_iald hx hb hK hP 5 0 rfl rfl (inb_in hi11) dX6_totalOf_112 ?_
      obtain ⟨hi12, hf⟩ := it_s hf
      refine va_lald hx hb hK hP 18 1 rfl rfl (inb_in hi12) dX6_totalOf_113 ?_
      refine lv_lconst (v := (0 : Int64)) hx hb dX6_totalOf_114 (by decide) ?_
      refine W.lcmp hx hb dX6_totalOf_115 ?_
      refine lv_if_le (tgt := 132) hx hb dX6_totalOf_116 (by decide) (fun c13 => ?_) (fun c13 => ?_)
      · replace hf := it_p c13 hf
        exact b132 p7 x1 x2 x3 x4 x5 x6 x7 x8 x10 r9 _ hf kc ke H locs ls ⟨hP, hD, hS⟩ (lv_sub hl [1, 2, 3, 4, 5, 6, 7, 8, 9, 10, 0] rfl)
      · replace hf := it_n c13 hf
        refine lv_lload hx hb dX6_totalOf_119 (lv_at hl 0 rfl) ?_
        refine lv_ldc2 (v := (-9 : Int64)) hx hb hown (hts _ mX6_totalOf_5) dX6_totalOf_121 ?_
        refine W.lcmp hx hb dX6_totalOf_124 ?_
        refine lv_if_ne (tgt := 132) hx hb dX6_totalOf_125 (by decide) (fun c19 => ?_) (fun c19 => ?_)
        · replace hf := it_n c19 hf
          exact b132 p7 x1 x2 x3 x4 x5 x6 x7 x8 x10 r9 _ hf kc ke H locs ls ⟨hP, hD, hS⟩ (lv_sub hl [1, 2, 3, 4, 5, 6, 7, 8, 9, 10, 0] rfl)
        · replace hf := it_p c19 hf
          refine lv_ldc2 (v := (-9 : Int64)) hx hb hown (hts _ mX6_totalOf_5) dX6_totalOf_128 ?_
          obtain rfl := Option.some.inj hf
          replace hf := (ke _ rfl).2 _ rfl
          obtain rfl := Option.some.inj hf
          rw [hQ]
          exact W.lret hx hb hr (fun t ht hW => ⟨rfl, ⟨by rw [ht]; exact hP, hD⟩, hS.F ht⟩) hS.2.2 dX6_totalOf_131
    have b66 : ∀ (st : MS) (x1 : Int32) (x2 : Int32) (x3 : Int32) (x4 : Int32) (x5 : Int32) (x6 : Int32) (x7 : Int32) (x8 : Int64) (x10 : Int32) (x11 : Int32) (x : (MS × Int64 × Int32) ⊕ ((MS × Int64 × Int32) ⊕ (Int64 × MS))), fX6_totalOf_b66 st x1 x2 x3 x4 x5 x6 x7 x8 x10 x11 = some x → (∀ s', x = .inl s' → (∀ (H : Heap) (locs : List Loc) (ls : Array Slot), IN (dC, dI) (WX6 a b cI cJ cZ s'.1) A s.heap H locs → lv_has ls 14 [(0, .ref (a 0)), (1, .int x1), (2, .int x2), (3, .int x3), (4, .int x4), (5, .int x5), (6, .int x6), (7, .int x7), (8, .long s'.2.1), (10, .int s'.2.2)] → W p l e (headSpec wsX6_totalOf rX6_totalOf).room s m args below meth c H locs 0 0 QQ (F0 m 6 ls []))) → (∀ r, x = .inr r → ((∀ s', r = .inl s' → (∀ (H : Heap) (locs : List Loc) (ls : Array Slot), IN (dC, dI) (WX6 a b cI cJ cZ s'.1) A s.heap H locs → lv_has ls 14 [(0, .ref (a 0)), (1, .int x1), (2, .int x2), (3, .int x3), (4, .int x4), (5, .int x5), (6, .int x6), (7, .int x7), (8, .long s'.2.1), (10, .int s'.2.2)] → W p l e (headSpec wsX6_totalOf rX6_totalOf).room s m args below meth c H locs 0 0 QQ (F0 m 179 ls []))) ∧ (∀ v, r = .inr v → some v = some res))) → (∀ (H : Heap) (locs : List Loc) (ls : Array Slot), IN (dC, dI) (WX6 a b cI cJ cZ st) A s.heap H locs → lv_has ls 14 [(0, .ref (a 0)), (1, .int x1), (2, .int x2), (3, .int x3), (4, .int x4), (5, .int x5), (6, .int x6), (7, .int x7), (8, .long x8), (10, .int x10), (11, .int x11)] → W p l e (headSpec wsX6_totalOf rX6_totalOf).room s m args below meth c H locs 0 0 QQ (F0 m 66 ls [])) := by
      intro st x1 x2 x3 x4 x5 x6 x7 x8 x10 x11 x hf kc ke
      intro H locs ls hin hl
      obtain ⟨hP, hD, hS⟩ := hin
      unfold fX6_totalOf_b66 at hf
      refine lv_iload hx hb dX6_totalOf_66 (lv_at hl 6 rfl) ?_
      refine lv_if_eq (tgt := 82) hx hb dX6_totalOf_68 (by decide) (fun c6 => ?_) (fun c6 => ?_)
      · replace hf := it_p c6 hf
        exact b82 st x1 x2 x3 x4 x5 x6 x7 x8 x10 x11 _ hf kc ke H locs ls ⟨hP, hD, hS⟩ (lv_sub hl [0, 1, 2, 3, 4, 5, 6, 7, 8, 9, 10] rfl)
      · replace hf := it_n c6 hf
        refine lv_aload_n hx hb dX6_totalOf_71 rfl (lv_at hl 0 rfl) ?_
        refine lv_iload hx hb dX6_totalOf_72 (lv_at hl 9 rfl) ?_
        refine lv_iload hx hb dX6_totalOf_74 (lv_at hl 10 rfl) ?_
        obtain ⟨p20, hc21, hf⟩ := bind_s hf
        refine cmV (wr := []) ⟨hx, hb, hml, hown, hts⟩ (ct_X6_isDouble l dC dI a b cI cJ cZ H.size st x10 x11 p20 hc21) (cwV 2 hts gX6_totalOf_X6_isDouble rfl rfl rfl (by decide +kernel) ⟨(Nat.le_of_ble_eq_true rfl), (Nat.le_of_ble_eq_true rfl)⟩) hK hP hD hS hA [0, 1, 2, 3, 4, 5, 6, 7, 8, 9, 10, 11, 12, 13, 14, 15, 16, 17, 18, 19, 20] [] rfl rfl (by decide) rfl (by decide) (by decide) rfl rfl rfl hl.1 rfl (Nat.le_of_ble_eq_true rfl) (Nat.le_of_ble_eq_true rfl) (Nat.le_of_ble_eq_true rfl) dX6_totalOf_76 (fun H locs hP hD hS => ?_)
        replace hP : va_P (dC, dI) vwCl (WX6 a b cI cJ cZ p20.2) H := hP
        replace hD : va_D A (WX6 a b cI cJ cZ p20.2) := hD
        refine W.eq (g2 := F0 m 79 ls [.int p20.1]) rfl ?_
        refine lv_if_ne (tgt := 173) hx hb dX6_totalOf_79 (by decide) (fun c22 => ?_) (fun c22 => ?_)
        · replace hf := it_n c22 hf
          exact b173 p20.2 x1 x2 x3 x4 x5 x6 x7 x8 x10 _ hf kc ke H locs ls ⟨hP, hD, hS⟩ (lv_sub hl [0, 1, 2, 3, 4, 5, 6, 7, 8, 9] rfl)
        · replace hf := it_p c22 hf
          exact b82 p20.2 x1 x2 x3 x4 x5 x6 x7 x8 x10 x11 _ hf kc ke H locs ls ⟨hP, hD, hS⟩ (lv_sub hl [0, 1, 2, 3, 4, 5, 6, 7, 8, 9, 10] rfl)
    have b32 : ∀ (st : MS) (x1 : Int32) (x2 : Int32) (x3 : Int32) (x4 : Int32) (x5 : Int32) (x6 : Int32) (x7 : Int32) (x8 : Int64) (x10 : Int32) (k0 : Int32) (x : (MS × Int64 × Int32) ⊕ ((MS × Int64 × Int32) ⊕ (Int64 × MS))), fX6_totalOf_b32 st x1 x2 x3 x4 x5 x6 x7 x8 x10 k0 = some x → (∀ s', x = .inl s' → (∀ (H : Heap) (locs : List Loc) (ls : Array Slot), IN (dC, dI) (WX6 a b cI cJ cZ s'.1) A s.heap H locs → lv_has ls 14 [(0, .ref (a 0)), (1, .int x1), (2, .int x2), (3, .int x3), (4, .int x4), (5, .int x5), (6, .int x6), (7, .int x7), (8, .long s'.2.1), (10, .int s'.2.2)] → W p l e (headSpec wsX6_totalOf rX6_totalOf).room s m args below meth c H locs 0 0 QQ (F0 m 6 ls []))) → (∀ r, x = .inr r → ((∀ s', r = .inl s' → (∀ (H : Heap) (locs : List Loc) (ls : Array Slot), IN (dC, dI) (WX6 a b cI cJ cZ s'.1) A s.heap H locs → lv_has ls 14 [(0, .ref (a 0)), (1, .int x1), (2, .int x2), (3, .int x3), (4, .int x4), (5, .int x5), (6, .int x6), (7, .int x7), (8, .long s'.2.1), (10, .int s'.2.2)] → W p l e (headSpec wsX6_totalOf rX6_totalOf).room s m args below meth c H locs 0 0 QQ (F0 m 179 ls []))) ∧ (∀ v, r = .inr v → some v = some res))) → (∀ (H : Heap) (locs : List Loc) (ls : Array Slot), IN (dC, dI) (WX6 a b cI cJ cZ st) A s.heap H locs → lv_has ls 14 [(0, .ref (a 0)), (1, .int x1), (2, .int x2), (3, .int x3), (4, .int x4), (5, .int x5), (6, .int x6), (7, .int x7), (8, .long x8), (10, .int x10)] → W p l e (headSpec wsX6_totalOf rX6_totalOf).room s m args below meth c H locs 0 0 QQ (F0 m 32 ls [.int k0])) := by
      intro st x1 x2 x3 x4 x5 x6 x7 x8 x10 k0 x hf kc ke
      intro H locs ls hin hl
      obtain ⟨hP, hD, hS⟩ := hin
      unfold fX6_totalOf_b32 at hf
      refine lv_istore (lv' := [(11, .int k0), (0, .ref (a 0)), (1, .int x1), (2, .int x2), (3, .int x3), (4, .int x4), (5, .int x5), (6, .int x6), (7, .int x7), (8, .long x8), (10, .int x10)]) hx hb dX6_totalOf_32 hl (by decide) rfl (fun ls hl => ?_)
      refine lv_aload_n hx hb dX6_totalOf_34 rfl (lv_at hl 1 rfl) ?_
      refine va_get (D := (dC, dI)) (ci := 6) (v := .ref (a 8)) (C := RX6) (T := TX6) (N := 26) hx hb hts kX6_totalOf_X6 hown hK hP 0 rfl rfl 11 (by decide) (hts _ mX6_totalOf_2) (fun _ h9 => h9) rfl dX6_totalOf_35 ?_
      refine lv_iload hx hb dX6_totalOf_38 (lv_at hl 10 rfl) ?_
      obtain ⟨hi3, hf⟩ := it_s hf
      refine va_iald hx hb hK hP 8 0 rfl rfl (inb_in hi3) dX6_totalOf_40 ?_
      refine lv_sipush (v := (365 : Int32)) hx hb dX6_totalOf_41 (by decide) ?_
      refine lv_idiv hx hb dX6_totalOf_44 (by decide) ?_
      refine lv_iload_n hx hb dX6_totalOf_45 rfl (lv_at hl 3 rfl) ?_
      refine lv_icmp_ne (tgt := 173) hx hb dX6_totalOf_46 (by decide) (fun c4 => ?_) (fun c4 => ?_)
      · replace hf := it_n c4 hf
        exact b173 st x1 x2 x3 x4 x5 x6 x7 x8 x10 _ hf kc ke H locs ls ⟨hP, hD, hS⟩ (lv_sub hl [1, 2, 3, 4, 5, 6, 7, 8, 9, 10] rfl)
      · replace hf := it_p c4 hf
        refine lv_iload_n hx hb dX6_totalOf_49 rfl (lv_at hl 2 rfl) ?_
        refine lv_bipush (v := (-9 : Int32)) hx hb dX6_totalOf_50 (by decide) ?_
        refine lv_icmp_eq (tgt := 66) hx hb dX6_totalOf_52 (by decide) (fun c5 => ?_) (fun c5 => ?_)
        · replace hf := it_p c5 hf
          exact b66 st x1 x2 x3 x4 x5 x6 x7 x8 x10 k0 _ hf kc ke H locs ls ⟨hP, hD, hS⟩ (lv_sub hl [1, 2, 3, 4, 5, 6, 7, 8, 9, 10, 0] rfl)
        · replace hf := it_n c5 hf
          refine lv_aload_n hx hb dX6_totalOf_55 rfl (lv_at hl 1 rfl) ?_
          refine va_get (D := (dC, dI)) (ci := 6) (v := .ref (a 5)) (C := RX6) (T := TX6) (N := 26) hx hb hts kX6_totalOf_X6 hown hK hP 0 rfl rfl 8 (by decide) (hts _ mX6_totalOf_3) (fun _ h9 => h9) rfl dX6_totalOf_56 ?_
          refine lv_iload hx hb dX6_totalOf_59 (lv_at hl 10 rfl) ?_
          obtain ⟨hi23, hf⟩ := it_s hf
          refine va_iald hx hb hK hP 5 0 rfl rfl (inb_in hi23) dX6_totalOf_61 ?_
          refine lv_iload_n hx hb dX6_totalOf_62 rfl (lv_at hl 2 rfl) ?_
          refine lv_icmp_ne (tgt := 173) hx hb dX6_totalOf_63 (by decide) (fun c24 => ?_) (fun c24 => ?_)
          · replace hf := it_n c24 hf
            exact b173 st x1 x2 x3 x4 x5 x6 x7 x8 x10 _ hf kc ke H locs ls ⟨hP, hD, hS⟩ (lv_sub hl [1, 2, 3, 4, 5, 6, 7, 8, 9, 10] rfl)
          · replace hf := it_p c24 hf
            exact b66 st x1 x2 x3 x4 x5 x6 x7 x8 x10 k0 _ hf kc ke H locs ls ⟨hP, hD, hS⟩ (lv_sub hl [1, 2, 3, 4, 5, 6, 7, 8, 9, 10, 0] rfl)
    refine loop_ind (P := fun s0 => ∀ (H : Heap) (locs : List Loc) (ls : Array Slot), IN (dC, dI) (WX6 a b cI cJ cZ s0.1) A s.heap H locs → lv_has ls 14 [(0, .ref (a 0)), (1, .int x1), (2, .int x2), (3, .int x3), (4, .int x4), (5, .int x5), (6, .int x6), (7, .int x7), (8, .long s0.2.1), (10, .int s0.2.2)] → W p l e (headSpec wsX6_totalOf rX6_totalOf).room s m args below meth c H locs 0 0 QQ (F0 m 6 ls [])) (Q := fun r => (∀ s', r = .inl s' → (∀ (H : Heap) (locs : List Loc) (ls : Array Slot), IN (dC, dI) (WX6 a b cI cJ cZ s'.1) A s.heap H locs → lv_has ls 14 [(0, .ref (a 0)), (1, .int x1), (2, .int x2), (3, .int x3), (4, .int x4), (5, .int x5), (6, .int x6), (7, .int x7), (8, .long s'.2.1), (10, .int s'.2.2)] → W p l e (headSpec wsX6_totalOf rX6_totalOf).room s m args below meth c H locs 0 0 QQ (F0 m 179 ls []))) ∧ (∀ v, r = .inr v → some v = some res)) ?_ fu s0 r
    clear fu s0 r
    rintro ⟨st, x8, x10⟩ x hf kc ke
    replace hf : fX6_totalOf_l6 x1 x2 x3 x4 x5 x6 x7 st x8 x10 = some x := hf
    replace kc : (∀ s', x = .inl s' → (∀ (H : Heap) (locs : List Loc) (ls : Array Slot), IN (dC, dI) (WX6 a b cI cJ cZ s'.1) A s.heap H locs → lv_has ls 14 [(0, .ref (a 0)), (1, .int x1), (2, .int x2), (3, .int x3), (4, .int x4), (5, .int x5), (6, .int x6), (7, .int x7), (8, .long s'.2.1), (10, .int s'.2.2)] → W p l e (headSpec wsX6_totalOf rX6_totalOf).room s m args below meth c H locs 0 0 QQ (F0 m 6 ls []))) := kc
    replace ke : (∀ r, x = .inr r → ((∀ s', r = .inl s' → (∀ (H : Heap) (locs : List Loc) (ls : Array Slot), IN (dC, dI) (WX6 a b cI cJ cZ s'.1) A s.heap H locs → lv_has ls 14 [(0, .ref (a 0)), (1, .int x1), (2, .int x2), (3, .int x3), (4, .int x4), (5, .int x5), (6, .int x6), (7, .int x7), (8, .long s'.2.1), (10, .int s'.2.2)] → W p l e (headSpec wsX6_totalOf rX6_totalOf).room s m args below meth c H locs 0 0 QQ (F0 m 179 ls []))) ∧ (∀ v, r = .inr v → some v = some res))) := ke
    intro H locs ls hin hl
    obtain ⟨hP, hD, hS⟩ := hin
    unfold fX6_totalOf_l6 at hf
    refine lv_iload hx hb dX6_totalOf_6 (lv_at hl 9 rfl) ?_
    refine lv_aload_n hx hb dX6_totalOf_8 rfl (lv_at hl 0 rfl) ?_
    refine va_get (D := (dC, dI)) (ci := 6) (v := .int (MS_rows st)) (C := RX6) (T := TX6) (N := 26) hx hb hts kX6_totalOf_X6 hown hK hP 0 rfl rfl 7 (by decide) (hts _ mX6_totalOf_1) (fun _ h9 => h9) rfl dX6_totalOf_9 ?_
    refine lv_icmp_ge (tgt := 179) hx hb dX6_totalOf_12 (by decide) (fun c1 => ?_) (fun c1 => ?_)
    · replace hf := it_p c1 hf
      obtain rfl := Option.some.inj hf
      exact (ke _ rfl).1 _ rfl H locs ls ⟨hP, hD, hS⟩ (lv_sub hl [0, 1, 2, 3, 4, 5, 6, 7, 8, 9] rfl)
    · replace hf := it_n c1 hf
      refine lv_iload_n hx hb dX6_totalOf_15 rfl (lv_at hl 3 rfl) ?_
      refine lv_bipush (v := (-9 : Int32)) hx hb dX6_totalOf_16 (by decide) ?_
      refine lv_icmp_ne (tgt := 31) hx hb dX6_totalOf_18 (by decide) (fun c2 => ?_) (fun c2 => ?_)
      · replace hf := it_n c2 hf
        refine lv_iload_n hx hb dX6_totalOf_31 rfl (lv_at hl 3 rfl) ?_
        exact b32 st x1 x2 x3 x4 x5 x6 x7 x8 x10 x3 _ hf kc ke H locs ls ⟨hP, hD, hS⟩ (lv_sub hl [0, 1, 2, 3, 4, 5, 6, 7, 8, 9] rfl)
      · replace hf := it_p c2 hf
        refine lv_aload_n hx hb dX6_totalOf_21 rfl (lv_at hl 0 rfl) ?_
        refine va_get (D := (dC, dI)) (ci := 6) (v := .ref (a 8)) (C := RX6) (T := TX6) (N := 26) hx hb hts kX6_totalOf_X6 hown hK hP 0 rfl rfl 11 (by decide) (hts _ mX6_totalOf_2) (fun _ h9 => h9) rfl dX6_totalOf_22 ?_
        refine lv_iload hx hb dX6_totalOf_25 (lv_at hl 9 rfl) ?_
        obtain ⟨hi25, hf⟩ := it_s hf
        refine va_iald hx hb hK hP 8 0 rfl rfl (inb_in hi25) dX6_totalOf_27 ?_
        refine lv_goto (tgt := 32) hx hb dX6_totalOf_28 (by decide) ?_
        exact b32 st x1 x2 x3 x4 x5 x6 x7 x8 x10 ((MS_day st) (x10).toNatClampNeg) _ hf kc ke H locs ls ⟨hP, hD, hS⟩ (lv_sub hl [0, 1, 2, 3, 4, 5, 6, 7, 8, 9] rfl)
  have main : ∀ (H : Heap) (locs : List Loc) (ls : Array Slot), IN (dC, dI) (WX6 a b cI cJ cZ st) A s.heap H locs → lv_has ls 14 [(0, .ref (a 0)), (1, .int x1), (2, .int x2), (3, .int x3), (4, .int x4), (5, .int x5), (6, .int x6), (7, .int x7)] → W p l e (headSpec wsX6_totalOf rX6_totalOf).room s m args below meth c H locs 0 0 QQ (F0 m 0 ls []) := by
    intro H locs ls hin hl
    obtain ⟨hP, hD, hS⟩ := hin
    unfold fX6_totalOf at hf
    refine lv_lconst (v := (0 : Int64)) hx hb dX6_totalOf_0 (by decide) ?_
    refine lv_lstore (lv' := [(8, .long (0 : Int64)), (0, .ref (a 0)), (1, .int x1), (2, .int x2), (3, .int x3), (4, .int x4), (5, .int x5), (6, .int x6), (7, .int x7)]) hx hb dX6_totalOf_1 hl (by decide) rfl (fun ls hl => ?_)
    refine lv_iconst (v := (0 : Int32)) hx hb dX6_totalOf_3 (by decide) ?_
    refine lv_istore (lv' := [(10, .int (0 : Int32)), (8, .long (0 : Int64)), (0, .ref (a 0)), (1, .int x1), (2, .int x2), (3, .int x3), (4, .int x4), (5, .int x5), (6, .int x6), (7, .int x7)]) hx hb dX6_totalOf_4 hl (by decide) rfl (fun ls hl => ?_)
    obtain ⟨y26, hlp, hf⟩ := bind_s hf
    refine l6 x1 x2 x3 x4 x5 x6 x7 fuelN (st, (0 : Int64), (0 : Int32)) y26 hlp ?_ H locs ls ⟨hP, hD, hS⟩ (lv_sub hl [2, 3, 4, 5, 6, 7, 8, 9, 1, 0] rfl)
    refine ⟨fun e_ he_ => ?_, fun v_ hv_ => ?_⟩
    · subst he_
      replace hf : (some (e_.2.1, e_.1)) = some res := hf
      intro H locs ls hin hl
      obtain ⟨hP, hD, hS⟩ := hin
      refine lv_lload hx hb dX6_totalOf_179 (lv_at hl 8 rfl) ?_
      obtain rfl := Option.some.inj hf
      rw [hQ]
      exact W.lret hx hb hr (fun t ht hW => ⟨rfl, ⟨by rw [ht]; exact hP, hD⟩, hS.F ht⟩) hS.2.2 dX6_totalOf_181
    · subst hv_
      exact hf
  exact main s.heap [] ls ⟨hP, hD, va_S.rf⟩ hl
