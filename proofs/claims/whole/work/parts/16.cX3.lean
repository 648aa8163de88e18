def rX3_insertRun : Room := { frames := 2, cells := 3, slots := 6144, locals := 62 }
theorem kX3_insertRun_X3 : ∀ w ∈ wsX30, w ∈ wsX3_insertRun := fun w h => (List.mem_cons_of_mem _ (List.mem_append_right _ h))
theorem mX3_insertRun_1 : Cond.fieldLink RX3 21 "SmokeLedger$Serials" "size" "I" ∈ wsX3_insertRun := List.mem_of_getElem? (i := 1) rfl
theorem mX3_insertRun_2 : Cond.fieldLink RX3 9 "SmokeLedger$Serials" "first" "[I" ∈ wsX3_insertRun := List.mem_of_getElem? (i := 2) rfl
theorem mX3_insertRun_5 : Cond.methodLink RX3 67 arraycopyName ∈ wsX3_insertRun := List.mem_of_getElem? (i := 5) rfl
theorem mX3_insertRun_6 : Cond.native arraycopyName ∈ wsX3_insertRun := List.mem_of_getElem? (i := 6) rfl
theorem mX3_insertRun_7 : Cond.static arraycopyName ∈ wsX3_insertRun := List.mem_of_getElem? (i := 7) rfl
theorem mX3_insertRun_8 : Cond.initialized "java/lang/System" ∈ wsX3_insertRun := List.mem_of_getElem? (i := 8) rfl
theorem mX3_insertRun_3 : Cond.fieldLink RX3 15 "SmokeLedger$Serials" "owner" "[I" ∈ wsX3_insertRun := List.mem_of_getElem? (i := 3) rfl
theorem mX3_insertRun_4 : Cond.fieldLink RX3 18 "SmokeLedger$Serials" "row" "[I" ∈ wsX3_insertRun := List.mem_of_getElem? (i := 4) rfl
set_option maxHeartbeats 4000000 in
set_option maxRecDepth 100000 in
theorem ct_X3_insertRun (l : Launch) (dC : Nat → ClassId) (dI : Nat → Nat → Nat) (a b : Nat → Nat) (cI cJ cZ : ClassId) (sz : Nat) (st : SS) (x1 : Int32) (x2 : Int32) (x3 : Int32) (x4 : Int32) (res : SS) (hf : fX3_insertRun st x1 x2 x3 x4 = some res) : Met l yX3_insertRun wsX3_insertRun rX3_insertRun (Pm (dC, dI) (tyT cI cJ cZ) (WX3 a b cI cJ cZ st) sz [.ref (a 24), .int x1, .int x2, .int x3, .int x4]) (Qe (dC, dI) none (fun b' => (WX3 a b' cI cJ cZ res)) (va_A (WX3 a b cI cJ cZ st) sz)) 3 6144 (va_A (WX3 a b cI cJ cZ st) sz) := by
  refine Met.ofW (cc := cX3_insertRun) (maxL := 6) (ret := none) (by decide) rfl ?_
  intro p e s m args below meth c s₁ B hml hv
  obtain ⟨hargs, hsz, hP, hK, hD0⟩ := hv
  have hx := B.exec
  have hb := B.bytes
  have hr := B.returns
  have hts := atoms_spec (ws := wsX3_insertRun) B.pre
  have hown : s.vm.findClass RX3 = some m.cls := findClass_of_methodNamed B.named
  have hlocks := B.notSynchronized
  subst hsz
  have hD := hD0.self (sz := s.heap.size)
  generalize hAe : va_A (WX3 a b cI cJ cZ st) s.heap.size = A at hD ⊢
  have hA : ∀ q : Nat, s.heap.size ≤ q → A q := fun q h => by rw [← hAe]; exact Or.inr h
  have hl := lv_entry ([.ref (a 24), .int x1, .int x2, .int x3, .int x4]) (n := 6) (Nat.le_of_ble_eq_true rfl)
  refine W.eq (hargs ▸ lg_entry_eq m [.ref (a 24), .int x1, .int x2, .int x3, .int x4] 6) ?_
  generalize (lg_sl ([.ref (a 24), .int x1, .int x2, .int x3, .int x4]) ++ List.replicate (6 - (lg_sl ([.ref (a 24), .int x1, .int x2, .int x3, .int x4])).length) Slot.unset).toArray = ls at hl ⊢
  have hl : lv_has ls 6 [(0, .ref (a 24)), (1, .int x1), (2, .int x2), (3, .int x3), (4, .int x4)] := hl
  obtain ⟨QQ, hQ⟩ : ∃ QQ : State → Prop, QQ = MQ below (Qe (dC, dI) none (fun b' => (WX3 a b' cI cJ cZ res)) A) args s 3 6144 (A) := ⟨_, rfl⟩
  rw [← hQ]
  have b63 : ∀ (st : SS) (x1 : Int32) (x2 : Int32) (x3 : Int32) (x4 : Int32), fX3_insertRun_b63 st x1 x2 x3 x4 = some res → (∀ (b : Nat → Nat) (H : Heap) (locs : List Loc) (ls : Array Slot), IN (dC, dI) (WX3 a b cI cJ cZ st) A s.heap H locs → lv_has ls 6 [(0, .ref (a 24)), (1, .int x1), (2, .int x2), (3, .int x3), (4, .int x4)] → W p l e (headSpec wsX3_insertRun rX3_insertRun).room s m args below meth c H locs 3 6144 QQ (F0 m 63 ls [])) := by
    intro st x1 x2 x3 x4 hf
    intro b H locs ls hin hl
    obtain ⟨hP, hD, hS⟩ := hin
    unfold fX3_insertRun_b63 at hf
    refine lv_aload_n hx hb dX3_insertRun_63 rfl (lv_at hl 0 rfl) ?_
    refine va_get (D := (dC, dI)) (ci := 3) (v := .int (SS_size st)) (C := RX3) (T := TX3) (N := 5) hx hb hts kX3_insertRun_X3 hown hK hP 0 rfl rfl 3 (by decide) (hts _ mX3_insertRun_1) (fun _ h9 => h9) rfl dX3_insertRun_64 ?_
    refine lv_iload_n hx hb dX3_insertRun_67 rfl (lv_at hl 1 rfl) ?_
    refine lv_isub hx hb dX3_insertRun_68 ?_
    refine lv_istore (lv' := [(5, .int ((SS_size st) - x1)), (0, .ref (a 24)), (1, .int x1), (2, .int x2), (3, .int x3), (4, .int x4)]) hx hb dX3_insertRun_69 hl (by decide) rfl (fun ls hl => ?_)
    refine lv_aload_n hx hb dX3_insertRun_71 rfl (lv_at hl 1 rfl) ?_
    refine va_get (D := (dC, dI)) (ci := 3) (v := .ref (b 0)) (C := RX3) (T := TX3) (N := 5) hx hb hts kX3_insertRun_X3 hown hK hP 0 rfl rfl 0 (by decide) (hts _ mX3_insertRun_2) (fun _ h9 => h9) rfl dX3_insertRun_72 ?_
    refine lv_iload_n hx hb dX3_insertRun_75 rfl (lv_at hl 2 rfl) ?_
    refine lv_aload_n hx hb dX3_insertRun_76 rfl (lv_at hl 1 rfl) ?_
    refine va_get (D := (dC, dI)) (ci := 3) (v := .ref (b 0)) (C := RX3) (T := TX3) (N := 5) hx hb hts kX3_insertRun_X3 hown hK hP 0 rfl rfl 0 (by decide) (hts _ mX3_insertRun_2) (fun _ h9 => h9) rfl dX3_insertRun_77 ?_
    refine lv_iload_n hx hb dX3_insertRun_80 rfl (lv_at hl 2 rfl) ?_
    refine lv_iconst (v := (1 : Int32)) hx hb dX3_insertRun_81 (by decide) ?_
    refine lv_iadd hx hb dX3_insertRun_82 ?_
    refine lv_iload hx hb dX3_insertRun_83 (lv_at hl 0 rfl) ?_
    obtain ⟨ho2, hf⟩ := it_s hf
    obtain ⟨ho21, ho22, ho23, ho24, ho25⟩ := okc_iff.mp ho2
    refine va_copyi hx hb (hml.trans hl.1.symm) hown (hts _ mX3_insertRun_5) (hts _ mX3_insertRun_6) (hts _ mX3_insertRun_7) (hts _ mX3_insertRun_8) hK hP hD hS 1 1 0 0 rfl rfl rfl rfl rfl ho21 ho22 ho23 ho24 ho25 (fun _ _ => rfl) (Nat.le_of_ble_eq_true rfl) (Nat.le_of_ble_eq_true rfl) dX3_insertRun_85 (fun H locs hP hD hS => ?_)
    replace hP : va_P (dC, dI) vwCl (WX3 a b cI cJ cZ (SS_first_s st (va_cpy (SS_first st) (SS_first st) (x1).toNatClampNeg ((x1 + (1 : Int32))).toNatClampNeg (((SS_size st) - x1)).toNatClampNeg))) H := hP
    replace hD : va_D A (WX3 a b cI cJ cZ (SS_first_s st (va_cpy (SS_first st) (SS_first st) (x1).toNatClampNeg ((x1 + (1 : Int32))).toNatClampNeg (((SS_size st) - x1)).toNatClampNeg))) := hD
    refine lv_aload_n hx hb dX3_insertRun_88 rfl (lv_at hl 1 rfl) ?_
    refine va_get (D := (dC, dI)) (ci := 3) (v := .ref (b 1)) (C := RX3) (T := TX3) (N := 5) hx hb hts kX3_insertRun_X3 hown hK hP 0 rfl rfl 1 (by decide) (hts _ mX3_insertRun_3) (fun _ h9 => h9) rfl dX3_insertRun_89 ?_
    refine lv_iload_n hx hb dX3_insertRun_92 rfl (lv_at hl 2 rfl) ?_
    refine lv_aload_n hx hb dX3_insertRun_93 rfl (lv_at hl 1 rfl) ?_
    refine va_get (D := (dC, dI)) (ci := 3) (v := .ref (b 1)) (C := RX3) (T := TX3) (N := 5) hx hb hts kX3_insertRun_X3 hown hK hP 0 rfl rfl 1 (by decide) (hts _ mX3_insertRun_3) (fun _ h9 => h9) rfl dX3_insertRun_94 ?_
    refine lv_iload_n hx hb dX3_insertRun_97 rfl (lv_at hl 2 rfl) ?_
    refine lv_iconst (v := (1 : Int32)) hx hb dX3_insertRun_98 (by decide) ?_
    refine lv_iadd hx hb dX3_insertRun_99 ?_
    refine lv_iload hx hb dX3_insertRun_100 (lv_at hl 0 rfl) ?_
    obtain ⟨ho3, hf⟩ := it_s hf
    obtain ⟨ho31, ho32, ho33, ho34, ho35⟩ := okc_iff.mp ho3
    refine va_copyi hx hb (hml.trans hl.1.symm) hown (hts _ mX3_insertRun_5) (hts _ mX3_insertRun_6) (hts _ mX3_insertRun_7) (hts _ mX3_insertRun_8) hK hP hD hS 2 2 0 0 rfl rfl rfl rfl rfl ho31 ho32 ho33 ho34 ho35 (fun _ _ => rfl) (Nat.le_of_ble_eq_true rfl) (Nat.le_of_ble_eq_true rfl) dX3_insertRun_102 (fun H locs hP hD hS => ?_)
    replace hP : va_P (dC, dI) vwCl (WX3 a b cI cJ cZ (SS_owner_s (SS_first_s st (va_cpy (SS_first st) (SS_first st) (x1).toNatClampNeg ((x1 + (1 : Int32))).toNatClampNeg (((SS_size st) - x1)).toNatClampNeg)) (va_cpy (SS_owner st) (SS_owner st) (x1).toNatClampNeg ((x1 + (1 : Int32))).toNatClampNeg (((SS_size st) - x1)).toNatClampNeg))) H := hP
    replace hD : va_D A (WX3 a b cI cJ cZ (SS_owner_s (SS_first_s st (va_cpy (SS_first st) (SS_first st) (x1).toNatClampNeg ((x1 + (1 : Int32))).toNatClampNeg (((SS_size st) - x1)).toNatClampNeg)) (va_cpy (SS_owner st) (SS_owner st) (x1).toNatClampNeg ((x1 + (1 : Int32))).toNatClampNeg (((SS_size st) - x1)).toNatClampNeg))) := hD
    refine lv_aload_n hx hb dX3_insertRun_105 rfl (lv_at hl 1 rfl) ?_
    refine va_get (D := (dC, dI)) (ci := 3) (v := .ref (b 2)) (C := RX3) (T := TX3) (N := 5) hx hb hts kX3_insertRun_X3 hown hK hP 0 rfl rfl 2 (by decide) (hts _ mX3_insertRun_4) (fun _ h9 => h9) rfl dX3_insertRun_106 ?_
    refine lv_iload_n hx hb dX3_insertRun_109 rfl (lv_at hl 2 rfl) ?_
    refine lv_aload_n hx hb dX3_insertRun_110 rfl (lv_at hl 1 rfl) ?_
    refine va_get (D := (dC, dI)) (ci := 3) (v := .ref (b 2)) (C := RX3) (T := TX3) (N := 5) hx hb hts kX3_insertRun_X3 hown hK hP 0 rfl rfl 2 (by decide) (hts _ mX3_insertRun_4) (fun _ h9 => h9) rfl dX3_insertRun_111 ?_
    refine lv_iload_n hx hb dX3_insertRun_114 rfl (lv_at hl 2 rfl) ?_
    refine lv_iconst (v := (1 : Int32)) hx hb dX3_insertRun_115 (by decide) ?_
    refine lv_iadd hx hb dX3_insertRun_116 ?_
    refine lv_iload hx hb dX3_insertRun_117 (lv_at hl 0 rfl) ?_
    obtain ⟨ho4, hf⟩ := it_s hf
    obtain ⟨ho41, ho42, ho43, ho44, ho45⟩ := okc_iff.mp ho4
    refine va_copyi hx hb (hml.trans hl.1.symm) hown (hts _ mX3_insertRun_5) (hts _ mX3_insertRun_6) (hts _ mX3_insertRun_7) (hts _ mX3_insertRun_8) hK hP hD hS 3 3 0 0 rfl rfl rfl rfl rfl ho41 ho42 ho43 ho44 ho45 (fun _ _ => rfl) (Nat.le_of_ble_eq_true rfl) (Nat.le_of_ble_eq_true rfl) dX3_insertRun_119 (fun H locs hP hD hS => ?_)
    replace hP : va_P (dC, dI) vwCl (WX3 a b cI cJ cZ (SS_row_s (SS_owner_s (SS_first_s st (va_cpy (SS_first st) (SS_first st) (x1).toNatClampNeg ((x1 + (1 : Int32))).toNatClampNeg (((SS_size st) - x1)).toNatClampNeg)) (va_cpy (SS_owner st) (SS_owner st) (x1).toNatClampNeg ((x1 + (1 : Int32))).toNatClampNeg (((SS_size st) - x1)).toNatClampNeg)) (va_cpy (SS_row st) (SS_row st) (x1).toNatClampNeg ((x1 + (1 : Int32))).toNatClampNeg (((SS_size st) - x1)).toNatClampNeg))) H := hP
    replace hD : va_D A (WX3 a b cI cJ cZ (SS_row_s (SS_owner_s (SS_first_s st (va_cpy (SS_first st) (SS_first st) (x1).toNatClampNeg ((x1 + (1 : Int32))).toNatClampNeg (((SS_size st) - x1)).toNatClampNeg)) (va_cpy (SS_owner st) (SS_owner st) (x1).toNatClampNeg ((x1 + (1 : Int32))).toNatClampNeg (((SS_size st) - x1)).toNatClampNeg)) (va_cpy (SS_row st) (SS_row st) (x1).toNatClampNeg ((x1 + (1 : Int32))).toNatClampNeg (((SS_size st) - x1)).toNatClampNeg))) := hD
    refine lv_aload_n hx hb dX3_insertRun_122 rfl (lv_at hl 1 rfl) ?_
    refine va_get (D := (dC, dI)) (ci := 3) (v := .ref (b 0)) (C := RX3) (T := TX3) (N := 5) hx hb hts kX3_insertRun_X3 hown hK hP 0 rfl rfl 0 (by decide) (hts _ mX3_insertRun_2) (fun _ h9 => h9) rfl dX3_insertRun_123 ?_
    refine lv_iload_n hx hb dX3_insertRun_126 rfl (lv_at hl 2 rfl) ?_
    refine lv_iload_n hx hb dX3_insertRun_127 rfl (lv_at hl 3 rfl) ?_
    obtain ⟨hi5, hf⟩ := it_s hf
    refine va_iast hx hb hK hP hD hS 1 0 rfl rfl (inb_in hi5) dX3_insertRun_128 (fun H locs hP hD hS => ?_)
    replace hP : va_P (dC, dI) vwCl (WX3 a b cI cJ cZ (SS_row_s (SS_owner_s (SS_first_s st (upd (va_cpy (SS_first st) (SS_first st) (x1).toNatClampNeg ((x1 + (1 : Int32))).toNatClampNeg (((SS_size st) - x1)).toNatClampNeg) (x1).toNatClampNeg x2)) (va_cpy (SS_owner st) (SS_owner st) (x1).toNatClampNeg ((x1 + (1 : Int32))).toNatClampNeg (((SS_size st) - x1)).toNatClampNeg)) (va_cpy (SS_row st) (SS_row st) (x1).toNatClampNeg ((x1 + (1 : Int32))).toNatClampNeg (((SS_size st) - x1)).toNatClampNeg))) H := hP
    replace hD : va_D A (WX3 a b cI cJ cZ (SS_row_s (SS_owner_s (SS_first_s st (upd (va_cpy (SS_first st) (SS_first st) (x1).toNatClampNeg ((x1 + (1 : Int32))).toNatClampNeg (((SS_size st) - x1)).toNatClampNeg) (x1).toNatClampNeg x2)) (va_cpy (SS_owner st) (SS_owner st) (x1).toNatClampNeg ((x1 + (1 : Int32))).toNatClampNeg (((SS_size st) - x1)).toNatClampNeg)) (va_cpy (SS_row st) (SS_row st) (x1).toNatClampNeg ((x1 + (1 : Int32))).toNatClampNeg (((SS_size st) - x1)).toNatClampNeg))) := hD
    refine lv_aload_n hx hb dX3_insertRun_129 rfl (lv_at hl 1 rfl) ?_
    refine va_get (D := (dC, dI)) (ci := 3) (v := .ref (b 1)) (C := RX3) (T := TX3) (N := 5) hx hb hts kX3_insertRun_X3 hown hK hP 0 rfl rfl 1 (by decide) (hts _ mX3_insertRun_3) (fun _ h9 => h9) rfl dX3_insertRun_130 ?_
    refine lv_iload_n hx hb dX3_insertRun_133 rfl (lv_at hl 2 rfl) ?_
    refine lv_iload_n hx hb dX3_insertRun_134 rfl (lv_at hl 4 rfl) ?_
    obtain ⟨hi6, hf⟩ := it_s hf
    refine va_iast hx hb hK hP hD hS 2 0 rfl rfl (inb_in hi6) dX3_insertRun_135 (fun H locs hP hD hS => ?_)
    replace hP : va_P (dC, dI) vwCl (WX3 a b cI cJ cZ (SS_row_s (SS_owner_s (SS_first_s st (upd (va_cpy (SS_first st) (SS_first st) (x1).toNatClampNeg ((x1 + (1 : Int32))).toNatClampNeg (((SS_size st) - x1)).toNatClampNeg) (x1).toNatClampNeg x2)) (upd (va_cpy (SS_owner st) (SS_owner st) (x1).toNatClampNeg ((x1 + (1 : Int32))).toNatClampNeg (((SS_size st) - x1)).toNatClampNeg) (x1).toNatClampNeg x3)) (va_cpy (SS_row st) (SS_row st) (x1).toNatClampNeg ((x1 + (1 : Int32))).toNatClampNeg (((SS_size st) - x1)).toNatClampNeg))) H := hP
    replace hD : va_D A (WX3 a b cI cJ cZ (SS_row_s (SS_owner_s (SS_first_s st (upd (va_cpy (SS_first st) (SS_first st) (x1).toNatClampNeg ((x1 + (1 : Int32))).toNatClampNeg (((SS_size st) - x1)).toNatClampNeg) (x1).toNatClampNeg x2)) (upd (va_cpy (SS_owner st) (SS_owner st) (x1).toNatClampNeg ((x1 + (1 : Int32))).toNatClampNeg (((SS_size st) - x1)).toNatClampNeg) (x1).toNatClampNeg x3)) (va_cpy (SS_row st) (SS_row st) (x1).toNatClampNeg ((x1 + (1 : Int32))).toNatClampNeg (((SS_size st) - x1)).toNatClampNeg))) := hD
    refine lv_aload_n hx hb dX3_insertRun_136 rfl (lv_at hl 1 rfl) ?_
    refine va_get (D := (dC, dI)) (ci := 3) (v := .ref (b 2)) (C := RX3) (T := TX3) (N := 5) hx hb hts kX3_insertRun_X3 hown hK hP 0 rfl rfl 2 (by decide) (hts _ mX3_insertRun_4) (fun _ h9 => h9) rfl dX3_insertRun_137 ?_
    refine lv_iload_n hx hb dX3_insertRun_140 rfl (lv_at hl 2 rfl) ?_
    refine lv_iload hx hb dX3_insertRun_141 (lv_at hl 5 rfl) ?_
    obtain ⟨hi7, hf⟩ := it_s hf
    refine va_iast hx hb hK hP hD hS 3 0 rfl rfl (inb_in hi7) dX3_insertRun_143 (fun H locs hP hD hS => ?_)
    replace hP : va_P (dC, dI) vwCl (WX3 a b cI cJ cZ (SS_row_s (SS_owner_s (SS_first_s st (upd (va_cpy (SS_first st) (SS_first st) (x1).toNatClampNeg ((x1 + (1 : Int32))).toNatClampNeg (((SS_size st) - x1)).toNatClampNeg) (x1).toNatClampNeg x2)) (upd (va_cpy (SS_owner st) (SS_owner st) (x1).toNatClampNeg ((x1 + (1 : Int32))).toNatClampNeg (((SS_size st) - x1)).toNatClampNeg) (x1).toNatClampNeg x3)) (upd (va_cpy (SS_row st) (SS_row st) (x1).toNatClampNeg ((x1 + (1 : Int32))).toNatClampNeg (((SS_size st) - x1)).toNatClampNeg) (x1).toNatClampNeg x4))) H := hP
    replace hD : va_D A (WX3 a b cI cJ cZ (SS_row_s (SS_owner_s (SS_first_s st (upd (va_cpy (SS_first st) (SS_first st) (x1).toNatClampNeg ((x1 + (1 : Int32))).toNatClampNeg (((SS_size st) - x1)).toNatClampNeg) (x1).toNatClampNeg x2)) (upd (va_cpy (SS_owner st) (SS_owner st) (x1).toNatClampNeg ((x1 + (1 : Int32))).toNatClampNeg (((SS_size st) - x1)).toNatClampNeg) (x1).toNatClampNeg x3)) (upd (va_cpy (SS_row st) (SS_row st) (x1).toNatClampNeg ((x1 + (1 : Int32))).toNatClampNeg (((SS_size st) - x1)).toNatClampNeg) (x1).toNatClampNeg x4))) := hD
    refine lv_aload_n hx hb dX3_insertRun_144 rfl (lv_at hl 1 rfl) ?_
    refine lv_dup hx hb dX3_insertRun_145 rfl ?_
    refine va_get (D := (dC, dI)) (ci := 3) (v := .int (SS_size st)) (C := RX3) (T := TX3) (N := 5) hx hb hts kX3_insertRun_X3 hown hK hP 0 rfl rfl 3 (by decide) (hts _ mX3_insertRun_1) (fun _ h9 => h9) rfl dX3_insertRun_146 ?_
    refine lv_iconst (v := (1 : Int32)) hx hb dX3_insertRun_149 (by decide) ?_
    refine lv_iadd hx hb dX3_insertRun_150 ?_
    refine va_put (D := (dC, dI)) (ci := 3) (v := .int ((SS_size st) + (1 : Int32))) (ty := .int) (C := RX3) (T := TX3) (N := 5) hx hb hts kX3_insertRun_X3 tyX3 tyX3_ok nmX3 hown hK hP hD hS 0 rfl rfl 3 (by decide) (hts _ mX3_insertRun_1) (fun _ h9 => h9) rfl (by decide +kernel) rfl rfl (Nat.le_of_ble_eq_true rfl) dX3_insertRun_151 (fun H locs hP hD hS => ?_)
    replace hP : va_P (dC, dI) vwCl (WX3 a b cI cJ cZ (SS_size_s (SS_row_s (SS_owner_s (SS_first_s st (upd (va_cpy (SS_first st) (SS_first st) (x1).toNatClampNeg ((x1 + (1 : Int32))).toNatClampNeg (((SS_size st) - x1)).toNatClampNeg) (x1).toNatClampNeg x2)) (upd (va_cpy (SS_owner st) (SS_owner st) (x1).toNatClampNeg ((x1 + (1 : Int32))).toNatClampNeg (((SS_size st) - x1)).toNatClampNeg) (x1).toNatClampNeg x3)) (upd (va_cpy (SS_row st) (SS_row st) (x1).toNatClampNeg ((x1 + (1 : Int32))).toNatClampNeg (((SS_size st) - x1)).toNatClampNeg) (x1).toNatClampNeg x4)) ((SS_size st) + (1 : Int32)))) H := hP
    replace hD : va_D A (WX3 a b cI cJ cZ (SS_size_s (SS_row_s (SS_owner_s (SS_first_s st (upd (va_cpy (SS_first st) (SS_first st) (x1).toNatClampNeg ((x1 + (1 : Int32))).toNatClampNeg (((SS_size st) - x1)).toNatClampNeg) (x1).toNatClampNeg x2)) (upd (va_cpy (SS_owner st) (SS_owner st) (x1).toNatClampNeg ((x1 + (1 : Int32))).toNatClampNeg (((SS_size st) - x1)).toNatClampNeg) (x1).toNatClampNeg x3)) (upd (va_cpy (SS_row st) (SS_row st) (x1).toNatClampNeg ((x1 + (1 : Int32))).toNatClampNeg (((SS_size st) - x1)).toNatClampNeg) (x1).toNatClampNeg x4)) ((SS_size st) + (1 : Int32)))) := hD
    obtain rfl := Option.some.inj hf
    rw [hQ]
    exact W.vret hx hb hr (fun t ht hW => ⟨rfl, ⟨b, by rw [ht]; exact hP, hD⟩, hS.F ht⟩) hS.2.2 dX3_insertRun_154
  have main : ∀ (b : Nat → Nat) (H : Heap) (locs : List Loc) (ls : Array Slot), IN (dC, dI) (WX3 a b cI cJ cZ st) A s.heap H locs → lv_has ls 6 [(0, .ref (a 24)), (1, .int x1), (2, .int x2), (3, .int x3), (4, .int x4)] → W p l e (headSpec wsX3_insertRun rX3_insertRun).room s m args below meth c H locs 0 0 QQ (F0 m 0 ls []) := by
    intro b H locs ls hin hl
    obtain ⟨hP, hD, hS⟩ := hin
    unfold fX3_insertRun at hf
    refine lv_aload_n hx hb dX3_insertRun_0 rfl (lv_at hl 0 rfl) ?_
    refine va_get (D := (dC, dI)) (ci := 3) (v := .int (SS_size st)) (C := RX3) (T := TX3) (N := 5) hx hb hts kX3_insertRun_X3 hown hK hP 0 rfl rfl 3 (by decide) (hts _ mX3_insertRun_1) (fun _ h9 => h9) rfl dX3_insertRun_1 ?_
    refine lv_aload_n hx hb dX3_insertRun_4 rfl (lv_at hl 0 rfl) ?_
    refine va_get (D := (dC, dI)) (ci := 3) (v := .ref (b 0)) (C := RX3) (T := TX3) (N := 5) hx hb hts kX3_insertRun_X3 hown hK hP 0 rfl rfl 0 (by decide) (hts _ mX3_insertRun_2) (fun _ h9 => h9) rfl dX3_insertRun_5 ?_
    refine va_alen hx hb hK hP 1 0 rfl rfl rfl dX3_insertRun_8 ?_
    refine lv_icmp_lt (tgt := 63) hx hb dX3_insertRun_9 (by decide) (fun c1 => ?_) (fun c1 => ?_)
    · replace hf := it_p c1 hf
      refine W.widen (k := 3) (n := 6144) (Nat.le_of_ble_eq_true rfl) (Nat.le_of_ble_eq_true rfl) ?_
      exact b63 st x1 x2 x3 x4 hf b H locs ls ⟨hP, hD, hS⟩ (lv_sub hl [0, 1, 2, 3, 4] rfl)
    · replace hf := it_n c1 hf
      obtain ⟨hg8, hf⟩ := it_s hf
      refine x3_grow (R := (headSpec wsX3_insertRun rX3_insertRun).room) (Nat.le_of_ble_eq_true rfl) (Nat.le_of_ble_eq_true rfl) (Nat.le_of_ble_eq_true rfl) (Nat.le_of_ble_eq_true rfl) hx hb hml hown hts hK hA st hg8 hP hD hS hl rfl (fun b H locs hP hD hS => ?_)
      exact b63 (SS_grow st) x1 x2 x3 x4 hf b H locs ls ⟨hP, hD, hS⟩ (lv_sub hl [0, 1, 2, 3, 4] rfl)
  exact main b s.heap [] ls ⟨hP, hD, va_S.rf⟩ hl
def rX3_add : Room := { frames := 3, cells := 3, slots := 6144, locals := 87 }
theorem kX3_add_X3 : ∀ w ∈ wsX30, w ∈ wsX3_add := fun w h => (List.mem_cons_of_mem _ (List.mem_append_right _ h))
theorem mX3_add_1 : Cond.fieldLink RX3 25 "SmokeLedger$Serials" "issued" "I" ∈ wsX3_add := List.mem_of_getElem? (i := 1) rfl
theorem mX3_add_2 : Cond.fieldLink RX3 21 "SmokeLedger$Serials" "size" "I" ∈ wsX3_add := List.mem_of_getElem? (i := 2) rfl
theorem mX3_add_3 : Cond.fieldLink RX3 15 "SmokeLedger$Serials" "owner" "[I" ∈ wsX3_add := List.mem_of_getElem? (i := 3) rfl
theorem mX3_add_4 : Cond.fieldLink RX3 18 "SmokeLedger$Serials" "row" "[I" ∈ wsX3_add := List.mem_of_getElem? (i := 4) rfl
set_option maxHeartbeats 4000000 in
set_option maxRecDepth 100000 in
theorem ct_X3_add (l : Launch) (dC : Nat → ClassId) (dI : Nat → Nat → Nat) (a b : Nat → Nat) (cI cJ cZ : ClassId) (sz : Nat) (st : SS) (x1 : Int32) (x2 : Int32) (res : Int32 × SS) (hf : fX3_add st x1 x2 = some res) : Met l yX3_add wsX3_add rX3_add (Pm (dC, dI) (tyT cI cJ cZ) (WX3 a b cI cJ cZ st) sz [.ref (a 24), .int x1, .int x2]) (Qe (dC, dI) (some (.int res.1)) (fun b' => (WX3 a b' cI cJ cZ res.2)) (va_A (WX3 a b cI cJ cZ st) sz)) 3 6144 (va_A (WX3 a b cI cJ cZ st) sz) := by
  refine Met.ofW (cc := cX3_add) (maxL := 4) (ret := (some .int)) (by decide) rfl ?_
  intro p e s m args below meth c s₁ B hml hv
  obtain ⟨hargs, hsz, hP, hK, hD0⟩ := hv
  have hx := B.exec
  have hb := B.bytes
  have hr := B.returns
  have hts := atoms_spec (ws := wsX3_add) B.pre
  have hown : s.vm.findClass RX3 = some m.cls := findClass_of_methodNamed B.named
  have hlocks := B.notSynchronized
  subst hsz
  have hD := hD0.self (sz := s.heap.size)
  generalize hAe : va_A (WX3 a b cI cJ cZ st) s.heap.size = A at hD ⊢
  have hA : ∀ q : Nat, s.heap.size ≤ q → A q := fun q h => by rw [← hAe]; exact Or.inr h
  have hl := lv_entry ([.ref (a 24), .int x1, .int x2]) (n := 4) (Nat.le_of_ble_eq_true rfl)
  refine W.eq (hargs ▸ lg_entry_eq m [.ref (a 24), .int x1, .int x2] 4) ?_
  generalize (lg_sl ([.ref (a 24), .int x1, .int x2]) ++ List.replicate (4 - (lg_sl ([.ref (a 24), .int x1, .int x2])).length) Slot.unset).toArray = ls at hl ⊢
  have hl : lv_has ls 4 [(0, .ref (a 24)), (1, .int x1), (2, .int x2)] := hl
  obtain ⟨QQ, hQ⟩ : ∃ QQ : State → Prop, QQ = MQ below (Qe (dC, dI) (some (.int res.1)) (fun b' => (WX3 a b' cI cJ cZ res.2)) A) args s 3 6144 (A) := ⟨_, rfl⟩
  rw [← hQ]
  have b72 : ∀ (st : SS) (x2 : Int32) (x3 : Int32), fX3_add_b72 st x2 x3 = some res → (∀ (b : Nat → Nat) (H : Heap) (locs : List Loc) (ls : Array Slot), IN (dC, dI) (WX3 a b cI cJ cZ st) A s.heap H locs → lv_has ls 4 [(0, .ref (a 24)), (2, .int x2), (3, .int x3)] → W p l e (headSpec wsX3_add rX3_add).room s m args below meth c H locs 3 6144 QQ (F0 m 72 ls [])) := by
    intro st x2 x3 hf
    intro b H locs ls hin hl
    obtain ⟨hP, hD, hS⟩ := hin
    unfold fX3_add_b72 at hf
    refine lv_aload_n hx hb dX3_add_72 rfl (lv_at hl 0 rfl) ?_
    refine lv_dup hx hb dX3_add_73 rfl ?_
    refine va_get (D := (dC, dI)) (ci := 3) (v := .int (SS_issued st)) (C := RX3) (T := TX3) (N := 5) hx hb hts kX3_add_X3 hown hK hP 0 rfl rfl 4 (by decide) (hts _ mX3_add_1) (fun _ h9 => h9) rfl dX3_add_74 ?_
    refine lv_iload_n hx hb dX3_add_77 rfl (lv_at hl 1 rfl) ?_
    refine lv_iadd hx hb dX3_add_78 ?_
    refine va_put (D := (dC, dI)) (ci := 3) (v := .int ((SS_issued st) + x2)) (ty := .int) (C := RX3) (T := TX3) (N := 5) hx hb hts kX3_add_X3 tyX3 tyX3_ok nmX3 hown hK hP hD hS 0 rfl rfl 4 (by decide) (hts _ mX3_add_1) (fun _ h9 => h9) rfl (by decide +kernel) rfl rfl (Nat.le_of_ble_eq_true rfl) dX3_add_79 (fun H locs hP hD hS => ?_)
    replace hP : va_P (dC, dI) vwCl (WX3 a b cI cJ cZ (SS_issued_s st ((SS_issued st) + x2))) H := hP
    replace hD : va_D A (WX3 a b cI cJ cZ (SS_issued_s st ((SS_issued st) + x2))) := hD
    refine lv_iload_n hx hb dX3_add_82 rfl (lv_at hl 2 rfl) ?_
    obtain rfl := Option.some.inj hf
    rw [hQ]
    exact W.iret hx hb hr (fun t ht hW => ⟨rfl, ⟨b, by rw [ht]; exact hP, hD⟩, hS.F ht⟩) hS.2.2 dX3_add_83
  have b60 : ∀ (st : SS) (x1 : Int32) (x2 : Int32) (x3 : Int32), fX3_add_b60 st x1 x2 x3 = some res → (∀ (b : Nat → Nat) (H : Heap) (locs : List Loc) (ls : Array Slot), IN (dC, dI) (WX3 a b cI cJ cZ st) A s.heap H locs → lv_has ls 4 [(0, .ref (a 24)), (1, .int x1), (2, .int x2), (3, .int x3)] → W p l e (headSpec wsX3_add rX3_add).room s m args below meth c H locs 0 0 QQ (F0 m 60 ls [])) := by
    intro st x1 x2 x3 hf
    intro b H locs ls hin hl
    obtain ⟨hP, hD, hS⟩ := hin
    unfold fX3_add_b60 at hf
    refine lv_aload_n hx hb dX3_add_60 rfl (lv_at hl 0 rfl) ?_
    refine lv_aload_n hx hb dX3_add_61 rfl (lv_at hl 0 rfl) ?_
    refine va_get (D := (dC, dI)) (ci := 3) (v := .int (SS_size st)) (C := RX3) (T := TX3) (N := 5) hx hb hts kX3_add_X3 hown hK hP 0 rfl rfl 3 (by decide) (hts _ mX3_add_2) (fun _ h9 => h9) rfl dX3_add_62 ?_
    refine lv_iload_n hx hb dX3_add_65 rfl (lv_at hl 3 rfl) ?_
    refine lv_iload_n hx hb dX3_add_66 rfl (lv_at hl 1 rfl) ?_
    refine lv_bipush (v := (-9 : Int32)) hx hb dX3_add_67 (by decide) ?_
    obtain ⟨p3, hc4, hf⟩ := bind_s hf
    refine cmE (wr := []) ⟨hx, hb, hml, hown, hts⟩ (ct_X3_insertRun l dC dI a b cI cJ cZ H.size st (SS_size st) x3 x1 (-9 : Int32) p3 hc4) (cwV 4 hts gX3_add_X3_insertRun rfl rfl rfl (by decide +kernel) ⟨(Nat.le_of_ble_eq_true rfl), (Nat.le_of_ble_eq_true rfl)⟩) hK hP hD hS hA [0, 1, 2, 3] [] rfl rfl (by decide) rfl (by decide) (by decide) rfl rfl rfl hl.1 rfl (Nat.le_of_ble_eq_true rfl) (Nat.le_of_ble_eq_true rfl) (Nat.le_of_ble_eq_true rfl) dX3_add_69 (fun b5 H locs hP hD hS => ?_)
    replace hP : va_P (dC, dI) vwCl (WX3 a b5 cI cJ cZ p3) H := hP
    replace hD : va_D A (WX3 a b5 cI cJ cZ p3) := hD
    refine W.eq (g2 := F0 m 72 ls []) rfl ?_
    exact b72 p3 x2 x3 hf b5 H locs ls ⟨hP, hD, hS⟩ (lv_sub hl [0, 2, 3] rfl)
  have main : ∀ (b : Nat → Nat) (H : Heap) (locs : List Loc) (ls : Array Slot), IN (dC, dI) (WX3 a b cI cJ cZ st) A s.heap H locs → lv_has ls 4 [(0, .ref (a 24)), (1, .int x1), (2, .int x2)] → W p l e (headSpec wsX3_add rX3_add).room s m args below meth c H locs 0 0 QQ (F0 m 0 ls []) := by
    intro b H locs ls hin hl
    obtain ⟨hP, hD, hS⟩ := hin
    unfold fX3_add at hf
    refine lv_iload_n hx hb dX3_add_0 rfl (lv_at hl 2 rfl) ?_
    refine lv_sipush (v := (20000 : Int32)) hx hb dX3_add_1 (by decide) ?_
    refine lv_aload_n hx hb dX3_add_4 rfl (lv_at hl 0 rfl) ?_
    refine va_get (D := (dC, dI)) (ci := 3) (v := .int (SS_issued st)) (C := RX3) (T := TX3) (N := 5) hx hb hts kX3_add_X3 hown hK hP 0 rfl rfl 4 (by decide) (hts _ mX3_add_1) (fun _ h9 => h9) rfl dX3_add_5 ?_
    refine lv_isub hx hb dX3_add_8 ?_
    refine lv_icmp_le (tgt := 15) hx hb dX3_add_9 (by decide) (fun c1 => ?_) (fun c1 => ?_)
    · replace hf := it_p c1 hf
      refine lv_aload_n hx hb dX3_add_15 rfl (lv_at hl 0 rfl) ?_
      refine va_get (D := (dC, dI)) (ci := 3) (v := .int (SS_issued st)) (C := RX3) (T := TX3) (N := 5) hx hb hts kX3_add_X3 hown hK hP 0 rfl rfl 4 (by decide) (hts _ mX3_add_1) (fun _ h9 => h9) rfl dX3_add_16 ?_
      refine lv_iconst (v := (1 : Int32)) hx hb dX3_add_19 (by decide) ?_
      refine lv_iadd hx hb dX3_add_20 ?_
      refine lv_istore_n (lv' := [(3, .int ((SS_issued st) + (1 : Int32))), (0, .ref (a 24)), (1, .int x1), (2, .int x2)]) hx hb dX3_add_21 rfl hl (by decide) rfl (fun ls hl => ?_)
      refine lv_aload_n hx hb dX3_add_22 rfl (lv_at hl 1 rfl) ?_
      refine va_get (D := (dC, dI)) (ci := 3) (v := .int (SS_size st)) (C := RX3) (T := TX3) (N := 5) hx hb hts kX3_add_X3 hown hK hP 0 rfl rfl 3 (by decide) (hts _ mX3_add_2) (fun _ h9 => h9) rfl dX3_add_23 ?_
      refine lv_if_eq (tgt := 60) hx hb dX3_add_26 (by decide) (fun c2 => ?_) (fun c2 => ?_)
      · replace hf := it_p c2 hf
        exact b60 st x1 x2 ((SS_issued st) + (1 : Int32)) hf b H locs ls ⟨hP, hD, hS⟩ (lv_sub hl [1, 2, 3, 0] rfl)
      · replace hf := it_n c2 hf
        refine lv_aload_n hx hb dX3_add_29 rfl (lv_at hl 1 rfl) ?_
        refine va_get (D := (dC, dI)) (ci := 3) (v := .ref (b 1)) (C := RX3) (T := TX3) (N := 5) hx hb hts kX3_add_X3 hown hK hP 0 rfl rfl 1 (by decide) (hts _ mX3_add_3) (fun _ h9 => h9) rfl dX3_add_30 ?_
        refine lv_aload_n hx hb dX3_add_33 rfl (lv_at hl 1 rfl) ?_
        refine va_get (D := (dC, dI)) (ci := 3) (v := .int (SS_size st)) (C := RX3) (T := TX3) (N := 5) hx hb hts kX3_add_X3 hown hK hP 0 rfl rfl 3 (by decide) (hts _ mX3_add_2) (fun _ h9 => h9) rfl dX3_add_34 ?_
        refine lv_iconst (v := (1 : Int32)) hx hb dX3_add_37 (by decide) ?_
        refine lv_isub hx hb dX3_add_38 ?_
        obtain ⟨hi6, hf⟩ := it_s hf
        refine va_iald hx hb hK hP 2 0 rfl rfl (inb_in hi6) dX3_add_39 ?_
        refine lv_iload_n hx hb dX3_add_40 rfl (lv_at hl 2 rfl) ?_
        refine lv_icmp_ne (tgt := 60) hx hb dX3_add_41 (by decide) (fun c7 => ?_) (fun c7 => ?_)
        · replace hf := it_n c7 hf
          exact b60 st x1 x2 ((SS_issued st) + (1 : Int32)) hf b H locs ls ⟨hP, hD, hS⟩ (lv_sub hl [1, 2, 3, 0] rfl)
        · replace hf := it_p c7 hf
          refine lv_aload_n hx hb dX3_add_44 rfl (lv_at hl 1 rfl) ?_
          refine va_get (D := (dC, dI)) (ci := 3) (v := .ref (b 2)) (C := RX3) (T := TX3) (N := 5) hx hb hts kX3_add_X3 hown hK hP 0 rfl rfl 2 (by decide) (hts _ mX3_add_4) (fun _ h9 => h9) rfl dX3_add_45 ?_
          refine lv_aload_n hx hb dX3_add_48 rfl (lv_at hl 1 rfl) ?_
          refine va_get (D := (dC, dI)) (ci := 3) (v := .int (SS_size st)) (C := RX3) (T := TX3) (N := 5) hx hb hts kX3_add_X3 hown hK hP 0 rfl rfl 3 (by decide) (hts _ mX3_add_2) (fun _ h9 => h9) rfl dX3_add_49 ?_
          refine lv_iconst (v := (1 : Int32)) hx hb dX3_add_52 (by decide) ?_
          refine lv_isub hx hb dX3_add_53 ?_
          obtain ⟨hi8, hf⟩ := it_s hf
          refine va_iald hx hb hK hP 3 0 rfl rfl (inb_in hi8) dX3_add_54 ?_
          refine lv_bipush (v := (-9 : Int32)) hx hb dX3_add_55 (by decide) ?_
          refine lv_icmp_eq (tgt := 72) hx hb dX3_add_57 (by decide) (fun c9 => ?_) (fun c9 => ?_)
          · replace hf := it_p c9 hf
            refine W.widen (k := 3) (n := 6144) (Nat.le_of_ble_eq_true rfl) (Nat.le_of_ble_eq_true rfl) ?_
            exact b72 st x2 ((SS_issued st) + (1 : Int32)) hf b H locs ls ⟨hP, hD, hS⟩ (lv_sub hl [1, 3, 0] rfl)
          · replace hf := it_n c9 hf
            exact b60 st x1 x2 ((SS_issued st) + (1 : Int32)) hf b H locs ls ⟨hP, hD, hS⟩ (lv_sub hl [1, 2, 3, 0] rfl)
    · replace hf := it_n c1 hf
      refine lv_bipush (v := (-4 : Int32)) hx hb dX3_add_12 (by decide) ?_
      obtain rfl := Option.some.inj hf
      refine W.widen (k := 3) (n := 6144) (Nat.le_of_ble_eq_true rfl) (Nat.le_of_ble_eq_true rfl) ?_
      rw [hQ]
      exact W.iret hx hb hr (fun t ht hW => ⟨rfl, ⟨b, by rw [ht]; exact hP, hD⟩, hS.F ht⟩) hS.2.2 dX3_add_14
  exact main b s.heap [] ls ⟨hP, hD, va_S.rf⟩ hl
def rX3_areIssued : Room := { frames := 0, cells := 0, slots := 0, locals := 0 }
theorem kX3_areIssued_X3 : ∀ w ∈ wsX30, w ∈ wsX3_areIssued := fun w h => (List.mem_cons_of_mem _ (List.mem_append_right _ h))
theorem mX3_areIssued_1 : Cond.fieldLink RX3 25 "SmokeLedger$Serials" "issued" "I" ∈ wsX3_areIssued := List.mem_of_getElem? (i := 1) rfl
set_option maxHeartbeats 4000000 in
set_option maxRecDepth 100000 in
theorem ct_X3_areIssued (l : Launch) (dC : Nat → ClassId) (dI : Nat → Nat → Nat) (a b : Nat → Nat) (cI cJ cZ : ClassId) (st : SS) (x1 : Int32) (x2 : Int32) (res : Int32) (hf : fX3_areIssued st x1 x2 = some res) : Met l yX3_areIssued wsX3_areIssued rX3_areIssued (Pp (dC, dI) (tyT cI cJ cZ) (WX3 a b cI cJ cZ st) [.ref (a 24), .int x1, .int x2]) (Qp (.int res)) 0 0 (fun _ => False) := by
  refine Met.ofW (cc := cX3_areIssued) (maxL := 3) (ret := (some .boolean)) (by decide) rfl ?_
  intro p e s m args below meth c s₁ B hml hv
  obtain ⟨hargs, hP, hK⟩ := hv
  have hx := B.exec
  have hb := B.bytes
  have hr := B.returns
  have hts := atoms_spec (ws := wsX3_areIssued) B.pre
  have hown : s.vm.findClass RX3 = some m.cls := findClass_of_methodNamed B.named
  have hlocks := B.notSynchronized
  have hP : va_P (dC, dI) vwCl (WX3 a b cI cJ cZ st) s.heap := hP
  have hl := lv_entry ([.ref (a 24), .int x1, .int x2]) (n := 3) (Nat.le_of_ble_eq_true rfl)
  refine W.eq (hargs ▸ lg_entry_eq m [.ref (a 24), .int x1, .int x2] 3) ?_
  generalize (lg_sl ([.ref (a 24), .int x1, .int x2]) ++ List.replicate (3 - (lg_sl ([.ref (a 24), .int x1, .int x2])).length) Slot.unset).toArray = ls at hl ⊢
  have hl : lv_has ls 3 [(0, .ref (a 24)), (1, .int x1), (2, .int x2)] := hl
  obtain ⟨QQ, hQ⟩ : ∃ QQ : State → Prop, QQ = MQ below (Qp (.int res)) args s 0 0 (fun _ => False) := ⟨_, rfl⟩
  rw [← hQ]
  unfold fX3_areIssued at hf
  refine lv_iload_n hx hb dX3_areIssued_0 rfl (lv_at hl 1 rfl) ?_
  refine lv_iconst (v := (1 : Int32)) hx hb dX3_areIssued_1 (by decide) ?_
  refine lv_icmp_lt (tgt := 29) hx hb dX3_areIssued_2 (by decide) (fun c1 => ?_) (fun c1 => ?_)
  · replace hf := it_p c1 hf
    refine lv_iconst (v := (0 : Int32)) hx hb dX3_areIssued_29 (by decide) ?_
    obtain rfl := Option.some.inj hf
    rw [hQ]
    exact W.zret hx hb hr rfl (fun t ht hW => ⟨rfl, ht⟩) (fun q hq => absurd hq List.not_mem_nil) dX3_areIssued_30
  · replace hf := it_n c1 hf
    refine lv_iload_n hx hb dX3_areIssued_5 rfl (lv_at hl 1 rfl) ?_
    refine lv_aload_n hx hb dX3_areIssued_6 rfl (lv_at hl 0 rfl) ?_
    refine va_get (D := (dC, dI)) (ci := 3) (v := .int (SS_issued st)) (C := RX3) (T := TX3) (N := 5) hx hb hts kX3_areIssued_X3 hown hK hP 0 rfl rfl 4 (by decide) (hts _ mX3_areIssued_1) (fun _ h9 => h9) rfl dX3_areIssued_7 ?_
    refine lv_icmp_gt (tgt := 29) hx hb dX3_areIssued_10 (by decide) (fun c2 => ?_) (fun c2 => ?_)
    · replace hf := it_p c2 hf
      refine lv_iconst (v := (0 : Int32)) hx hb dX3_areIssued_29 (by decide) ?_
      obtain rfl := Option.some.inj hf
      rw [hQ]
      exact W.zret hx hb hr rfl (fun t ht hW => ⟨rfl, ht⟩) (fun q hq => absurd hq List.not_mem_nil) dX3_areIssued_30
    · replace hf := it_n c2 hf
      refine lv_iload_n hx hb dX3_areIssued_13 rfl (lv_at hl 2 rfl) ?_
      refine lv_aload_n hx hb dX3_areIssued_14 rfl (lv_at hl 0 rfl) ?_
      refine va_get (D := (dC, dI)) (ci := 3) (v := .int (SS_issued st)) (C := RX3) (T := TX3) (N := 5) hx hb hts kX3_areIssued_X3 hown hK hP 0 rfl rfl 4 (by decide) (hts _ mX3_areIssued_1) (fun _ h9 => h9) rfl dX3_areIssued_15 ?_
      refine lv_iload_n hx hb dX3_areIssued_18 rfl (lv_at hl 1 rfl) ?_
      refine lv_isub hx hb dX3_areIssued_19 ?_
      refine lv_iconst (v := (1 : Int32)) hx hb dX3_areIssued_20 (by decide) ?_
      refine lv_iadd hx hb dX3_areIssued_21 ?_
      refine lv_icmp_gt (tgt := 29) hx hb dX3_areIssued_22 (by decide) (fun c3 => ?_) (fun c3 => ?_)
      · replace hf := it_p c3 hf
        refine lv_iconst (v := (0 : Int32)) hx hb dX3_areIssued_29 (by decide) ?_
        obtain rfl := Option.some.inj hf
        rw [hQ]
        exact W.zret hx hb hr rfl (fun t ht hW => ⟨rfl, ht⟩) (fun q hq => absurd hq List.not_mem_nil) dX3_areIssued_30
      · replace hf := it_n c3 hf
        refine lv_iconst (v := (1 : Int32)) hx hb dX3_areIssued_25 (by decide) ?_
        refine lv_goto (tgt := 30) hx hb dX3_areIssued_26 (by decide) ?_
        obtain rfl := Option.some.inj hf
        rw [hQ]
        exact W.zret hx hb hr rfl (fun t ht hW => ⟨rfl, ht⟩) (fun q hq => absurd hq List.not_mem_nil) dX3_areIssued_30
def rX3_runWith : Room := { frames := 0, cells := 0, slots := 0, locals := 0 }
theorem kX3_runWith_X3 : ∀ w ∈ wsX30, w ∈ wsX3_runWith := fun w h => (List.mem_cons_of_mem _ (List.mem_append_right _ h))
theorem mX3_runWith_1 : Cond.fieldLink RX3 21 "SmokeLedger$Serials" "size" "I" ∈ wsX3_runWith := List.mem_of_getElem? (i := 1) rfl
theorem mX3_runWith_2 : Cond.fieldLink RX3 9 "SmokeLedger$Serials" "first" "[I" ∈ wsX3_runWith := List.mem_of_getElem? (i := 2) rfl
set_option maxHeartbeats 4000000 in
set_option maxRecDepth 100000 in
theorem ct_X3_runWith (l : Launch) (dC : Nat → ClassId) (dI : Nat → Nat → Nat) (a b : Nat → Nat) (cI cJ cZ : ClassId) (st : SS) (x1 : Int32) (res : Int32) (hf : fX3_runWith st x1 = some res) : Met l yX3_runWith wsX3_runWith rX3_runWith (Pp (dC, dI) (tyT cI cJ cZ) (WX3 a b cI cJ cZ st) [.ref (a 24), .int x1]) (Qp (.int res)) 0 0 (fun _ => False) := by
  refine Met.ofW (cc := cX3_runWith) (maxL := 3) (ret := (some .int)) (by decide) rfl ?_
  intro p e s m args below meth c s₁ B hml hv
  obtain ⟨hargs, hP, hK⟩ := hv
  have hx := B.exec
  have hb := B.bytes
  have hr := B.returns
  have hts := atoms_spec (ws := wsX3_runWith) B.pre
  have hown : s.vm.findClass RX3 = some m.cls := findClass_of_methodNamed B.named
  have hlocks := B.notSynchronized
  have hP : va_P (dC, dI) vwCl (WX3 a b cI cJ cZ st) s.heap := hP
  have hl := lv_entry ([.ref (a 24), .int x1]) (n := 3) (Nat.le_of_ble_eq_true rfl)
  refine W.eq (hargs ▸ lg_entry_eq m [.ref (a 24), .int x1] 3) ?_
  generalize (lg_sl ([.ref (a 24), .int x1]) ++ List.replicate (3 - (lg_sl ([.ref (a 24), .int x1])).length) Slot.unset).toArray = ls at hl ⊢
  have hl : lv_has ls 3 [(0, .ref (a 24)), (1, .int x1)] := hl
  obtain ⟨QQ, hQ⟩ : ∃ QQ : State → Prop, QQ = MQ below (Qp (.int res)) args s 0 0 (fun _ => False) := ⟨_, rfl⟩
  rw [← hQ]
  have l2 : ∀ (x1 : Int32) (fu : Nat) (s0 : Int32) (r : Int32), loopN (fun (s : Int32) => fX3_runWith_l2 st x1 s) fu s0 = some r → (∀ (ls : Array Slot), lv_has ls 3 [(0, .ref (a 24)), (1, .int x1), (2, .int r)] → W p l e (headSpec wsX3_runWith rX3_runWith).room s m args below meth c s.heap [] 0 0 QQ (F0 m 30 ls [])) → (∀ (ls : Array Slot), lv_has ls 3 [(0, .ref (a 24)), (1, .int x1), (2, .int s0)] → W p l e (headSpec wsX3_runWith rX3_runWith).room s m args below meth c s.heap [] 0 0 QQ (F0 m 2 ls [])) := by
    intro x1 fu s0 r
    refine loop_ind (P := fun s0 => ∀ (ls : Array Slot), lv_has ls 3 [(0, .ref (a 24)), (1, .int x1), (2, .int s0)] → W p l e (headSpec wsX3_runWith rX3_runWith).room s m args below meth c s.heap [] 0 0 QQ (F0 m 2 ls [])) (Q := fun r => ∀ (ls : Array Slot), lv_has ls 3 [(0, .ref (a 24)), (1, .int x1), (2, .int r)] → W p l e (headSpec wsX3_runWith rX3_runWith).room s m args below meth c s.heap [] 0 0 QQ (F0 m 30 ls [])) ?_ fu s0 r
    clear fu s0 r
    intro x2 x hf kc ke
    replace hf : fX3_runWith_l2 st x1 x2 = some x := hf
    replace kc : (∀ s', x = .inl s' → (∀ (ls : Array Slot), lv_has ls 3 [(0, .ref (a 24)), (1, .int x1), (2, .int s')] → W p l e (headSpec wsX3_runWith rX3_runWith).room s m args below meth c s.heap [] 0 0 QQ (F0 m 2 ls []))) := kc
    replace ke : (∀ r, x = .inr r → (∀ (ls : Array Slot), lv_has ls 3 [(0, .ref (a 24)), (1, .int x1), (2, .int r)] → W p l e (headSpec wsX3_runWith rX3_runWith).room s m args below meth c s.heap [] 0 0 QQ (F0 m 30 ls []))) := ke
    intro ls hl
    unfold fX3_runWith_l2 at hf
    refine lv_iload_n hx hb dX3_runWith_2 rfl (lv_at hl 2 rfl) ?_
    refine lv_iconst (v := (1 : Int32)) hx hb dX3_runWith_3 (by decide) ?_
    refine lv_iadd hx hb dX3_runWith_4 ?_
    refine lv_aload_n hx hb dX3_runWith_5 rfl (lv_at hl 0 rfl) ?_
    refine va_get (D := (dC, dI)) (ci := 3) (v := .int (SS_size st)) (C := RX3) (T := TX3) (N := 5) hx hb hts kX3_runWith_X3 hown hK hP 0 rfl rfl 3 (by decide) (hts _ mX3_runWith_1) (fun _ h9 => h9) rfl dX3_runWith_6 ?_
    refine lv_icmp_ge (tgt := 30) hx hb dX3_runWith_9 (by decide) (fun c1 => ?_) (fun c1 => ?_)
    · replace hf := it_p c1 hf
      obtain rfl := Option.some.inj hf
      exact ke _ rfl ls (lv_sub hl [0, 1, 2] rfl)
    · replace hf := it_n c1 hf
      refine lv_aload_n hx hb dX3_runWith_12 rfl (lv_at hl 0 rfl) ?_
      refine va_get (D := (dC, dI)) (ci := 3) (v := .ref (b 0)) (C := RX3) (T := TX3) (N := 5) hx hb hts kX3_runWith_X3 hown hK hP 0 rfl rfl 0 (by decide) (hts _ mX3_runWith_2) (fun _ h9 => h9) rfl dX3_runWith_13 ?_
      refine lv_iload_n hx hb dX3_runWith_16 rfl (lv_at hl 2 rfl) ?_
      refine lv_iconst (v := (1 : Int32)) hx hb dX3_runWith_17 (by decide) ?_
      refine lv_iadd hx hb dX3_runWith_18 ?_
      obtain ⟨hi2, hf⟩ := it_s hf
      refine va_iald hx hb hK hP 1 0 rfl rfl (inb_in hi2) dX3_runWith_19 ?_
      refine lv_iload_n hx hb dX3_runWith_20 rfl (lv_at hl 1 rfl) ?_
      refine lv_icmp_gt (tgt := 30) hx hb dX3_runWith_21 (by decide) (fun c3 => ?_) (fun c3 => ?_)
      · replace hf := it_p c3 hf
        obtain rfl := Option.some.inj hf
        exact ke _ rfl ls (lv_sub hl [0, 1, 2] rfl)
      · replace hf := it_n c3 hf
        refine lv_iinc (v := (x2 + (1 : Int32))) (lv' := [(2, .int (x2 + (1 : Int32))), (0, .ref (a 24)), (1, .int x1)]) hx hb dX3_runWith_24 hl (k := 2) rfl rfl (by decide) rfl (fun ls hl => ?_)
        refine lv_goto (tgt := 2) hx hb dX3_runWith_27 (by decide) ?_
        obtain rfl := Option.some.inj hf
        exact kc _ rfl ls (lv_sub hl [1, 2, 0] rfl)
  unfold fX3_runWith at hf
  refine lv_iconst (v := (0 : Int32)) hx hb dX3_runWith_0 (by decide) ?_
  refine lv_istore_n (lv' := [(2, .int (0 : Int32)), (0, .ref (a 24)), (1, .int x1)]) hx hb dX3_runWith_1 rfl hl (by decide) rfl (fun ls hl => ?_)
  obtain ⟨y4, hlp, hf⟩ := bind_s hf
  refine l2 x1 fuelN (0 : Int32) y4 hlp ?_ ls (lv_sub hl [1, 2, 0] rfl)
  intro ls hl
  refine lv_iload_n hx hb dX3_runWith_30 rfl (lv_at hl 2 rfl) ?_
  obtain rfl := Option.some.inj hf
  rw [hQ]
  exact W.iret hx hb hr (fun t ht hW => ⟨rfl, ht⟩) (fun q hq => absurd hq List.not_mem_nil) dX3_runWith_31
def rX3_endOf : Room := { frames := 0, cells := 0, slots := 0, locals := 0 }
theorem kX3_endOf_X3 : ∀ w ∈ wsX30, w ∈ wsX3_endOf := fun w h => (List.mem_cons_of_mem _ (List.mem_append_right _ h))
theorem mX3_endOf_1 : Cond.fieldLink RX3 21 "SmokeLedger$Serials" "size" "I" ∈ wsX3_endOf := List.mem_of_getElem? (i := 1) rfl
theorem mX3_endOf_3 : Cond.fieldLink RX3 25 "SmokeLedger$Serials" "issued" "I" ∈ wsX3_endOf := List.mem_of_getElem? (i := 3) rfl
theorem mX3_endOf_2 : Cond.fieldLink RX3 9 "SmokeLedger$Serials" "first" "[I" ∈ wsX3_endOf := List.mem_of_getElem? (i := 2) rfl
set_option maxHeartbeats 4000000 in
set_option maxRecDepth 100000 in
theorem ct_X3_endOf (l : Launch) (dC : Nat → ClassId) (dI : Nat → Nat → Nat) (a b : Nat → Nat) (cI cJ cZ : ClassId) (st : SS) (x1 : Int32) (res : Int32) (hf : fX3_endOf st x1 = some res) : Met l yX3_endOf wsX3_endOf rX3_endOf (Pp (dC, dI) (tyT cI cJ cZ) (WX3 a b cI cJ cZ st) [.ref (a 24), .int x1]) (Qp (.int res)) 0 0 (fun _ => False) := by
  refine Met.ofW (cc := cX3_endOf) (maxL := 2) (ret := (some .int)) (by decide) rfl ?_
  intro p e s m args below meth c s₁ B hml hv
  obtain ⟨hargs, hP, hK⟩ := hv
  have hx := B.exec
  have hb := B.bytes
  have hr := B.returns
  have hts := atoms_spec (ws := wsX3_endOf) B.pre
  have hown : s.vm.findClass RX3 = some m.cls := findClass_of_methodNamed B.named
  have hlocks := B.notSynchronized
  have hP : va_P (dC, dI) vwCl (WX3 a b cI cJ cZ st) s.heap := hP
  have hl := lv_entry ([.ref (a 24), .int x1]) (n := 2) (Nat.le_of_ble_eq_true rfl)
  refine W.eq (hargs ▸ lg_entry_eq m [.ref (a 24), .int x1] 2) ?_
  generalize (lg_sl ([.ref (a 24), .int x1]) ++ List.replicate (2 - (lg_sl ([.ref (a 24), .int x1])).length) Slot.unset).toArray = ls at hl ⊢
  have hl : lv_has ls 2 [(0, .ref (a 24)), (1, .int x1)] := hl
  obtain ⟨QQ, hQ⟩ : ∃ QQ : State → Prop, QQ = MQ below (Qp (.int res)) args s 0 0 (fun _ => False) := ⟨_, rfl⟩
  rw [← hQ]
  unfold fX3_endOf at hf
  refine lv_iload_n hx hb dX3_endOf_0 rfl (lv_at hl 1 rfl) ?_
  refine lv_iconst (v := (1 : Int32)) hx hb dX3_endOf_1 (by decide) ?_
  refine lv_iadd hx hb dX3_endOf_2 ?_
  refine lv_aload_n hx hb dX3_endOf_3 rfl (lv_at hl 0 rfl) ?_
  refine va_get (D := (dC, dI)) (ci := 3) (v := .int (SS_size st)) (C := RX3) (T := TX3) (N := 5) hx hb hts kX3_endOf_X3 hown hK hP 0 rfl rfl 3 (by decide) (hts _ mX3_endOf_1) (fun _ h9 => h9) rfl dX3_endOf_4 ?_
  refine lv_icmp_ge (tgt := 21) hx hb dX3_endOf_7 (by decide) (fun c1 => ?_) (fun c1 => ?_)
  · replace hf := it_p c1 hf
    refine lv_aload_n hx hb dX3_endOf_21 rfl (lv_at hl 0 rfl) ?_
    refine va_get (D := (dC, dI)) (ci := 3) (v := .int (SS_issued st)) (C := RX3) (T := TX3) (N := 5) hx hb hts kX3_endOf_X3 hown hK hP 0 rfl rfl 4 (by decide) (hts _ mX3_endOf_3) (fun _ h9 => h9) rfl dX3_endOf_22 ?_
    refine lv_iconst (v := (1 : Int32)) hx hb dX3_endOf_25 (by decide) ?_
    refine lv_iadd hx hb dX3_endOf_26 ?_
    obtain rfl := Option.some.inj hf
    rw [hQ]
    exact W.iret hx hb hr (fun t ht hW => ⟨rfl, ht⟩) (fun q hq => absurd hq List.not_mem_nil) dX3_endOf_27
  · replace hf := it_n c1 hf
    refine lv_aload_n hx hb dX3_endOf_10 rfl (lv_at hl 0 rfl) ?_
    refine va_get (D := (dC, dI)) (ci := 3) (v := .ref (b 0)) (C := RX3) (T := TX3) (N := 5) hx hb hts kX3_endOf_X3 hown hK hP 0 rfl rfl 0 (by decide) (hts _ mX3_endOf_2) (fun _ h9 => h9) rfl dX3_endOf_11 ?_
    refine lv_iload_n hx hb dX3_endOf_14 rfl (lv_at hl 1 rfl) ?_
    refine lv_iconst (v := (1 : Int32)) hx hb dX3_endOf_15 (by decide) ?_
    refine lv_iadd hx hb dX3_endOf_16 ?_
    obtain ⟨hi2, hf⟩ := it_s hf
    refine va_iald hx hb hK hP 1 0 rfl rfl (inb_in hi2) dX3_endOf_17 ?_
    refine lv_goto (tgt := 27) hx hb dX3_endOf_18 (by decide) ?_
    obtain rfl := Option.some.inj hf
    rw [hQ]
    exact W.iret hx hb hr (fun t ht hW => ⟨rfl, ht⟩) (fun q hq => absurd hq List.not_mem_nil) dX3_endOf_27
def rX3_lengthOf : Room := { frames := 1, cells := 0, slots := 0, locals := 21 }
theorem kX3_lengthOf_X3 : ∀ w ∈ wsX30, w ∈ wsX3_lengthOf := fun w h => (List.mem_cons_of_mem _ (List.mem_append_right _ h))
theorem mX3_lengthOf_1 : Cond.fieldLink RX3 9 "SmokeLedger$Serials" "first" "[I" ∈ wsX3_lengthOf := List.mem_of_getElem? (i := 1) rfl
set_option maxHeartbeats 4000000 in
set_option maxRecDepth 100000 in
theorem ct_X3_lengthOf (l : Launch) (dC : Nat → ClassId) (dI : Nat → Nat → Nat) (a b : Nat → Nat) (cI cJ cZ : ClassId) (st : SS) (x1 : Int32) (res : Int32) (hf : fX3_lengthOf st x1 = some res) : Met l yX3_lengthOf wsX3_lengthOf rX3_lengthOf (Pp (dC, dI) (tyT cI cJ cZ) (WX3 a b cI cJ cZ st) [.ref (a 24), .int x1]) (Qp (.int res)) 0 0 (fun _ => False) := by
  refine Met.ofW (cc := cX3_lengthOf) (maxL := 2) (ret := (some .int)) (by decide) rfl ?_
  intro p e s m args below meth c s₁ B hml hv
  obtain ⟨hargs, hP, hK⟩ := hv
  have hx := B.exec
  have hb := B.bytes
  have hr := B.returns
  have hts := atoms_spec (ws := wsX3_lengthOf) B.pre
  have hown : s.vm.findClass RX3 = some m.cls := findClass_of_methodNamed B.named
  have hlocks := B.notSynchronized
  have hP : va_P (dC, dI) vwCl (WX3 a b cI cJ cZ st) s.heap := hP
  have hl := lv_entry ([.ref (a 24), .int x1]) (n := 2) (Nat.le_of_ble_eq_true rfl)
  refine W.eq (hargs ▸ lg_entry_eq m [.ref (a 24), .int x1] 2) ?_
  generalize (lg_sl ([.ref (a 24), .int x1]) ++ List.replicate (2 - (lg_sl ([.ref (a 24), .int x1])).length) Slot.unset).toArray = ls at hl ⊢
  have hl : lv_has ls 2 [(0, .ref (a 24)), (1, .int x1)] := hl
  obtain ⟨QQ, hQ⟩ : ∃ QQ : State → Prop, QQ = MQ below (Qp (.int res)) args s 0 0 (fun _ => False) := ⟨_, rfl⟩
  rw [← hQ]
  unfold fX3_lengthOf at hf
  refine lv_aload_n hx hb dX3_lengthOf_0 rfl (lv_at hl 0 rfl) ?_
  refine lv_iload_n hx hb dX3_lengthOf_1 rfl (lv_at hl 1 rfl) ?_
  obtain ⟨r1, hc2, hf⟩ := bind_s hf
  refine cpV (v := .int r1) ⟨hx, hb, hml, hown, hts⟩ (ct_X3_endOf l dC dI a b cI cJ cZ st x1 r1 hc2) (cwV 1 hts gX3_lengthOf_X3_endOf rfl rfl rfl (by decide +kernel) ⟨(Nat.le_of_ble_eq_true rfl), (Nat.le_of_ble_eq_true rfl)⟩) hK hP [0, 1, 2, 3] rfl rfl rfl rfl hl.1 rfl (Nat.le_of_ble_eq_true rfl) (Nat.le_of_ble_eq_true rfl) (Nat.le_of_ble_eq_true rfl) dX3_lengthOf_2 ?_
  refine lv_aload_n hx hb dX3_lengthOf_5 rfl (lv_at hl 0 rfl) ?_
  refine va_get (D := (dC, dI)) (ci := 3) (v := .ref (b 0)) (C := RX3) (T := TX3) (N := 5) hx hb hts kX3_lengthOf_X3 hown hK hP 0 rfl rfl 0 (by decide) (hts _ mX3_lengthOf_1) (fun _ h9 => h9) rfl dX3_lengthOf_6 ?_
  refine lv_iload_n hx hb dX3_lengthOf_9 rfl (lv_at hl 1 rfl) ?_
  obtain ⟨hi3, hf⟩ := it_s hf
  refine va_iald hx hb hK hP 1 0 rfl rfl (inb_in hi3) dX3_lengthOf_10 ?_
  refine lv_isub hx hb dX3_lengthOf_11 ?_
  obtain rfl := Option.some.inj hf
  rw [hQ]
  exact W.iret hx hb hr (fun t ht hW => ⟨rfl, ht⟩) (fun q hq => absurd hq List.not_mem_nil) dX3_lengthOf_12
def rX3_sharedWith : Room := { frames := 1, cells := 0, slots := 0, locals := 24 }
theorem mX3_sharedWith_1 : Cond.methodLink RX3 49 Lib.Math.min.name ∈ wsX3_sharedWith := List.mem_of_getElem? (i := 1) rfl
theorem mX3_sharedWith_2 : Cond.static Lib.Math.min.name ∈ wsX3_sharedWith := List.mem_of_getElem? (i := 2) rfl
theorem mX3_sharedWith_3 : Cond.initialized "java/lang/Math" ∈ wsX3_sharedWith := List.mem_of_getElem? (i := 3) rfl
theorem mX3_sharedWith_4 : Cond.code Lib.Math.min.name Lib.Math.min.code 2 (some .int) ∈ wsX3_sharedWith := List.mem_of_getElem? (i := 4) rfl
theorem kX3_sharedWith_X3 : ∀ w ∈ wsX30, w ∈ wsX3_sharedWith := fun w h => (List.mem_cons_of_mem _ (List.mem_append_right _ h))
theorem mX3_sharedWith_5 : Cond.fieldLink RX3 9 "SmokeLedger$Serials" "first" "[I" ∈ wsX3_sharedWith := List.mem_of_getElem? (i := 5) rfl
theorem mX3_sharedWith_6 : Cond.methodLink RX3 55 Lib.Math.max.name ∈ wsX3_sharedWith := List.mem_of_getElem? (i := 6) rfl
theorem mX3_sharedWith_7 : Cond.static Lib.Math.max.name ∈ wsX3_sharedWith := List.mem_of_getElem? (i := 7) rfl
theorem mX3_sharedWith_8 : Cond.code Lib.Math.max.name Lib.Math.max.code 2 (some .int) ∈ wsX3_sharedWith := List.mem_of_getElem? (i := 8) rfl
set_option maxHeartbeats 4000000 in
set_option maxRecDepth 100000 in
theorem ct_X3_sharedWith (l : Launch) (dC : Nat → ClassId) (dI : Nat → Nat → Nat) (a b : Nat → Nat) (cI cJ cZ : ClassId) (st : SS) (x1 : Int32) (x2 : Int32) (x3 : Int32) (res : Int32) (hf : fX3_sharedWith st x1 x2 x3 = some res) : Met l yX3_sharedWith wsX3_sharedWith rX3_sharedWith (Pp (dC, dI) (tyT cI cJ cZ) (WX3 a b cI cJ cZ st) [.ref (a 24), .int x1, .int x2, .int x3]) (Qp (.int res)) 0 0 (fun _ => False) := by
  refine Met.ofW (cc := cX3_sharedWith) (maxL := 4) (ret := (some .int)) (by decide) rfl ?_
  intro p e s m args below meth c s₁ B hml hv
  obtain ⟨hargs, hP, hK⟩ := hv
  have hx := B.exec
  have hb := B.bytes
  have hr := B.returns
  have hts := atoms_spec (ws := wsX3_sharedWith) B.pre
  have hown : s.vm.findClass RX3 = some m.cls := findClass_of_methodNamed B.named
  have hlocks := B.notSynchronized
  have hP : va_P (dC, dI) vwCl (WX3 a b cI cJ cZ st) s.heap := hP
  have hl := lv_entry ([.ref (a 24), .int x1, .int x2, .int x3]) (n := 4) (Nat.le_of_ble_eq_true rfl)
  refine W.eq (hargs ▸ lg_entry_eq m [.ref (a 24), .int x1, .int x2, .int x3] 4) ?_
  generalize (lg_sl ([.ref (a 24), .int x1, .int x2, .int x3]) ++ List.replicate (4 - (lg_sl ([.ref (a 24), .int x1, .int x2, .int x3])).length) Slot.unset).toArray = ls at hl ⊢
  have hl : lv_has ls 4 [(0, .ref (a 24)), (1, .int x1), (2, .int x2), (3, .int x3)] := hl
  obtain ⟨QQ, hQ⟩ : ∃ QQ : State → Prop, QQ = MQ below (Qp (.int res)) args s 0 0 (fun _ => False) := ⟨_, rfl⟩
  rw [← hQ]
  unfold fX3_sharedWith at hf
  refine lv_iconst (v := (0 : Int32)) hx hb dX3_sharedWith_0 (by decide) ?_
  refine lv_aload_n hx hb dX3_sharedWith_1 rfl (lv_at hl 0 rfl) ?_
  refine lv_iload_n hx hb dX3_sharedWith_2 rfl (lv_at hl 1 rfl) ?_
  obtain ⟨r1, hc2, hf⟩ := bind_s hf
  refine cpV (v := .int r1) ⟨hx, hb, hml, hown, hts⟩ (ct_X3_endOf l dC dI a b cI cJ cZ st x1 r1 hc2) (cwV 1 hts gX3_sharedWith_X3_endOf rfl rfl rfl (by decide +kernel) ⟨(Nat.le_of_ble_eq_true rfl), (Nat.le_of_ble_eq_true rfl)⟩) hK hP [0, 1, 2, 3] rfl rfl rfl rfl hl.1 rfl (Nat.le_of_ble_eq_true rfl) (Nat.le_of_ble_eq_true rfl) (Nat.le_of_ble_eq_true rfl) dX3_sharedWith_3 ?_
  refine lv_iload_n hx hb dX3_sharedWith_6 rfl (lv_at hl 2 rfl) ?_
  refine lv_iload_n hx hb dX3_sharedWith_7 rfl (lv_at hl 3 rfl) ?_
  refine lv_iadd hx hb dX3_sharedWith_8 ?_
  refine va_mmin hx hb (hml.trans hl.1.symm) hown (hts _ mX3_sharedWith_1) (hts _ mX3_sharedWith_2) (hts _ mX3_sharedWith_3) (hts _ mX3_sharedWith_4) (Nat.le_of_ble_eq_true rfl) (Nat.le_of_ble_eq_true rfl) (Nat.le_of_ble_eq_true rfl) (Nat.le_of_ble_eq_true rfl) dX3_sharedWith_9 ?_
  refine lv_aload_n hx hb dX3_sharedWith_12 rfl (lv_at hl 0 rfl) ?_
  refine va_get (D := (dC, dI)) (ci := 3) (v := .ref (b 0)) (C := RX3) (T := TX3) (N := 5) hx hb hts kX3_sharedWith_X3 hown hK hP 0 rfl rfl 0 (by decide) (hts _ mX3_sharedWith_5) (fun _ h9 => h9) rfl dX3_sharedWith_13 ?_
  refine lv_iload_n hx hb dX3_sharedWith_16 rfl (lv_at hl 1 rfl) ?_
  obtain ⟨hi3, hf⟩ := it_s hf
  refine va_iald hx hb hK hP 1 0 rfl rfl (inb_in hi3) dX3_sharedWith_17 ?_
  refine lv_iload_n hx hb dX3_sharedWith_18 rfl (lv_at hl 2 rfl) ?_
  refine va_mmax hx hb (hml.trans hl.1.symm) hown (hts _ mX3_sharedWith_6) (hts _ mX3_sharedWith_7) (hts _ mX3_sharedWith_3) (hts _ mX3_sharedWith_8) (Nat.le_of_ble_eq_true rfl) (Nat.le_of_ble_eq_true rfl) (Nat.le_of_ble_eq_true rfl) (Nat.le_of_ble_eq_true rfl) dX3_sharedWith_19 ?_
  refine lv_isub hx hb dX3_sharedWith_22 ?_
  refine va_mmax hx hb (hml.trans hl.1.symm) hown (hts _ mX3_sharedWith_6) (hts _ mX3_sharedWith_7) (hts _ mX3_sharedWith_3) (hts _ mX3_sharedWith_8) (Nat.le_of_ble_eq_true rfl) (Nat.le_of_ble_eq_true rfl) (Nat.le_of_ble_eq_true rfl) (Nat.le_of_ble_eq_true rfl) dX3_sharedWith_23 ?_
  obtain rfl := Option.some.inj hf
  rw [hQ]
  exact W.iret hx hb hr (fun t ht hW => ⟨rfl, ht⟩) (fun q hq => absurd hq List.not_mem_nil) dX3_sharedWith_26
def rX3_usedAmong : Room := { frames := 2, cells := 0, slots := 0, locals := 47 }
theorem kX3_usedAmong_X3 : ∀ w ∈ wsX30, w ∈ wsX3_usedAmong := fun w h => (List.mem_cons_of_mem _ (List.mem_append_right _ h))
theorem mX3_usedAmong_1 : Cond.fieldLink RX3 21 "SmokeLedger$Serials" "size" "I" ∈ wsX3_usedAmong := List.mem_of_getElem? (i := 1) rfl
theorem mX3_usedAmong_2 : Cond.fieldLink RX3 18 "SmokeLedger$Serials" "row" "[I" ∈ wsX3_usedAmong := List.mem_of_getElem? (i := 2) rfl
set_option maxHeartbeats 4000000 in
set_option maxRecDepth 100000 in
theorem ct_X3_usedAmong (l : Launch) (dC : Nat → ClassId) (dI : Nat → Nat → Nat) (a b : Nat → Nat) (cI cJ cZ : ClassId) (st : SS) (x1 : Int32) (x2 : Int32) (res : Int32) (hf : fX3_usedAmong st x1 x2 = some res) : Met l yX3_usedAmong wsX3_usedAmong rX3_usedAmong (Pp (dC, dI) (tyT cI cJ cZ) (WX3 a b cI cJ cZ st) [.ref (a 24), .int x1, .int x2]) (Qp (.int res)) 0 0 (fun _ => False) := by
  refine Met.ofW (cc := cX3_usedAmong) (maxL := 5) (ret := (some .int)) (by decide) rfl ?_
  intro p e s m args below meth c s₁ B hml hv
  obtain ⟨hargs, hP, hK⟩ := hv
  have hx := B.exec
  have hb := B.bytes
  have hr := B.returns
  have hts := atoms_spec (ws := wsX3_usedAmong) B.pre
  have hown : s.vm.findClass RX3 = some m.cls := findClass_of_methodNamed B.named
  have hlocks := B.notSynchronized
  have hP : va_P (dC, dI) vwCl (WX3 a b cI cJ cZ st) s.heap := hP
  have hl := lv_entry ([.ref (a 24), .int x1, .int x2]) (n := 5) (Nat.le_of_ble_eq_true rfl)
  refine W.eq (hargs ▸ lg_entry_eq m [.ref (a 24), .int x1, .int x2] 5) ?_
  generalize (lg_sl ([.ref (a 24), .int x1, .int x2]) ++ List.replicate (5 - (lg_sl ([.ref (a 24), .int x1, .int x2])).length) Slot.unset).toArray = ls at hl ⊢
  have hl : lv_has ls 5 [(0, .ref (a 24)), (1, .int x1), (2, .int x2)] := hl
  obtain ⟨QQ, hQ⟩ : ∃ QQ : State → Prop, QQ = MQ below (Qp (.int res)) args s 0 0 (fun _ => False) := ⟨_, rfl⟩
  rw [← hQ]
  have l5 : ∀ (x1 : Int32) (x2 : Int32) (fu : Nat) (s0 : Int32 × Int32) (r : Int32 × Int32), loopN (fun (s : Int32 × Int32) => fX3_usedAmong_l5 st x1 x2 s.1 s.2) fu s0 = some r → (∀ (ls : Array Slot), lv_has ls 5 [(0, .ref (a 24)), (1, .int x1), (2, .int x2), (3, .int r.1), (4, .int r.2)] → W p l e (headSpec wsX3_usedAmong rX3_usedAmong).room s m args below meth c s.heap [] 0 0 QQ (F0 m 43 ls [])) → (∀ (ls : Array Slot), lv_has ls 5 [(0, .ref (a 24)), (1, .int x1), (2, .int x2), (3, .int s0.1), (4, .int s0.2)] → W p l e (headSpec wsX3_usedAmong rX3_usedAmong).room s m args below meth c s.heap [] 0 0 QQ (F0 m 5 ls [])) := by
    intro x1 x2 fu s0 r
    have b37 : ∀ (x1 : Int32) (x2 : Int32) (x3 : Int32) (x4 : Int32) (x : (Int32 × Int32) ⊕ (Int32 × Int32)), fX3_usedAmong_b37 st x1 x2 x3 x4 = some x → (∀ s', x = .inl s' → (∀ (ls : Array Slot), lv_has ls 5 [(0, .ref (a 24)), (1, .int x1), (2, .int x2), (3, .int s'.1), (4, .int s'.2)] → W p l e (headSpec wsX3_usedAmong rX3_usedAmong).room s m args below meth c s.heap [] 0 0 QQ (F0 m 5 ls []))) → (∀ r, x = .inr r → (∀ (ls : Array Slot), lv_has ls 5 [(0, .ref (a 24)), (1, .int x1), (2, .int x2), (3, .int r.1), (4, .int r.2)] → W p l e (headSpec wsX3_usedAmong rX3_usedAmong).room s m args below meth c s.heap [] 0 0 QQ (F0 m 43 ls []))) → (∀ (ls : Array Slot), lv_has ls 5 [(0, .ref (a 24)), (1, .int x1), (2, .int x2), (3, .int x3), (4, .int x4)] → W p l e (headSpec wsX3_usedAmong rX3_usedAmong).room s m args below meth c s.heap [] 0 0 QQ (F0 m 37 ls [])) := by
      intro x1 x2 x3 x4 x hf kc ke
      intro ls hl
      unfold fX3_usedAmong_b37 at hf
      refine lv_iinc (v := (x4 + (1 : Int32))) (lv' := [(4, .int (x4 + (1 : Int32))), (0, .ref (a 24)), (1, .int x1), (2, .int x2), (3, .int x3)]) hx hb dX3_usedAmong_37 hl (k := 4) rfl rfl (by decide) rfl (fun ls hl => ?_)
      refine lv_goto (tgt := 5) hx hb dX3_usedAmong_40 (by decide) ?_
      obtain rfl := Option.some.inj hf
      exact kc _ rfl ls (lv_sub hl [1, 2, 3, 4, 0] rfl)
    refine loop_ind (P := fun s0 => ∀ (ls : Array Slot), lv_has ls 5 [(0, .ref (a 24)), (1, .int x1), (2, .int x2), (3, .int s0.1), (4, .int s0.2)] → W p l e (headSpec wsX3_usedAmong rX3_usedAmong).room s m args below meth c s.heap [] 0 0 QQ (F0 m 5 ls [])) (Q := fun r => ∀ (ls : Array Slot), lv_has ls 5 [(0, .ref (a 24)), (1, .int x1), (2, .int x2), (3, .int r.1), (4, .int r.2)] → W p l e (headSpec wsX3_usedAmong rX3_usedAmong).room s m args below meth c s.heap [] 0 0 QQ (F0 m 43 ls [])) ?_ fu s0 r
    clear fu s0 r
    rintro ⟨x3, x4⟩ x hf kc ke
    replace hf : fX3_usedAmong_l5 st x1 x2 x3 x4 = some x := hf
    replace kc : (∀ s', x = .inl s' → (∀ (ls : Array Slot), lv_has ls 5 [(0, .ref (a 24)), (1, .int x1), (2, .int x2), (3, .int s'.1), (4, .int s'.2)] → W p l e (headSpec wsX3_usedAmong rX3_usedAmong).room s m args below meth c s.heap [] 0 0 QQ (F0 m 5 ls []))) := kc
    replace ke : (∀ r, x = .inr r → (∀ (ls : Array Slot), lv_has ls 5 [(0, .ref (a 24)), (1, .int x1), (2, .int x2), (3, .int r.1), (4, .int r.2)] → W p l e (headSpec wsX3_usedAmong rX3_usedAmong).room s m args below meth c s.heap [] 0 0 QQ (F0 m 43 ls []))) := ke
    intro ls hl
    unfold fX3_usedAmong_l5 at hf
    refine lv_iload hx hb dX3_usedAmong_5 (lv_at hl 4 rfl) ?_
    refine lv_aload_n hx hb dX3_usedAmong_7 rfl (lv_at hl 0 rfl) ?_
    refine va_get (D := (dC, dI)) (ci := 3) (v := .int (SS_size st)) (C := RX3) (T := TX3) (N := 5) hx hb hts kX3_usedAmong_X3 hown hK hP 0 rfl rfl 3 (by decide) (hts _ mX3_usedAmong_1) (fun _ h9 => h9) rfl dX3_usedAmong_8 ?_
    refine lv_icmp_ge (tgt := 43) hx hb dX3_usedAmong_11 (by decide) (fun c1 => ?_) (fun c1 => ?_)
    · replace hf := it_p c1 hf
      obtain rfl := Option.some.inj hf
      exact ke _ rfl ls (lv_sub hl [0, 1, 2, 3, 4] rfl)
    · replace hf := it_n c1 hf
      refine lv_aload_n hx hb dX3_usedAmong_14 rfl (lv_at hl 0 rfl) ?_
      refine va_get (D := (dC, dI)) (ci := 3) (v := .ref (b 2)) (C := RX3) (T := TX3) (N := 5) hx hb hts kX3_usedAmong_X3 hown hK hP 0 rfl rfl 2 (by decide) (hts _ mX3_usedAmong_2) (fun _ h9 => h9) rfl dX3_usedAmong_15 ?_
      refine lv_iload hx hb dX3_usedAmong_18 (lv_at hl 4 rfl) ?_
      obtain ⟨hi2, hf⟩ := it_s hf
      refine va_iald hx hb hK hP 3 0 rfl rfl (inb_in hi2) dX3_usedAmong_20 ?_
      refine lv_bipush (v := (-9 : Int32)) hx hb dX3_usedAmong_21 (by decide) ?_
      refine lv_icmp_eq (tgt := 37) hx hb dX3_usedAmong_23 (by decide) (fun c3 => ?_) (fun c3 => ?_)
      · replace hf := it_p c3 hf
        exact b37 x1 x2 x3 x4 _ hf kc ke ls (lv_sub hl [0, 1, 2, 3, 4] rfl)
      · replace hf := it_n c3 hf
        refine lv_iload_n hx hb dX3_usedAmong_26 rfl (lv_at hl 3 rfl) ?_
        refine lv_aload_n hx hb dX3_usedAmong_27 rfl (lv_at hl 0 rfl) ?_
        refine lv_iload hx hb dX3_usedAmong_28 (lv_at hl 4 rfl) ?_
        refine lv_iload_n hx hb dX3_usedAmong_30 rfl (lv_at hl 1 rfl) ?_
        refine lv_iload_n hx hb dX3_usedAmong_31 rfl (lv_at hl 2 rfl) ?_
        obtain ⟨r4, hc5, hf⟩ := bind_s hf
        refine cpV (v := .int r4) ⟨hx, hb, hml, hown, hts⟩ (ct_X3_sharedWith l dC dI a b cI cJ cZ st x4 x1 x2 r4 hc5) (cwV 3 hts gX3_usedAmong_X3_sharedWith rfl rfl rfl (by decide +kernel) ⟨(Nat.le_of_ble_eq_true rfl), (Nat.le_of_ble_eq_true rfl)⟩) hK hP [0, 1, 2, 3] rfl rfl rfl rfl hl.1 rfl (Nat.le_of_ble_eq_true rfl) (Nat.le_of_ble_eq_true rfl) (Nat.le_of_ble_eq_true rfl) dX3_usedAmong_32 ?_
        refine lv_iadd hx hb dX3_usedAmong_35 ?_
        refine lv_istore_n (lv' := [(3, .int (x3 + r4)), (0, .ref (a 24)), (1, .int x1), (2, .int x2), (4, .int x4)]) hx hb dX3_usedAmong_36 rfl hl (by decide) rfl (fun ls hl => ?_)
        exact b37 x1 x2 (x3 + r4) x4 _ hf kc ke ls (lv_sub hl [1, 2, 3, 0, 4] rfl)
  unfold fX3_usedAmong at hf
  refine lv_iconst (v := (0 : Int32)) hx hb dX3_usedAmong_0 (by decide) ?_
  refine lv_istore_n (lv' := [(3, .int (0 : Int32)), (0, .ref (a 24)), (1, .int x1), (2, .int x2)]) hx hb dX3_usedAmong_1 rfl hl (by decide) rfl (fun ls hl => ?_)
  refine lv_iconst (v := (0 : Int32)) hx hb dX3_usedAmong_2 (by decide) ?_
  refine lv_istore (lv' := [(4, .int (0 : Int32)), (3, .int (0 : Int32)), (0, .ref (a 24)), (1, .int x1), (2, .int x2)]) hx hb dX3_usedAmong_3 hl (by decide) rfl (fun ls hl => ?_)
  obtain ⟨y6, hlp, hf⟩ := bind_s hf
  refine l5 x1 x2 fuelN ((0 : Int32), (0 : Int32)) y6 hlp ?_ ls (lv_sub hl [2, 3, 4, 1, 0] rfl)
  intro ls hl
  refine lv_iload_n hx hb dX3_usedAmong_43 rfl (lv_at hl 3 rfl) ?_
  obtain rfl := Option.some.inj hf
  rw [hQ]
  exact W.iret hx hb hr (fun t ht hW => ⟨rfl, ht⟩) (fun q hq => absurd hq List.not_mem_nil) dX3_usedAmong_44
def rX3_ownedAmong : Room := { frames := 2, cells := 0, slots := 0, locals := 47 }
theorem kX3_ownedAmong_X3 : ∀ w ∈ wsX30, w ∈ wsX3_ownedAmong := fun w h => (List.mem_cons_of_mem _ (List.mem_append_right _ h))
theorem mX3_ownedAmong_1 : Cond.fieldLink RX3 21 "SmokeLedger$Serials" "size" "I" ∈ wsX3_ownedAmong := List.mem_of_getElem? (i := 1) rfl
theorem mX3_ownedAmong_2 : Cond.fieldLink RX3 15 "SmokeLedger$Serials" "owner" "[I" ∈ wsX3_ownedAmong := List.mem_of_getElem? (i := 2) rfl
set_option maxHeartbeats 4000000 in
set_option maxRecDepth 100000 in
theorem ct_X3_ownedAmong (l : Launch) (dC : Nat → ClassId) (dI : Nat → Nat → Nat) (a b : Nat → Nat) (cI cJ cZ : ClassId) (st : SS) (x1 : Int32) (x2 : Int32) (x3 : Int32) (res : Int32) (hf : fX3_ownedAmong st x1 x2 x3 = some res) : Met l yX3_ownedAmong wsX3_ownedAmong rX3_ownedAmong (Pp (dC, dI) (tyT cI cJ cZ) (WX3 a b cI cJ cZ st) [.ref (a 24), .int x1, .int x2, .int x3]) (Qp (.int res)) 0 0 (fun _ => False) := by
  refine Met.ofW (cc := cX3_ownedAmong) (maxL := 6) (ret := (some .int)) (by decide) rfl ?_
  intro p e s m args below meth c s₁ B hml hv
  obtain ⟨hargs, hP, hK⟩ := hv
  have hx := B.exec
  have hb := B.bytes
  have hr := B.returns
  have hts := atoms_spec (ws := wsX3_ownedAmong) B.pre
  have hown : s.vm.findClass RX3 = some m.cls := findClass_of_methodNamed B.named
  have hlocks := B.notSynchronized
  have hP : va_P (dC, dI) vwCl (WX3 a b cI cJ cZ st) s.heap := hP
  have hl := lv_entry ([.ref (a 24), .int x1, .int x2, .int x3]) (n := 6) (Nat.le_of_ble_eq_true rfl)
  refine W.eq (hargs ▸ lg_entry_eq m [.ref (a 24), .int x1, .int x2, .int x3] 6) ?_
  generalize (lg_sl ([.ref (a 24), .int x1, .int x2, .int x3]) ++ List.replicate (6 - (lg_sl ([.ref (a 24), .int x1, .int x2, .int x3])).length) Slot.unset).toArray = ls at hl ⊢
  have hl : lv_has ls 6 [(0, .ref (a 24)), (1, .int x1), (2, .int x2), (3, .int x3)] := hl
  obtain ⟨QQ, hQ⟩ : ∃ QQ : State → Prop, QQ = MQ below (Qp (.int res)) args s 0 0 (fun _ => False) := ⟨_, rfl⟩
  rw [← hQ]
  have l6 : ∀ (x1 : Int32) (x2 : Int32) (x3 : Int32) (fu : Nat) (s0 : Int32 × Int32) (r : Int32 × Int32), loopN (fun (s : Int32 × Int32) => fX3_ownedAmong_l6 st x1 x2 x3 s.1 s.2) fu s0 = some r → (∀ (ls : Array Slot), lv_has ls 6 [(0, .ref (a 24)), (1, .int x1), (2, .int x2), (3, .int x3), (4, .int r.1), (5, .int r.2)] → W p l e (headSpec wsX3_ownedAmong rX3_ownedAmong).room s m args below meth c s.heap [] 0 0 QQ (F0 m 45 ls [])) → (∀ (ls : Array Slot), lv_has ls 6 [(0, .ref (a 24)), (1, .int x1), (2, .int x2), (3, .int x3), (4, .int s0.1), (5, .int s0.2)] → W p l e (headSpec wsX3_ownedAmong rX3_ownedAmong).room s m args below meth c s.heap [] 0 0 QQ (F0 m 6 ls [])) := by
    intro x1 x2 x3 fu s0 r
    have b39 : ∀ (x1 : Int32) (x2 : Int32) (x3 : Int32) (x4 : Int32) (x5 : Int32) (x : (Int32 × Int32) ⊕ (Int32 × Int32)), fX3_ownedAmong_b39 st x1 x2 x3 x4 x5 = some x → (∀ s', x = .inl s' → (∀ (ls : Array Slot), lv_has ls 6 [(0, .ref (a 24)), (1, .int x1), (2, .int x2), (3, .int x3), (4, .int s'.1), (5, .int s'.2)] → W p l e (headSpec wsX3_ownedAmong rX3_ownedAmong).room s m args below meth c s.heap [] 0 0 QQ (F0 m 6 ls []))) → (∀ r, x = .inr r → (∀ (ls : Array Slot), lv_has ls 6 [(0, .ref (a 24)), (1, .int x1), (2, .int x2), (3, .int x3), (4, .int r.1), (5, .int r.2)] → W p l e (headSpec wsX3_ownedAmong rX3_ownedAmong).room s m args below meth c s.heap [] 0 0 QQ (F0 m 45 ls []))) → (∀ (ls : Array Slot), lv_has ls 6 [(0, .ref (a 24)), (1, .int x1), (2, .int x2), (3, .int x3), (4, .int x4), (5, .int x5)] → W p l e (headSpec wsX3_ownedAmong rX3_ownedAmong).room s m args below meth c s.heap [] 0 0 QQ (F0 m 39 ls [])) := by
      intro x1 x2 x3 x4 x5 x hf kc ke
      intro ls hl
      unfold fX3_ownedAmong_b39 at hf
      refine lv_iinc (v := (x5 + (1 : Int32))) (lv' := [(5, .int (x5 + (1 : Int32))), (0, .ref (a 24)), (1, .int x1), (2, .int x2), (3, .int x3), (4, .int x4)]) hx hb dX3_ownedAmong_39 hl (k := 5) rfl rfl (by decide) rfl (fun ls hl => ?_)
      refine lv_goto (tgt := 6) hx hb dX3_ownedAmong_42 (by decide) ?_
      obtain rfl := Option.some.inj hf
      exact kc _ rfl ls (lv_sub hl [1, 2, 3, 4, 5, 0] rfl)
    refine loop_ind (P := fun s0 => ∀ (ls : Array Slot), lv_has ls 6 [(0, .ref (a 24)), (1, .int x1), (2, .int x2), (3, .int x3), (4, .int s0.1), (5, .int s0.2)] → W p l e (headSpec wsX3_ownedAmong rX3_ownedAmong).room s m args below meth c s.heap [] 0 0 QQ (F0 m 6 ls [])) (Q := fun r => ∀ (ls : Array Slot), lv_has ls 6 [(0, .ref (a 24)), (1, .int x1), (2, .int x2), (3, .int x3), (4, .int r.1), (5, .int r.2)] → W p l e (headSpec wsX3_ownedAmong rX3_ownedAmong).room s m args below meth c s.heap [] 0 0 QQ (F0 m 45 ls [])) ?_ fu s0 r
    clear fu s0 r
    rintro ⟨x4, x5⟩ x hf kc ke
    replace hf : fX3_ownedAmong_l6 st x1 x2 x3 x4 x5 = some x := hf
    replace kc : (∀ s', x = .inl s' → (∀ (ls : Array Slot), lv_has ls 6 [(0, .ref (a 24)), (1, .int x1), (2, .int x2), (3, .int x3), (4, .int s'.1), (5, .int s'.2)] → W p l e (headSpec wsX3_ownedAmong rX3_ownedAmong).room s m args below meth c s.heap [] 0 0 QQ (F0 m 6 ls []))) := kc
    replace ke : (∀ r, x = .inr r → (∀ (ls : Array Slot), lv_has ls 6 [(0, .ref (a 24)), (1, .int x1), (2, .int x2), (3, .int x3), (4, .int r.1), (5, .int r.2)] → W p l e (headSpec wsX3_ownedAmong rX3_ownedAmong).room s m args below meth c s.heap [] 0 0 QQ (F0 m 45 ls []))) := ke
    intro ls hl
    unfold fX3_ownedAmong_l6 at hf
    refine lv_iload hx hb dX3_ownedAmong_6 (lv_at hl 5 rfl) ?_
    refine lv_aload_n hx hb dX3_ownedAmong_8 rfl (lv_at hl 0 rfl) ?_
    refine va_get (D := (dC, dI)) (ci := 3) (v := .int (SS_size st)) (C := RX3) (T := TX3) (N := 5) hx hb hts kX3_ownedAmong_X3 hown hK hP 0 rfl rfl 3 (by decide) (hts _ mX3_ownedAmong_1) (fun _ h9 => h9) rfl dX3_ownedAmong_9 ?_
    refine lv_icmp_ge (tgt := 45) hx hb dX3_ownedAmong_12 (by decide) (fun c1 => ?_) (fun c1 => ?_)
    · replace hf := it_p c1 hf
      obtain rfl := Option.some.inj hf
      exact ke _ rfl ls (lv_sub hl [0, 1, 2, 3, 4, 5] rfl)
    · replace hf := it_n c1 hf
      refine lv_aload_n hx hb dX3_ownedAmong_15 rfl (lv_at hl 0 rfl) ?_
      refine va_get (D := (dC, dI)) (ci := 3) (v := .ref (b 1)) (C := RX3) (T := TX3) (N := 5) hx hb hts kX3_ownedAmong_X3 hown hK hP 0 rfl rfl 1 (by decide) (hts _ mX3_ownedAmong_2) (fun _ h9 => h9) rfl dX3_ownedAmong_16 ?_
      refine lv_iload hx hb dX3_ownedAmong_19 (lv_at hl 5 rfl) ?_
      obtain ⟨hi2, hf⟩ := it_s hf
      refine va_iald hx hb hK hP 2 0 rfl rfl (inb_in hi2) dX3_ownedAmong_21 ?_
      refine lv_iload_n hx hb dX3_ownedAmong_22 rfl (lv_at hl 3 rfl) ?_
      refine lv_icmp_ne (tgt := 39) hx hb dX3_ownedAmong_23 (by decide) (fun c3 => ?_) (fun c3 => ?_)
      · replace hf := it_n c3 hf
        exact b39 x1 x2 x3 x4 x5 _ hf kc ke ls (lv_sub hl [0, 1, 2, 3, 4, 5] rfl)
      · replace hf := it_p c3 hf
        refine lv_iload hx hb dX3_ownedAmong_26 (lv_at hl 4 rfl) ?_
        refine lv_aload_n hx hb dX3_ownedAmong_28 rfl (lv_at hl 0 rfl) ?_
        refine lv_iload hx hb dX3_ownedAmong_29 (lv_at hl 5 rfl) ?_
        refine lv_iload_n hx hb dX3_ownedAmong_31 rfl (lv_at hl 1 rfl) ?_
        refine lv_iload_n hx hb dX3_ownedAmong_32 rfl (lv_at hl 2 rfl) ?_
        obtain ⟨r4, hc5, hf⟩ := bind_s hf
        refine cpV (v := .int r4) ⟨hx, hb, hml, hown, hts⟩ (ct_X3_sharedWith l dC dI a b cI cJ cZ st x5 x1 x2 r4 hc5) (cwV 3 hts gX3_ownedAmong_X3_sharedWith rfl rfl rfl (by decide +kernel) ⟨(Nat.le_of_ble_eq_true rfl), (Nat.le_of_ble_eq_true rfl)⟩) hK hP [0, 1, 2, 3] rfl rfl rfl rfl hl.1 rfl (Nat.le_of_ble_eq_true rfl) (Nat.le_of_ble_eq_true rfl) (Nat.le_of_ble_eq_true rfl) dX3_ownedAmong_33 ?_
        refine lv_iadd hx hb dX3_ownedAmong_36 ?_
        refine lv_istore (lv' := [(4, .int (x4 + r4)), (0, .ref (a 24)), (1, .int x1), (2, .int x2), (3, .int x3), (5, .int x5)]) hx hb dX3_ownedAmong_37 hl (by decide) rfl (fun ls hl => ?_)
        exact b39 x1 x2 x3 (x4 + r4) x5 _ hf kc ke ls (lv_sub hl [1, 2, 3, 4, 0, 5] rfl)
  unfold fX3_ownedAmong at hf
  refine lv_iconst (v := (0 : Int32)) hx hb dX3_ownedAmong_0 (by decide) ?_
  refine lv_istore (lv' := [(4, .int (0 : Int32)), (0, .ref (a 24)), (1, .int x1), (2, .int x2), (3, .int x3)]) hx hb dX3_ownedAmong_1 hl (by decide) rfl (fun ls hl => ?_)
  refine lv_iconst (v := (0 : Int32)) hx hb dX3_ownedAmong_3 (by decide) ?_
  refine lv_istore (lv' := [(5, .int (0 : Int32)), (4, .int (0 : Int32)), (0, .ref (a 24)), (1, .int x1), (2, .int x2), (3, .int x3)]) hx hb dX3_ownedAmong_4 hl (by decide) rfl (fun ls hl => ?_)
  obtain ⟨y6, hlp, hf⟩ := bind_s hf
  refine l6 x1 x2 x3 fuelN ((0 : Int32), (0 : Int32)) y6 hlp ?_ ls (lv_sub hl [2, 3, 4, 5, 1, 0] rfl)
  intro ls hl
  refine lv_iload hx hb dX3_ownedAmong_45 (lv_at hl 4 rfl) ?_
  obtain rfl := Option.some.inj hf
  rw [hQ]
  exact W.iret hx hb hr (fun t ht hW => ⟨rfl, ht⟩) (fun q hq => absurd hq List.not_mem_nil) dX3_ownedAmong_47
def rX3_unusedOf : Room := { frames := 2, cells := 0, slots := 0, locals := 42 }
theorem kX3_unusedOf_X3 : ∀ w ∈ wsX30, w ∈ wsX3_unusedOf := fun w h => (List.mem_cons_of_mem _ (List.mem_append_right _ h))
theorem mX3_unusedOf_1 : Cond.fieldLink RX3 21 "SmokeLedger$Serials" "size" "I" ∈ wsX3_unusedOf := List.mem_of_getElem? (i := 1) rfl
theorem mX3_unusedOf_2 : Cond.fieldLink RX3 15 "SmokeLedger$Serials" "owner" "[I" ∈ wsX3_unusedOf := List.mem_of_getElem? (i := 2) rfl
theorem mX3_unusedOf_3 : Cond.fieldLink RX3 18 "SmokeLedger$Serials" "row" "[I" ∈ wsX3_unusedOf := List.mem_of_getElem? (i := 3) rfl
set_option maxHeartbeats 4000000 in
set_option maxRecDepth 100000 in
theorem ct_X3_unusedOf (l : Launch) (dC : Nat → ClassId) (dI : Nat → Nat → Nat) (a b : Nat → Nat) (cI cJ cZ : ClassId) (st : SS) (x1 : Int32) (res : Int32) (hf : fX3_unusedOf st x1 = some res) : Met l yX3_unusedOf wsX3_unusedOf rX3_unusedOf (Pp (dC, dI) (tyT cI cJ cZ) (WX3 a b cI cJ cZ st) [.ref (a 24), .int x1]) (Qp (.int res)) 0 0 (fun _ => False) := by
  refine Met.ofW (cc := cX3_unusedOf) (maxL := 4) (ret := (some .int)) (by decide) rfl ?_
  intro p e s m args below meth c s₁ B hml hv
  obtain ⟨hargs, hP, hK⟩ := hv
  have hx := B.exec
  have hb := B.bytes
  have hr := B.returns
  have hts := atoms_spec (ws := wsX3_unusedOf) B.pre
  have hown : s.vm.findClass RX3 = some m.cls := findClass_of_methodNamed B.named
  have hlocks := B.notSynchronized
  have hP : va_P (dC, dI) vwCl (WX3 a b cI cJ cZ st) s.heap := hP
  have hl := lv_entry ([.ref (a 24), .int x1]) (n := 4) (Nat.le_of_ble_eq_true rfl)
  refine W.eq (hargs ▸ lg_entry_eq m [.ref (a 24), .int x1] 4) ?_
  generalize (lg_sl ([.ref (a 24), .int x1]) ++ List.replicate (4 - (lg_sl ([.ref (a 24), .int x1])).length) Slot.unset).toArray = ls at hl ⊢
  have hl : lv_has ls 4 [(0, .ref (a 24)), (1, .int x1)] := hl
  obtain ⟨QQ, hQ⟩ : ∃ QQ : State → Prop, QQ = MQ below (Qp (.int res)) args s 0 0 (fun _ => False) := ⟨_, rfl⟩
  rw [← hQ]
  have l4 : ∀ (x1 : Int32) (fu : Nat) (s0 : Int32 × Int32) (r : Int32 × Int32), loopN (fun (s : Int32 × Int32) => fX3_unusedOf_l4 st x1 s.1 s.2) fu s0 = some r → (∀ (ls : Array Slot), lv_has ls 4 [(0, .ref (a 24)), (1, .int x1), (2, .int r.1), (3, .int r.2)] → W p l e (headSpec wsX3_unusedOf rX3_unusedOf).room s m args below meth c s.heap [] 0 0 QQ (F0 m 47 ls [])) → (∀ (ls : Array Slot), lv_has ls 4 [(0, .ref (a 24)), (1, .int x1), (2, .int s0.1), (3, .int s0.2)] → W p l e (headSpec wsX3_unusedOf rX3_unusedOf).room s m args below meth c s.heap [] 0 0 QQ (F0 m 4 ls [])) := by
    intro x1 fu s0 r
    have b41 : ∀ (x1 : Int32) (x2 : Int32) (x3 : Int32) (x : (Int32 × Int32) ⊕ (Int32 × Int32)), fX3_unusedOf_b41 st x1 x2 x3 = some x → (∀ s', x = .inl s' → (∀ (ls : Array Slot), lv_has ls 4 [(0, .ref (a 24)), (1, .int x1), (2, .int s'.1), (3, .int s'.2)] → W p l e (headSpec wsX3_unusedOf rX3_unusedOf).room s m args below meth c s.heap [] 0 0 QQ (F0 m 4 ls []))) → (∀ r, x = .inr r → (∀ (ls : Array Slot), lv_has ls 4 [(0, .ref (a 24)), (1, .int x1), (2, .int r.1), (3, .int r.2)] → W p l e (headSpec wsX3_unusedOf rX3_unusedOf).room s m args below meth c s.heap [] 0 0 QQ (F0 m 47 ls []))) → (∀ (ls : Array Slot), lv_has ls 4 [(0, .ref (a 24)), (1, .int x1), (2, .int x2), (3, .int x3)] → W p l e (headSpec wsX3_unusedOf rX3_unusedOf).room s m args below meth c s.heap [] 0 0 QQ (F0 m 41 ls [])) := by
      intro x1 x2 x3 x hf kc ke
      intro ls hl
      unfold fX3_unusedOf_b41 at hf
      refine lv_iinc (v := (x3 + (1 : Int32))) (lv' := [(3, .int (x3 + (1 : Int32))), (0, .ref (a 24)), (1, .int x1), (2, .int x2)]) hx hb dX3_unusedOf_41 hl (k := 3) rfl rfl (by decide) rfl (fun ls hl => ?_)
      refine lv_goto (tgt := 4) hx hb dX3_unusedOf_44 (by decide) ?_
      obtain rfl := Option.some.inj hf
      exact kc _ rfl ls (lv_sub hl [1, 2, 3, 0] rfl)
    refine loop_ind (P := fun s0 => ∀ (ls : Array Slot), lv_has ls 4 [(0, .ref (a 24)), (1, .int x1), (2, .int s0.1), (3, .int s0.2)] → W p l e (headSpec wsX3_unusedOf rX3_unusedOf).room s m args below meth c s.heap [] 0 0 QQ (F0 m 4 ls [])) (Q := fun r => ∀ (ls : Array Slot), lv_has ls 4 [(0, .ref (a 24)), (1, .int x1), (2, .int r.1), (3, .int r.2)] → W p l e (headSpec wsX3_unusedOf rX3_unusedOf).room s m args below meth c s.heap [] 0 0 QQ (F0 m 47 ls [])) ?_ fu s0 r
    clear fu s0 r
    rintro ⟨x2, x3⟩ x hf kc ke
    replace hf : fX3_unusedOf_l4 st x1 x2 x3 = some x := hf
    replace kc : (∀ s', x = .inl s' → (∀ (ls : Array Slot), lv_has ls 4 [(0, .ref (a 24)), (1, .int x1), (2, .int s'.1), (3, .int s'.2)] → W p l e (headSpec wsX3_unusedOf rX3_unusedOf).room s m args below meth c s.heap [] 0 0 QQ (F0 m 4 ls []))) := kc
    replace ke : (∀ r, x = .inr r → (∀ (ls : Array Slot), lv_has ls 4 [(0, .ref (a 24)), (1, .int x1), (2, .int r.1), (3, .int r.2)] → W p l e (headSpec wsX3_unusedOf rX3_unusedOf).room s m args below meth c s.heap [] 0 0 QQ (F0 m 47 ls []))) := ke
    intro ls hl
    unfold fX3_unusedOf_l4 at hf
    refine lv_iload_n hx hb dX3_unusedOf_4 rfl (lv_at hl 3 rfl) ?_
    refine lv_aload_n hx hb dX3_unusedOf_5 rfl (lv_at hl 0 rfl) ?_
    refine va_get (D := (dC, dI)) (ci := 3) (v := .int (SS_size st)) (C := RX3) (T := TX3) (N := 5) hx hb hts kX3_unusedOf_X3 hown hK hP 0 rfl rfl 3 (by decide) (hts _ mX3_unusedOf_1) (fun _ h9 => h9) rfl dX3_unusedOf_6 ?_
    refine lv_icmp_ge (tgt := 47) hx hb dX3_unusedOf_9 (by decide) (fun c1 => ?_) (fun c1 => ?_)
    · replace hf := it_p c1 hf
      obtain rfl := Option.some.inj hf
      exact ke _ rfl ls (lv_sub hl [0, 1, 2, 3] rfl)
    · replace hf := it_n c1 hf
      refine lv_aload_n hx hb dX3_unusedOf_12 rfl (lv_at hl 0 rfl) ?_
      refine va_get (D := (dC, dI)) (ci := 3) (v := .ref (b 1)) (C := RX3) (T := TX3) (N := 5) hx hb hts kX3_unusedOf_X3 hown hK hP 0 rfl rfl 1 (by decide) (hts _ mX3_unusedOf_2) (fun _ h9 => h9) rfl dX3_unusedOf_13 ?_
      refine lv_iload_n hx hb dX3_unusedOf_16 rfl (lv_at hl 3 rfl) ?_
      obtain ⟨hi2, hf⟩ := it_s hf
      refine va_iald hx hb hK hP 2 0 rfl rfl (inb_in hi2) dX3_unusedOf_17 ?_
      refine lv_iload_n hx hb dX3_unusedOf_18 rfl (lv_at hl 1 rfl) ?_
      refine lv_icmp_ne (tgt := 41) hx hb dX3_unusedOf_19 (by decide) (fun c3 => ?_) (fun c3 => ?_)
      · replace hf := it_n c3 hf
        exact b41 x1 x2 x3 _ hf kc ke ls (lv_sub hl [0, 1, 2, 3] rfl)
      · replace hf := it_p c3 hf
        refine lv_aload_n hx hb dX3_unusedOf_22 rfl (lv_at hl 0 rfl) ?_
        refine va_get (D := (dC, dI)) (ci := 3) (v := .ref (b 2)) (C := RX3) (T := TX3) (N := 5) hx hb hts kX3_unusedOf_X3 hown hK hP 0 rfl rfl 2 (by decide) (hts _ mX3_unusedOf_3) (fun _ h9 => h9) rfl dX3_unusedOf_23 ?_
        refine lv_iload_n hx hb dX3_unusedOf_26 rfl (lv_at hl 3 rfl) ?_
        obtain ⟨hi4, hf⟩ := it_s hf
        refine va_iald hx hb hK hP 3 0 rfl rfl (inb_in hi4) dX3_unusedOf_27 ?_
        refine lv_bipush (v := (-9 : Int32)) hx hb dX3_unusedOf_28 (by decide) ?_
        refine lv_icmp_ne (tgt := 41) hx hb dX3_unusedOf_30 (by decide) (fun c5 => ?_) (fun c5 => ?_)
        · replace hf := it_n c5 hf
          exact b41 x1 x2 x3 _ hf kc ke ls (lv_sub hl [0, 1, 2, 3] rfl)
        · replace hf := it_p c5 hf
          refine lv_iload_n hx hb dX3_unusedOf_33 rfl (lv_at hl 2 rfl) ?_
          refine lv_aload_n hx hb dX3_unusedOf_34 rfl (lv_at hl 0 rfl) ?_
          refine lv_iload_n hx hb dX3_unusedOf_35 rfl (lv_at hl 3 rfl) ?_
          obtain ⟨r6, hc7, hf⟩ := bind_s hf
          refine cpV (v := .int r6) ⟨hx, hb, hml, hown, hts⟩ (ct_X3_lengthOf l dC dI a b cI cJ cZ st x3 r6 hc7) (cwV 1 hts gX3_unusedOf_X3_lengthOf rfl rfl rfl (by decide +kernel) ⟨(Nat.le_of_ble_eq_true rfl), (Nat.le_of_ble_eq_true rfl)⟩) hK hP [0, 1, 2, 3] rfl rfl rfl rfl hl.1 rfl (Nat.le_of_ble_eq_true rfl) (Nat.le_of_ble_eq_true rfl) (Nat.le_of_ble_eq_true rfl) dX3_unusedOf_36 ?_
          refine lv_iadd hx hb dX3_unusedOf_39 ?_
          refine lv_istore_n (lv' := [(2, .int (x2 + r6)), (0, .ref (a 24)), (1, .int x1), (3, .int x3)]) hx hb dX3_unusedOf_40 rfl hl (by decide) rfl (fun ls hl => ?_)
          exact b41 x1 (x2 + r6) x3 _ hf kc ke ls (lv_sub hl [1, 2, 0, 3] rfl)
  unfold fX3_unusedOf at hf
  refine lv_iconst (v := (0 : Int32)) hx hb dX3_unusedOf_0 (by decide) ?_
  refine lv_istore_n (lv' := [(2, .int (0 : Int32)), (0, .ref (a 24)), (1, .int x1)]) hx hb dX3_unusedOf_1 rfl hl (by decide) rfl (fun ls hl => ?_)
  refine lv_iconst (v := (0 : Int32)) hx hb dX3_unusedOf_2 (by decide) ?_
  refine lv_istore_n (lv' := [(3, .int (0 : Int32)), (2, .int (0 : Int32)), (0, .ref (a 24)), (1, .int x1)]) hx hb dX3_unusedOf_3 rfl hl (by decide) rfl (fun ls hl => ?_)
  obtain ⟨y8, hlp, hf⟩ := bind_s hf
  refine l4 x1 fuelN ((0 : Int32), (0 : Int32)) y8 hlp ?_ ls (lv_sub hl [2, 3, 1, 0] rfl)
  intro ls hl
  refine lv_iload_n hx hb dX3_unusedOf_47 rfl (lv_at hl 2 rfl) ?_
  obtain rfl := Option.some.inj hf
  rw [hQ]
  exact W.iret hx hb hr (fun t ht hW => ⟨rfl, ht⟩) (fun q hq => absurd hq List.not_mem_nil) dX3_unusedOf_48
def rX3_splitBefore : Room := { frames := 3, cells := 3, slots := 6144, locals := 87 }
theorem kX3_splitBefore_X3 : ∀ w ∈ wsX30, w ∈ wsX3_splitBefore := fun w h => (List.mem_cons_of_mem _ (List.mem_append_right _ h))
theorem mX3_splitBefore_1 : Cond.fieldLink RX3 25 "SmokeLedger$Serials" "issued" "I" ∈ wsX3_splitBefore := List.mem_of_getElem? (i := 1) rfl
theorem mX3_splitBefore_3 : Cond.fieldLink RX3 9 "SmokeLedger$Serials" "first" "[I" ∈ wsX3_splitBefore := List.mem_of_getElem? (i := 3) rfl
theorem mX3_splitBefore_4 : Cond.fieldLink RX3 15 "SmokeLedger$Serials" "owner" "[I" ∈ wsX3_splitBefore := List.mem_of_getElem? (i := 4) rfl
theorem mX3_splitBefore_5 : Cond.fieldLink RX3 18 "SmokeLedger$Serials" "row" "[I" ∈ wsX3_splitBefore := List.mem_of_getElem? (i := 5) rfl
theorem mX3_splitBefore_2 : Cond.fieldLink RX3 21 "SmokeLedger$Serials" "size" "I" ∈ wsX3_splitBefore := List.mem_of_getElem? (i := 2) rfl
set_option maxHeartbeats 4000000 in
set_option maxRecDepth 100000 in
theorem ct_X3_splitBefore (l : Launch) (dC : Nat → ClassId) (dI : Nat → Nat → Nat) (a b : Nat → Nat) (cI cJ cZ : ClassId) (sz : Nat) (st : SS) (x1 : Int32) (res : Int32 × SS) (hf : fX3_splitBefore st x1 = some res) : Met l yX3_splitBefore wsX3_splitBefore rX3_splitBefore (Pm (dC, dI) (tyT cI cJ cZ) (WX3 a b cI cJ cZ st) sz [.ref (a 24), .int x1]) (Qe (dC, dI) (some (.int res.1)) (fun b' => (WX3 a b' cI cJ cZ res.2)) (va_A (WX3 a b cI cJ cZ st) sz)) 3 6144 (va_A (WX3 a b cI cJ cZ st) sz) := by
  refine Met.ofW (cc := cX3_splitBefore) (maxL := 3) (ret := (some .int)) (by decide) rfl ?_
  intro p e s m args below meth c s₁ B hml hv
  obtain ⟨hargs, hsz, hP, hK, hD0⟩ := hv
  have hx := B.exec
  have hb := B.bytes
  have hr := B.returns
  have hts := atoms_spec (ws := wsX3_splitBefore) B.pre
  have hown : s.vm.findClass RX3 = some m.cls := findClass_of_methodNamed B.named
  have hlocks := B.notSynchronized
  subst hsz
  have hD := hD0.self (sz := s.heap.size)
  generalize hAe : va_A (WX3 a b cI cJ cZ st) s.heap.size = A at hD ⊢
  have hA : ∀ q : Nat, s.heap.size ≤ q → A q := fun q h => by rw [← hAe]; exact Or.inr h
  have hl := lv_entry ([.ref (a 24), .int x1]) (n := 3) (Nat.le_of_ble_eq_true rfl)
  refine W.eq (hargs ▸ lg_entry_eq m [.ref (a 24), .int x1] 3) ?_
  generalize (lg_sl ([.ref (a 24), .int x1]) ++ List.replicate (3 - (lg_sl ([.ref (a 24), .int x1])).length) Slot.unset).toArray = ls at hl ⊢
  have hl : lv_has ls 3 [(0, .ref (a 24)), (1, .int x1)] := hl
  obtain ⟨QQ, hQ⟩ : ∃ QQ : State → Prop, QQ = MQ below (Qe (dC, dI) (some (.int res.1)) (fun b' => (WX3 a b' cI cJ cZ res.2)) A) args s 3 6144 (A) := ⟨_, rfl⟩
  rw [← hQ]
  have main : ∀ (b : Nat → Nat) (H : Heap) (locs : List Loc) (ls : Array Slot), IN (dC, dI) (WX3 a b cI cJ cZ st) A s.heap H locs → lv_has ls 3 [(0, .ref (a 24)), (1, .int x1)] → W p l e (headSpec wsX3_splitBefore rX3_splitBefore).room s m args below meth c H locs 0 0 QQ (F0 m 0 ls []) := by
    intro b H locs ls hin hl
    obtain ⟨hP, hD, hS⟩ := hin
    unfold fX3_splitBefore at hf
    refine lv_iload_n hx hb dX3_splitBefore_0 rfl (lv_at hl 1 rfl) ?_
    refine lv_aload_n hx hb dX3_splitBefore_1 rfl (lv_at hl 0 rfl) ?_
    refine va_get (D := (dC, dI)) (ci := 3) (v := .int (SS_issued st)) (C := RX3) (T := TX3) (N := 5) hx hb hts kX3_splitBefore_X3 hown hK hP 0 rfl rfl 4 (by decide) (hts _ mX3_splitBefore_1) (fun _ h9 => h9) rfl dX3_splitBefore_2 ?_
    refine lv_icmp_le (tgt := 13) hx hb dX3_splitBefore_5 (by decide) (fun c1 => ?_) (fun c1 => ?_)
    · replace hf := it_p c1 hf
      refine lv_aload_n hx hb dX3_splitBefore_13 rfl (lv_at hl 0 rfl) ?_
      refine lv_iload_n hx hb dX3_splitBefore_14 rfl (lv_at hl 1 rfl) ?_
      obtain ⟨r2, hc3, hf⟩ := bind_s hf
      refine cpV (v := .int r2) ⟨hx, hb, hml, hown, hts⟩ (ct_X3_runWith l dC dI a b cI cJ cZ st x1 r2 hc3) (cwV 1 hts gX3_splitBefore_X3_runWith rfl rfl rfl (by decide +kernel) ⟨(Nat.le_of_ble_eq_true rfl), (Nat.le_of_ble_eq_true rfl)⟩) hK hP [0, 1, 2, 3] rfl rfl rfl rfl hl.1 rfl (Nat.le_of_ble_eq_true rfl) (Nat.le_of_ble_eq_true rfl) (Nat.le_of_ble_eq_true rfl) dX3_splitBefore_15 ?_
      refine lv_istore_n (lv' := [(2, .int r2), (0, .ref (a 24)), (1, .int x1)]) hx hb dX3_splitBefore_18 rfl hl (by decide) rfl (fun ls hl => ?_)
      refine lv_aload_n hx hb dX3_splitBefore_19 rfl (lv_at hl 1 rfl) ?_
      refine va_get (D := (dC, dI)) (ci := 3) (v := .ref (b 0)) (C := RX3) (T := TX3) (N := 5) hx hb hts kX3_splitBefore_X3 hown hK hP 0 rfl rfl 0 (by decide) (hts _ mX3_splitBefore_3) (fun _ h9 => h9) rfl dX3_splitBefore_20 ?_
      refine lv_iload_n hx hb dX3_splitBefore_23 rfl (lv_at hl 0 rfl) ?_
      obtain ⟨hi4, hf⟩ := it_s hf
      refine va_iald hx hb hK hP 1 0 rfl rfl (inb_in hi4) dX3_splitBefore_24 ?_
      refine lv_iload_n hx hb dX3_splitBefore_25 rfl (lv_at hl 2 rfl) ?_
      refine lv_icmp_ne (tgt := 31) hx hb dX3_splitBefore_26 (by decide) (fun c5 => ?_) (fun c5 => ?_)
      · replace hf := it_n c5 hf
        refine lv_aload_n hx hb dX3_splitBefore_31 rfl (lv_at hl 1 rfl) ?_
        refine lv_iload_n hx hb dX3_splitBefore_32 rfl (lv_at hl 0 rfl) ?_
        refine lv_iconst (v := (1 : Int32)) hx hb dX3_splitBefore_33 (by decide) ?_
        refine lv_iadd hx hb dX3_splitBefore_34 ?_
        refine lv_iload_n hx hb dX3_splitBefore_35 rfl (lv_at hl 2 rfl) ?_
        refine lv_aload_n hx hb dX3_splitBefore_36 rfl (lv_at hl 1 rfl) ?_
        refine va_get (D := (dC, dI)) (ci := 3) (v := .ref (b 1)) (C := RX3) (T := TX3) (N := 5) hx hb hts kX3_splitBefore_X3 hown hK hP 0 rfl rfl 1 (by decide) (hts _ mX3_splitBefore_4) (fun _ h9 => h9) rfl dX3_splitBefore_37 ?_
        refine lv_iload_n hx hb dX3_splitBefore_40 rfl (lv_at hl 0 rfl) ?_
        obtain ⟨hi6, hf⟩ := it_s hf
        refine va_iald hx hb hK hP 2 0 rfl rfl (inb_in hi6) dX3_splitBefore_41 ?_
        refine lv_aload_n hx hb dX3_splitBefore_42 rfl (lv_at hl 1 rfl) ?_
        refine va_get (D := (dC, dI)) (ci := 3) (v := .ref (b 2)) (C := RX3) (T := TX3) (N := 5) hx hb hts kX3_splitBefore_X3 hown hK hP 0 rfl rfl 2 (by decide) (hts _ mX3_splitBefore_5) (fun _ h9 => h9) rfl dX3_splitBefore_43 ?_
        refine lv_iload_n hx hb dX3_splitBefore_46 rfl (lv_at hl 0 rfl) ?_
        obtain ⟨hi7, hf⟩ := it_s hf
        refine va_iald hx hb hK hP 3 0 rfl rfl (inb_in hi7) dX3_splitBefore_47 ?_
        obtain ⟨p8, hc9, hf⟩ := bind_s hf
        refine cmE (wr := []) ⟨hx, hb, hml, hown, hts⟩ (ct_X3_insertRun l dC dI a b cI cJ cZ H.size st (r2 + (1 : Int32)) x1 ((SS_owner st) (r2).toNatClampNeg) ((SS_row st) (r2).toNatClampNeg) p8 hc9) (cwV 4 hts gX3_splitBefore_X3_insertRun rfl rfl rfl (by decide +kernel) ⟨(Nat.le_of_ble_eq_true rfl), (Nat.le_of_ble_eq_true rfl)⟩) hK hP hD hS hA [0, 1, 2, 3] [] rfl rfl (by decide) rfl (by decide) (by decide) rfl rfl rfl hl.1 rfl (Nat.le_of_ble_eq_true rfl) (Nat.le_of_ble_eq_true rfl) (Nat.le_of_ble_eq_true rfl) dX3_splitBefore_48 (fun b10 H locs hP hD hS => ?_)
        replace hP : va_P (dC, dI) vwCl (WX3 a b10 cI cJ cZ p8) H := hP
        replace hD : va_D A (WX3 a b10 cI cJ cZ p8) := hD
        refine W.eq (g2 := F0 m 51 ls []) rfl ?_
        refine lv_iload_n hx hb dX3_splitBefore_51 rfl (lv_at hl 0 rfl) ?_
        refine lv_iconst (v := (1 : Int32)) hx hb dX3_splitBefore_52 (by decide) ?_
        refine lv_iadd hx hb dX3_splitBefore_53 ?_
        obtain rfl := Option.some.inj hf
        rw [hQ]
        exact W.iret hx hb hr (fun t ht hW => ⟨rfl, ⟨b10, by rw [ht]; exact hP, hD⟩, hS.F ht⟩) hS.2.2 dX3_splitBefore_54
      · replace hf := it_p c5 hf
        refine lv_iload_n hx hb dX3_splitBefore_29 rfl (lv_at hl 0 rfl) ?_
        obtain rfl := Option.some.inj hf
        refine W.widen (k := 3) (n := 6144) (Nat.le_of_ble_eq_true rfl) (Nat.le_of_ble_eq_true rfl) ?_
        rw [hQ]
        exact W.iret hx hb hr (fun t ht hW => ⟨rfl, ⟨b, by rw [ht]; exact hP, hD⟩, hS.F ht⟩) hS.2.2 dX3_splitBefore_30
    · replace hf := it_n c1 hf
      refine lv_aload_n hx hb dX3_splitBefore_8 rfl (lv_at hl 0 rfl) ?_
      refine va_get (D := (dC, dI)) (ci := 3) (v := .int (SS_size st)) (C := RX3) (T := TX3) (N := 5) hx hb hts kX3_splitBefore_X3 hown hK hP 0 rfl rfl 3 (by decide) (hts _ mX3_splitBefore_2) (fun _ h9 => h9) rfl dX3_splitBefore_9 ?_
      obtain rfl := Option.some.inj hf
      refine W.widen (k := 3) (n := 6144) (Nat.le_of_ble_eq_true rfl) (Nat.le_of_ble_eq_true rfl) ?_
      rw [hQ]
      exact W.iret hx hb hr (fun t ht hW => ⟨rfl, ⟨b, by rw [ht]; exact hP, hD⟩, hS.F ht⟩) hS.2.2 dX3_splitBefore_12
  exact main b s.heap [] ls ⟨hP, hD, va_S.rf⟩ hl
def rX3_joinAlike : Room := { frames := 0, cells := 0, slots := 0, locals := 0 }
theorem kX3_joinAlike_X3 : ∀ w ∈ wsX30, w ∈ wsX3_joinAlike := fun w h => (List.mem_cons_of_mem _ (List.mem_append_right _ h))
theorem mX3_joinAlike_1 : Cond.fieldLink RX3 21 "SmokeLedger$Serials" "size" "I" ∈ wsX3_joinAlike := List.mem_of_getElem? (i := 1) rfl
theorem mX3_joinAlike_4 : Cond.fieldLink RX3 9 "SmokeLedger$Serials" "first" "[I" ∈ wsX3_joinAlike := List.mem_of_getElem? (i := 4) rfl
theorem mX3_joinAlike_2 : Cond.fieldLink RX3 15 "SmokeLedger$Serials" "owner" "[I" ∈ wsX3_joinAlike := List.mem_of_getElem? (i := 2) rfl
theorem mX3_joinAlike_3 : Cond.fieldLink RX3 18 "SmokeLedger$Serials" "row" "[I" ∈ wsX3_joinAlike := List.mem_of_getElem? (i := 3) rfl
set_option maxHeartbeats 4000000 in
set_option maxRecDepth 100000 in
theorem ct_X3_joinAlike (l : Launch) (dC : Nat → ClassId) (dI : Nat → Nat → Nat) (a b : Nat → Nat) (cI cJ cZ : ClassId) (sz : Nat) (st : SS) (res : SS) (hf : fX3_joinAlike st = some res) : Met l yX3_joinAlike wsX3_joinAlike rX3_joinAlike (Pm (dC, dI) (tyT cI cJ cZ) (WX3 a b cI cJ cZ st) sz [.ref (a 24)]) (Qm (dC, dI) none (WX3 a b cI cJ cZ res) (va_A (WX3 a b cI cJ cZ st) sz)) 0 0 (va_A (WX3 a b cI cJ cZ st) sz) := by
  refine Met.ofW (cc := cX3_joinAlike) (maxL := 3) (ret := none) (by decide) rfl ?_
  intro p e s m args below meth c s₁ B hml hv
  obtain ⟨hargs, hsz, hP, hK, hD0⟩ := hv
  have hx := B.exec
  have hb := B.bytes
  have hr := B.returns
  have hts := atoms_spec (ws := wsX3_joinAlike) B.pre
  have hown : s.vm.findClass RX3 = some m.cls := findClass_of_methodNamed B.named
  have hlocks := B.notSynchronized
  subst hsz
  have hD := hD0.self (sz := s.heap.size)
  generalize hAe : va_A (WX3 a b cI cJ cZ st) s.heap.size = A at hD ⊢
  have hA : ∀ q : Nat, s.heap.size ≤ q → A q := fun q h => by rw [← hAe]; exact Or.inr h
  have hl := lv_entry ([.ref (a 24)]) (n := 3) (Nat.le_of_ble_eq_true rfl)
  refine W.eq (hargs ▸ lg_entry_eq m [.ref (a 24)] 3) ?_
  generalize (lg_sl ([.ref (a 24)]) ++ List.replicate (3 - (lg_sl ([.ref (a 24)])).length) Slot.unset).toArray = ls at hl ⊢
  have hl : lv_has ls 3 [(0, .ref (a 24))] := hl
  obtain ⟨QQ, hQ⟩ : ∃ QQ : State → Prop, QQ = MQ below (Qm (dC, dI) none (WX3 a b cI cJ cZ res) A) args s 0 0 (A) := ⟨_, rfl⟩
  rw [← hQ]
  have l4 : ∀ (fu : Nat) (s0 : SS × Int32 × Int32) (r : SS × Int32 × Int32), loopN (fun (s : SS × Int32 × Int32) => fX3_joinAlike_l4 s.1 s.2.1 s.2.2) fu s0 = some r → (∀ (H : Heap) (locs : List Loc) (ls : Array Slot), IN (dC, dI) (WX3 a b cI cJ cZ r.1) A s.heap H locs → lv_has ls 3 [(0, .ref (a 24)), (1, .int r.2.1), (2, .int r.2.2)] → W p l e (headSpec wsX3_joinAlike rX3_joinAlike).room s m args below meth c H locs 0 0 QQ (F0 m 95 ls [])) → (∀ (H : Heap) (locs : List Loc) (ls : Array Slot), IN (dC, dI) (WX3 a b cI cJ cZ s0.1) A s.heap H locs → lv_has ls 3 [(0, .ref (a 24)), (1, .int s0.2.1), (2, .int s0.2.2)] → W p l e (headSpec wsX3_joinAlike rX3_joinAlike).room s m args below meth c H locs 0 0 QQ (F0 m 4 ls [])) := by
    intro fu s0 r
    have b89 : ∀ (st : SS) (x1 : Int32) (x2 : Int32) (x : (SS × Int32 × Int32) ⊕ (SS × Int32 × Int32)), fX3_joinAlike_b89 st x1 x2 = some x → (∀ s', x = .inl s' → (∀ (H : Heap) (locs : List Loc) (ls : Array Slot), IN (dC, dI) (WX3 a b cI cJ cZ s'.1) A s.heap H locs → lv_has ls 3 [(0, .ref (a 24)), (1, .int s'.2.1), (2, .int s'.2.2)] → W p l e (headSpec wsX3_joinAlike rX3_joinAlike).room s m args below meth c H locs 0 0 QQ (F0 m 4 ls []))) → (∀ r, x = .inr r → (∀ (H : Heap) (locs : List Loc) (ls : Array Slot), IN (dC, dI) (WX3 a b cI cJ cZ r.1) A s.heap H locs → lv_has ls 3 [(0, .ref (a 24)), (1, .int r.2.1), (2, .int r.2.2)] → W p l e (headSpec wsX3_joinAlike rX3_joinAlike).room s m args below meth c H locs 0 0 QQ (F0 m 95 ls []))) → (∀ (H : Heap) (locs : List Loc) (ls : Array Slot), IN (dC, dI) (WX3 a b cI cJ cZ st) A s.heap H locs → lv_has ls 3 [(0, .ref (a 24)), (1, .int x1), (2, .int x2)] → W p l e (headSpec wsX3_joinAlike rX3_joinAlike).room s m args below meth c H locs 0 0 QQ (F0 m 89 ls [])) := by
      intro st x1 x2 x hf kc ke
      intro H locs ls hin hl
      obtain ⟨hP, hD, hS⟩ := hin
      unfold fX3_joinAlike_b89 at hf
      refine lv_iinc (v := (x2 + (1 : Int32))) (lv' := [(2, .int (x2 + (1 : Int32))), (0, .ref (a 24)), (1, .int x1)]) hx hb dX3_joinAlike_89 hl (k := 2) rfl rfl (by decide) rfl (fun ls hl => ?_)
      refine lv_goto (tgt := 4) hx hb dX3_joinAlike_92 (by decide) ?_
      obtain rfl := Option.some.inj hf
      exact kc _ rfl H locs ls ⟨hP, hD, hS⟩ (lv_sub hl [1, 2, 0] rfl)
    have b50 : ∀ (st : SS) (x1 : Int32) (x2 : Int32) (x : (SS × Int32 × Int32) ⊕ (SS × Int32 × Int32)), fX3_joinAlike_b50 st x1 x2 = some x → (∀ s', x = .inl s' → (∀ (H : Heap) (locs : List Loc) (ls : Array Slot), IN (dC, dI) (WX3 a b cI cJ cZ s'.1) A s.heap H locs → lv_has ls 3 [(0, .ref (a 24)), (1, .int s'.2.1), (2, .int s'.2.2)] → W p l e (headSpec wsX3_joinAlike rX3_joinAlike).room s m args below meth c H locs 0 0 QQ (F0 m 4 ls []))) → (∀ r, x = .inr r → (∀ (H : Heap) (locs : List Loc) (ls : Array Slot), IN (dC, dI) (WX3 a b cI cJ cZ r.1) A s.heap H locs → lv_has ls 3 [(0, .ref (a 24)), (1, .int r.2.1), (2, .int r.2.2)] → W p l e (headSpec wsX3_joinAlike rX3_joinAlike).room s m args below meth c H locs 0 0 QQ (F0 m 95 ls []))) → (∀ (H : Heap) (locs : List Loc) (ls : Array Slot), IN (dC, dI) (WX3 a b cI cJ cZ st) A s.heap H locs → lv_has ls 3 [(0, .ref (a 24)), (1, .int x1), (2, .int x2)] → W p l e (headSpec wsX3_joinAlike rX3_joinAlike).room s m args below meth c H locs 0 0 QQ (F0 m 50 ls [])) := by
      intro st x1 x2 x hf kc ke
      intro H locs ls hin hl
      obtain ⟨hP, hD, hS⟩ := hin
      unfold fX3_joinAlike_b50 at hf
      refine lv_aload_n hx hb dX3_joinAlike_50 rfl (lv_at hl 0 rfl) ?_
      refine va_get (D := (dC, dI)) (ci := 3) (v := .ref (b 0)) (C := RX3) (T := TX3) (N := 5) hx hb hts kX3_joinAlike_X3 hown hK hP 0 rfl rfl 0 (by decide) (hts _ mX3_joinAlike_4) (fun _ h9 => h9) rfl dX3_joinAlike_51 ?_
      refine lv_iload_n hx hb dX3_joinAlike_54 rfl (lv_at hl 1 rfl) ?_
      refine lv_aload_n hx hb dX3_joinAlike_55 rfl (lv_at hl 0 rfl) ?_
      refine va_get (D := (dC, dI)) (ci := 3) (v := .ref (b 0)) (C := RX3) (T := TX3) (N := 5) hx hb hts kX3_joinAlike_X3 hown hK hP 0 rfl rfl 0 (by decide) (hts _ mX3_joinAlike_4) (fun _ h9 => h9) rfl dX3_joinAlike_56 ?_
      refine lv_iload_n hx hb dX3_joinAlike_59 rfl (lv_at hl 2 rfl) ?_
      obtain ⟨hi3, hf⟩ := it_s hf
      refine va_iald hx hb hK hP 1 0 rfl rfl (inb_in hi3) dX3_joinAlike_60 ?_
      obtain ⟨hi4, hf⟩ := it_s hf
      refine va_iast hx hb hK hP hD hS 1 0 rfl rfl (inb_in hi4) dX3_joinAlike_61 (fun H locs hP hD hS => ?_)
      replace hP : va_P (dC, dI) vwCl (WX3 a b cI cJ cZ (SS_first_s st (upd (SS_first st) (x1).toNatClampNeg ((SS_first st) (x2).toNatClampNeg)))) H := hP
      replace hD : va_D A (WX3 a b cI cJ cZ (SS_first_s st (upd (SS_first st) (x1).toNatClampNeg ((SS_first st) (x2).toNatClampNeg)))) := hD
      refine lv_aload_n hx hb dX3_joinAlike_62 rfl (lv_at hl 0 rfl) ?_
      refine va_get (D := (dC, dI)) (ci := 3) (v := .ref (b 1)) (C := RX3) (T := TX3) (N := 5) hx hb hts kX3_joinAlike_X3 hown hK hP 0 rfl rfl 1 (by decide) (hts _ mX3_joinAlike_2) (fun _ h9 => h9) rfl dX3_joinAlike_63 ?_
      refine lv_iload_n hx hb dX3_joinAlike_66 rfl (lv_at hl 1 rfl) ?_
      refine lv_aload_n hx hb dX3_joinAlike_67 rfl (lv_at hl 0 rfl) ?_
      refine va_get (D := (dC, dI)) (ci := 3) (v := .ref (b 1)) (C := RX3) (T := TX3) (N := 5) hx hb hts kX3_joinAlike_X3 hown hK hP 0 rfl rfl 1 (by decide) (hts _ mX3_joinAlike_2) (fun _ h9 => h9) rfl dX3_joinAlike_68 ?_
      refine lv_iload_n hx hb dX3_joinAlike_71 rfl (lv_at hl 2 rfl) ?_
      obtain ⟨hi5, hf⟩ := it_s hf
      refine va_iald hx hb hK hP 2 0 rfl rfl (inb_in hi5) dX3_joinAlike_72 ?_
      obtain ⟨hi6, hf⟩ := it_s hf
      refine va_iast hx hb hK hP hD hS 2 0 rfl rfl (inb_in hi6) dX3_joinAlike_73 (fun H locs hP hD hS => ?_)
      replace hP : va_P (dC, dI) vwCl (WX3 a b cI cJ cZ (SS_owner_s (SS_first_s st (upd (SS_first st) (x1).toNatClampNeg ((SS_first st) (x2).toNatClampNeg))) (upd (SS_owner st) (x1).toNatClampNeg ((SS_owner st) (x2).toNatClampNeg)))) H := hP
      replace hD : va_D A (WX3 a b cI cJ cZ (SS_owner_s (SS_first_s st (upd (SS_first st) (x1).toNatClampNeg ((SS_first st) (x2).toNatClampNeg))) (upd (SS_owner st) (x1).toNatClampNeg ((SS_owner st) (x2).toNatClampNeg)))) := hD
      refine lv_aload_n hx hb dX3_joinAlike_74 rfl (lv_at hl 0 rfl) ?_
      refine va_get (D := (dC, dI)) (ci := 3) (v := .ref (b 2)) (C := RX3) (T := TX3) (N := 5) hx hb hts kX3_joinAlike_X3 hown hK hP 0 rfl rfl 2 (by decide) (hts _ mX3_joinAlike_3) (fun _ h9 => h9) rfl dX3_joinAlike_75 ?_
      refine lv_iload_n hx hb dX3_joinAlike_78 rfl (lv_at hl 1 rfl) ?_
      refine lv_aload_n hx hb dX3_joinAlike_79 rfl (lv_at hl 0 rfl) ?_
      refine va_get (D := (dC, dI)) (ci := 3) (v := .ref (b 2)) (C := RX3) (T := TX3) (N := 5) hx hb hts kX3_joinAlike_X3 hown hK hP 0 rfl rfl 2 (by decide) (hts _ mX3_joinAlike_3) (fun _ h9 => h9) rfl dX3_joinAlike_80 ?_
      refine lv_iload_n hx hb dX3_joinAlike_83 rfl (lv_at hl 2 rfl) ?_
      obtain ⟨hi7, hf⟩ := it_s hf
      refine va_iald hx hb hK hP 3 0 rfl rfl (inb_in hi7) dX3_joinAlike_84 ?_
      obtain ⟨hi8, hf⟩ := it_s hf
      refine va_iast hx hb hK hP hD hS 3 0 rfl rfl (inb_in hi8) dX3_joinAlike_85 (fun H locs hP hD hS => ?_)
      replace hP : va_P (dC, dI) vwCl (WX3 a b cI cJ cZ (SS_row_s (SS_owner_s (SS_first_s st (upd (SS_first st) (x1).toNatClampNeg ((SS_first st) (x2).toNatClampNeg))) (upd (SS_owner st) (x1).toNatClampNeg ((SS_owner st) (x2).toNatClampNeg))) (upd (SS_row st) (x1).toNatClampNeg ((SS_row st) (x2).toNatClampNeg)))) H := hP
      replace hD : va_D A (WX3 a b cI cJ cZ (SS_row_s (SS_owner_s (SS_first_s st (upd (SS_first st) (x1).toNatClampNeg ((SS_first st) (x2).toNatClampNeg))) (upd (SS_owner st) (x1).toNatClampNeg ((SS_owner st) (x2).toNatClampNeg))) (upd (SS_row st) (x1).toNatClampNeg ((SS_row st) (x2).toNatClampNeg)))) := hD
      refine lv_iinc (v := (x1 + (1 : Int32))) (lv' := [(1, .int (x1 + (1 : Int32))), (0, .ref (a 24)), (2, .int x2)]) hx hb dX3_joinAlike_86 hl (k := 1) rfl rfl (by decide) rfl (fun ls hl => ?_)
      exact b89 (SS_row_s (SS_owner_s (SS_first_s st (upd (SS_first st) (x1).toNatClampNeg ((SS_first st) (x2).toNatClampNeg))) (upd (SS_owner st) (x1).toNatClampNeg ((SS_owner st) (x2).toNatClampNeg))) (upd (SS_row st) (x1).toNatClampNeg ((SS_row st) (x2).toNatClampNeg))) (x1 + (1 : Int32)) x2 _ hf kc ke H locs ls ⟨hP, hD, hS⟩ (lv_sub hl [1, 0, 2] rfl)
    refine loop_ind (P := fun s0 => ∀ (H : Heap) (locs : List Loc) (ls : Array Slot), IN (dC, dI) (WX3 a b cI cJ cZ s0.1) A s.heap H locs → lv_has ls 3 [(0, .ref (a 24)), (1, .int s0.2.1), (2, .int s0.2.2)] → W p l e (headSpec wsX3_joinAlike rX3_joinAlike).room s m args below meth c H locs 0 0 QQ (F0 m 4 ls [])) (Q := fun r => ∀ (H : Heap) (locs : List Loc) (ls : Array Slot), IN (dC, dI) (WX3 a b cI cJ cZ r.1) A s.heap H locs → lv_has ls 3 [(0, .ref (a 24)), (1, .int r.2.1), (2, .int r.2.2)] → W p l e (headSpec wsX3_joinAlike rX3_joinAlike).room s m args below meth c H locs 0 0 QQ (F0 m 95 ls [])) ?_ fu s0 r
    clear fu s0 r
    rintro ⟨st, x1, x2⟩ x hf kc ke
    replace hf : fX3_joinAlike_l4 st x1 x2 = some x := hf
    replace kc : (∀ s', x = .inl s' → (∀ (H : Heap) (locs : List Loc) (ls : Array Slot), IN (dC, dI) (WX3 a b cI cJ cZ s'.1) A s.heap H locs → lv_has ls 3 [(0, .ref (a 24)), (1, .int s'.2.1), (2, .int s'.2.2)] → W p l e (headSpec wsX3_joinAlike rX3_joinAlike).room s m args below meth c H locs 0 0 QQ (F0 m 4 ls []))) := kc
    replace ke : (∀ r, x = .inr r → (∀ (H : Heap) (locs : List Loc) (ls : Array Slot), IN (dC, dI) (WX3 a b cI cJ cZ r.1) A s.heap H locs → lv_has ls 3 [(0, .ref (a 24)), (1, .int r.2.1), (2, .int r.2.2)] → W p l e (headSpec wsX3_joinAlike rX3_joinAlike).room s m args below meth c H locs 0 0 QQ (F0 m 95 ls []))) := ke
    intro H locs ls hin hl
    obtain ⟨hP, hD, hS⟩ := hin
    unfold fX3_joinAlike_l4 at hf
    refine lv_iload_n hx hb dX3_joinAlike_4 rfl (lv_at hl 2 rfl) ?_
    refine lv_aload_n hx hb dX3_joinAlike_5 rfl (lv_at hl 0 rfl) ?_
    refine va_get (D := (dC, dI)) (ci := 3) (v := .int (SS_size st)) (C := RX3) (T := TX3) (N := 5) hx hb hts kX3_joinAlike_X3 hown hK hP 0 rfl rfl 3 (by decide) (hts _ mX3_joinAlike_1) (fun _ h9 => h9) rfl dX3_joinAlike_6 ?_
    refine lv_icmp_ge (tgt := 95) hx hb dX3_joinAlike_9 (by decide) (fun c1 => ?_) (fun c1 => ?_)
    · replace hf := it_p c1 hf
      obtain rfl := Option.some.inj hf
      exact ke _ rfl H locs ls ⟨hP, hD, hS⟩ (lv_sub hl [0, 1, 2] rfl)
    · replace hf := it_n c1 hf
      refine lv_iload_n hx hb dX3_joinAlike_12 rfl (lv_at hl 1 rfl) ?_
      refine lv_if_eq (tgt := 50) hx hb dX3_joinAlike_13 (by decide) (fun c2 => ?_) (fun c2 => ?_)
      · replace hf := it_p c2 hf
        exact b50 st x1 x2 _ hf kc ke H locs ls ⟨hP, hD, hS⟩ (lv_sub hl [0, 1, 2] rfl)
      · replace hf := it_n c2 hf
        refine lv_aload_n hx hb dX3_joinAlike_16 rfl (lv_at hl 0 rfl) ?_
        refine va_get (D := (dC, dI)) (ci := 3) (v := .ref (b 1)) (C := RX3) (T := TX3) (N := 5) hx hb hts kX3_joinAlike_X3 hown hK hP 0 rfl rfl 1 (by decide) (hts _ mX3_joinAlike_2) (fun _ h9 => h9) rfl dX3_joinAlike_17 ?_
        refine lv_iload_n hx hb dX3_joinAlike_20 rfl (lv_at hl 1 rfl) ?_
        refine lv_iconst (v := (1 : Int32)) hx hb dX3_joinAlike_21 (by decide) ?_
        refine lv_isub hx hb dX3_joinAlike_22 ?_
        obtain ⟨hi9, hf⟩ := it_s hf
        refine va_iald hx hb hK hP 2 0 rfl rfl (inb_in hi9) dX3_joinAlike_23 ?_
        refine lv_aload_n hx hb dX3_joinAlike_24 rfl (lv_at hl 0 rfl) ?_
        refine va_get (D := (dC, dI)) (ci := 3) (v := .ref (b 1)) (C := RX3) (T := TX3) (N := 5) hx hb hts kX3_joinAlike_X3 hown hK hP 0 rfl rfl 1 (by decide) (hts _ mX3_joinAlike_2) (fun _ h9 => h9) rfl dX3_joinAlike_25 ?_
        refine lv_iload_n hx hb dX3_joinAlike_28 rfl (lv_at hl 2 rfl) ?_
        obtain ⟨hi10, hf⟩ := it_s hf
        refine va_iald hx hb hK hP 2 0 rfl rfl (inb_in hi10) dX3_joinAlike_29 ?_
        refine lv_icmp_ne (tgt := 50) hx hb dX3_joinAlike_30 (by decide) (fun c11 => ?_) (fun c11 => ?_)
        · replace hf := it_n c11 hf
          exact b50 st x1 x2 _ hf kc ke H locs ls ⟨hP, hD, hS⟩ (lv_sub hl [0, 1, 2] rfl)
        · replace hf := it_p c11 hf
          refine lv_aload_n hx hb dX3_joinAlike_33 rfl (lv_at hl 0 rfl) ?_
          refine va_get (D := (dC, dI)) (ci := 3) (v := .ref (b 2)) (C := RX3) (T := TX3) (N := 5) hx hb hts kX3_joinAlike_X3 hown hK hP 0 rfl rfl 2 (by decide) (hts _ mX3_joinAlike_3) (fun _ h9 => h9) rfl dX3_joinAlike_34 ?_
          refine lv_iload_n hx hb dX3_joinAlike_37 rfl (lv_at hl 1 rfl) ?_
          refine lv_iconst (v := (1 : Int32)) hx hb dX3_joinAlike_38 (by decide) ?_
          refine lv_isub hx hb dX3_joinAlike_39 ?_
          obtain ⟨hi12, hf⟩ := it_s hf
          refine va_iald hx hb hK hP 3 0 rfl rfl (inb_in hi12) dX3_joinAlike_40 ?_
          refine lv_aload_n hx hb dX3_joinAlike_41 rfl (lv_at hl 0 rfl) ?_
          refine va_get (D := (dC, dI)) (ci := 3) (v := .ref (b 2)) (C := RX3) (T := TX3) (N := 5) hx hb hts kX3_joinAlike_X3 hown hK hP 0 rfl rfl 2 (by decide) (hts _ mX3_joinAlike_3) (fun _ h9 => h9) rfl dX3_joinAlike_42 ?_
          refine lv_iload_n hx hb dX3_joinAlike_45 rfl (lv_at hl 2 rfl) ?_
          obtain ⟨hi13, hf⟩ := it_s hf
          refine va_iald hx hb hK hP 3 0 rfl rfl (inb_in hi13) dX3_joinAlike_46 ?_
          refine lv_icmp_eq (tgt := 89) hx hb dX3_joinAlike_47 (by decide) (fun c14 => ?_) (fun c14 => ?_)
          · replace hf := it_p c14 hf
            exact b89 st x1 x2 _ hf kc ke H locs ls ⟨hP, hD, hS⟩ (lv_sub hl [0, 1, 2] rfl)
          · replace hf := it_n c14 hf
            exact b50 st x1 x2 _ hf kc ke H locs ls ⟨hP, hD, hS⟩ (lv_sub hl [0, 1, 2] rfl)
  have main : ∀ (H : Heap) (locs : List Loc) (ls : Array Slot), IN (dC, dI) (WX3 a b cI cJ cZ st) A s.heap H locs → lv_has ls 3 [(0, .ref (a 24))] → W p l e (headSpec wsX3_joinAlike rX3_joinAlike).room s m args below meth c H locs 0 0 QQ (F0 m 0 ls []) := by
    intro H locs ls hin hl
    obtain ⟨hP, hD, hS⟩ := hin
    unfold fX3_joinAlike at hf
    refine lv_iconst (v := (0 : Int32)) hx hb dX3_joinAlike_0 (by decide) ?_
    refine lv_istore_n (lv' := [(1, .int (0 : Int32)), (0, .ref (a 24))]) hx hb dX3_joinAlike_1 rfl hl (by decide) rfl (fun ls hl => ?_)
    refine lv_iconst (v := (0 : Int32)) hx hb dX3_joinAlike_2 (by decide) ?_
    refine lv_istore_n (lv' := [(2, .int (0 : Int32)), (1, .int (0 : Int32)), (0, .ref (a 24))]) hx hb dX3_joinAlike_3 rfl hl (by decide) rfl (fun ls hl => ?_)
    obtain ⟨y15, hlp, hf⟩ := bind_s hf
    refine l4 fuelN (st, (0 : Int32), (0 : Int32)) y15 hlp ?_ H locs ls ⟨hP, hD, hS⟩ (lv_sub hl [2, 1, 0] rfl)
    intro H locs ls hin hl
    obtain ⟨hP, hD, hS⟩ := hin
    refine lv_aload_n hx hb dX3_joinAlike_95 rfl (lv_at hl 0 rfl) ?_
    refine lv_iload_n hx hb dX3_joinAlike_96 rfl (lv_at hl 1 rfl) ?_
    refine va_put (D := (dC, dI)) (ci := 3) (v := .int y15.2.1) (ty := .int) (C := RX3) (T := TX3) (N := 5) hx hb hts kX3_joinAlike_X3 tyX3 tyX3_ok nmX3 hown hK hP hD hS 0 rfl rfl 3 (by decide) (hts _ mX3_joinAlike_1) (fun _ h9 => h9) rfl (by decide +kernel) rfl rfl (Nat.le_of_ble_eq_true rfl) dX3_joinAlike_97 (fun H locs hP hD hS => ?_)
    replace hP : va_P (dC, dI) vwCl (WX3 a b cI cJ cZ (SS_size_s y15.1 y15.2.1)) H := hP
    replace hD : va_D A (WX3 a b cI cJ cZ (SS_size_s y15.1 y15.2.1)) := hD
    obtain rfl := Option.some.inj hf
    rw [hQ]
    exact W.vret hx hb hr (fun t ht hW => ⟨rfl, ⟨by rw [ht]; exact hP, hD⟩, hS.F ht⟩) hS.2.2 dX3_joinAlike_100
  exact main s.heap [] ls ⟨hP, hD, va_S.rf⟩ hl
def rX3_mark : Room := { frames := 4, cells := 6, slots := 12288, locals := 109 }
theorem kX3_mark_X3 : ∀ w ∈ wsX30, w ∈ wsX3_mark := fun w h => (List.mem_cons_of_mem _ (List.mem_append_right _ h))
theorem mX3_mark_1 : Cond.fieldLink RX3 15 "SmokeLedger$Serials" "owner" "[I" ∈ wsX3_mark := List.mem_of_getElem? (i := 1) rfl
theorem mX3_mark_2 : Cond.fieldLink RX3 18 "SmokeLedger$Serials" "row" "[I" ∈ wsX3_mark := List.mem_of_getElem? (i := 2) rfl
set_option maxHeartbeats 4000000 in
set_option maxRecDepth 100000 in
theorem ct_X3_mark (l : Launch) (dC : Nat → ClassId) (dI : Nat → Nat → Nat) (a b : Nat → Nat) (cI cJ cZ : ClassId) (sz : Nat) (st : SS) (x1 : Int32) (x2 : Int32) (x3 : Int32) (x4 : Int32) (res : SS) (hf : fX3_mark st x1 x2 x3 x4 = some res) : Met l yX3_mark wsX3_mark rX3_mark (Pm (dC, dI) (tyT cI cJ cZ) (WX3 a b cI cJ cZ st) sz [.ref (a 24), .int x1, .int x2, .int x3, .int x4]) (Qe (dC, dI) none (fun b' => (WX3 a b' cI cJ cZ res)) (va_A (WX3 a b cI cJ cZ st) sz)) 6 12288 (va_A (WX3 a b cI cJ cZ st) sz) := by
  refine Met.ofW (cc := cX3_mark) (maxL := 8) (ret := none) (by decide) rfl ?_
  intro p e s m args below meth c s₁ B hml hv
  obtain ⟨hargs, hsz, hP, hK, hD0⟩ := hv
  have hx := B.exec
  have hb := B.bytes
  have hr := B.returns
  have hts := atoms_spec (ws := wsX3_mark) B.pre
  have hown : s.vm.findClass RX3 = some m.cls := findClass_of_methodNamed B.named
  have hlocks := B.notSynchronized
  subst hsz
  have hD := hD0.self (sz := s.heap.size)
  generalize hAe : va_A (WX3 a b cI cJ cZ st) s.heap.size = A at hD ⊢
  have hA : ∀ q : Nat, s.heap.size ≤ q → A q := fun q h => by rw [← hAe]; exact Or.inr h
  have hl := lv_entry ([.ref (a 24), .int x1, .int x2, .int x3, .int x4]) (n := 8) (Nat.le_of_ble_eq_true rfl)
  refine W.eq (hargs ▸ lg_entry_eq m [.ref (a 24), .int x1, .int x2, .int x3, .int x4] 8) ?_
  generalize (lg_sl ([.ref (a 24), .int x1, .int x2, .int x3, .int x4]) ++ List.replicate (8 - (lg_sl ([.ref (a 24), .int x1, .int x2, .int x3, .int x4])).length) Slot.unset).toArray = ls at hl ⊢
  have hl : lv_has ls 8 [(0, .ref (a 24)), (1, .int x1), (2, .int x2), (3, .int x3), (4, .int x4)] := hl
  obtain ⟨QQ, hQ⟩ : ∃ QQ : State → Prop, QQ = MQ below (Qe (dC, dI) none (fun b' => (WX3 a b' cI cJ cZ res)) A) args s 6 12288 (A) := ⟨_, rfl⟩
  rw [← hQ]
  have l20 : ∀ (x3 : Int32) (x4 : Int32) (x6 : Int32) (fu : Nat) (s0 : SS × Int32) (r : SS × Int32), loopN (fun (s : SS × Int32) => fX3_mark_l20 x3 x4 x6 s.1 s.2) fu s0 = some r → (∀ (b : Nat → Nat) (H : Heap) (locs : List Loc) (ls : Array Slot), IN (dC, dI) (WX3 a b cI cJ cZ r.1) A s.heap H locs → lv_has ls 8 [(0, .ref (a 24)), (3, .int x3), (4, .int x4), (6, .int x6), (7, .int r.2)] → W p l e (headSpec wsX3_mark rX3_mark).room s m args below meth c H locs 6 12288 QQ (F0 m 50 ls [])) → (∀ (b : Nat → Nat) (H : Heap) (locs : List Loc) (ls : Array Slot), IN (dC, dI) (WX3 a b cI cJ cZ s0.1) A s.heap H locs → lv_has ls 8 [(0, .ref (a 24)), (3, .int x3), (4, .int x4), (6, .int x6), (7, .int s0.2)] → W p l e (headSpec wsX3_mark rX3_mark).room s m args below meth c H locs 6 12288 QQ (F0 m 20 ls [])) := by
    intro x3 x4 x6 fu s0 r
    refine loop_ind (P := fun s0 => ∀ (b : Nat → Nat) (H : Heap) (locs : List Loc) (ls : Array Slot), IN (dC, dI) (WX3 a b cI cJ cZ s0.1) A s.heap H locs → lv_has ls 8 [(0, .ref (a 24)), (3, .int x3), (4, .int x4), (6, .int x6), (7, .int s0.2)] → W p l e (headSpec wsX3_mark rX3_mark).room s m args below meth c H locs 6 12288 QQ (F0 m 20 ls [])) (Q := fun r => ∀ (b : Nat → Nat) (H : Heap) (locs : List Loc) (ls : Array Slot), IN (dC, dI) (WX3 a b cI cJ cZ r.1) A s.heap H locs → lv_has ls 8 [(0, .ref (a 24)), (3, .int x3), (4, .int x4), (6, .int x6), (7, .int r.2)] → W p l e (headSpec wsX3_mark rX3_mark).room s m args below meth c H locs 6 12288 QQ (F0 m 50 ls [])) ?_ fu s0 r
    clear fu s0 r
    rintro ⟨st, x7⟩ x hf kc ke
    replace hf : fX3_mark_l20 x3 x4 x6 st x7 = some x := hf
    replace kc : (∀ s', x = .inl s' → (∀ (b : Nat → Nat) (H : Heap) (locs : List Loc) (ls : Array Slot), IN (dC, dI) (WX3 a b cI cJ cZ s'.1) A s.heap H locs → lv_has ls 8 [(0, .ref (a 24)), (3, .int x3), (4, .int x4), (6, .int x6), (7, .int s'.2)] → W p l e (headSpec wsX3_mark rX3_mark).room s m args below meth c H locs 6 12288 QQ (F0 m 20 ls []))) := kc
    replace ke : (∀ r, x = .inr r → (∀ (b : Nat → Nat) (H : Heap) (locs : List Loc) (ls : Array Slot), IN (dC, dI) (WX3 a b cI cJ cZ r.1) A s.heap H locs → lv_has ls 8 [(0, .ref (a 24)), (3, .int x3), (4, .int x4), (6, .int x6), (7, .int r.2)] → W p l e (headSpec wsX3_mark rX3_mark).room s m args below meth c H locs 6 12288 QQ (F0 m 50 ls []))) := ke
    intro b H locs ls hin hl
    obtain ⟨hP, hD, hS⟩ := hin
    unfold fX3_mark_l20 at hf
    refine lv_iload hx hb dX3_mark_20 (lv_at hl 4 rfl) ?_
    refine lv_iload hx hb dX3_mark_22 (lv_at hl 3 rfl) ?_
    refine lv_icmp_ge (tgt := 50) hx hb dX3_mark_24 (by decide) (fun c7 => ?_) (fun c7 => ?_)
    · replace hf := it_p c7 hf
      obtain rfl := Option.some.inj hf
      exact ke _ rfl b H locs ls ⟨hP, hD, hS⟩ (lv_sub hl [0, 1, 2, 3, 4] rfl)
    · replace hf := it_n c7 hf
      refine lv_aload_n hx hb dX3_mark_27 rfl (lv_at hl 0 rfl) ?_
      refine va_get (D := (dC, dI)) (ci := 3) (v := .ref (b 1)) (C := RX3) (T := TX3) (N := 5) hx hb hts kX3_mark_X3 hown hK hP 0 rfl rfl 1 (by decide) (hts _ mX3_mark_1) (fun _ h9 => h9) rfl dX3_mark_28 ?_
      refine lv_iload hx hb dX3_mark_31 (lv_at hl 4 rfl) ?_
      refine lv_iload_n hx hb dX3_mark_33 rfl (lv_at hl 1 rfl) ?_
      obtain ⟨hi8, hf⟩ := it_s hf
      refine va_iast hx hb hK hP hD hS 2 0 rfl rfl (inb_in hi8) dX3_mark_34 (fun H locs hP hD hS => ?_)
      replace hP : va_P (dC, dI) vwCl (WX3 a b cI cJ cZ (SS_owner_s st (upd (SS_owner st) (x7).toNatClampNeg x3))) H := hP
      replace hD : va_D A (WX3 a b cI cJ cZ (SS_owner_s st (upd (SS_owner st) (x7).toNatClampNeg x3))) := hD
      refine lv_aload_n hx hb dX3_mark_35 rfl (lv_at hl 0 rfl) ?_
      refine va_get (D := (dC, dI)) (ci := 3) (v := .ref (b 2)) (C := RX3) (T := TX3) (N := 5) hx hb hts kX3_mark_X3 hown hK hP 0 rfl rfl 2 (by decide) (hts _ mX3_mark_2) (fun _ h9 => h9) rfl dX3_mark_36 ?_
      refine lv_iload hx hb dX3_mark_39 (lv_at hl 4 rfl) ?_
      refine lv_iload hx hb dX3_mark_41 (lv_at hl 2 rfl) ?_
      obtain ⟨hi9, hf⟩ := it_s hf
      refine va_iast hx hb hK hP hD hS 3 0 rfl rfl (inb_in hi9) dX3_mark_43 (fun H locs hP hD hS => ?_)
      replace hP : va_P (dC, dI) vwCl (WX3 a b cI cJ cZ (SS_row_s (SS_owner_s st (upd (SS_owner st) (x7).toNatClampNeg x3)) (upd (SS_row st) (x7).toNatClampNeg x4))) H := hP
      replace hD : va_D A (WX3 a b cI cJ cZ (SS_row_s (SS_owner_s st (upd (SS_owner st) (x7).toNatClampNeg x3)) (upd (SS_row st) (x7).toNatClampNeg x4))) := hD
      refine lv_iinc (v := (x7 + (1 : Int32))) (lv' := [(7, .int (x7 + (1 : Int32))), (0, .ref (a 24)), (3, .int x3), (4, .int x4), (6, .int x6)]) hx hb dX3_mark_44 hl (k := 4) rfl rfl (by decide) rfl (fun ls hl => ?_)
      refine lv_goto (tgt := 20) hx hb dX3_mark_47 (by decide) ?_
      obtain rfl := Option.some.inj hf
      exact kc _ rfl b H locs ls ⟨hP, hD, hS⟩ (lv_sub hl [1, 2, 3, 4, 0] rfl)
  have main : ∀ (b : Nat → Nat) (H : Heap) (locs : List Loc) (ls : Array Slot), IN (dC, dI) (WX3 a b cI cJ cZ st) A s.heap H locs → lv_has ls 8 [(0, .ref (a 24)), (1, .int x1), (2, .int x2), (3, .int x3), (4, .int x4)] → W p l e (headSpec wsX3_mark rX3_mark).room s m args below meth c H locs 0 0 QQ (F0 m 0 ls []) := by
    intro b H locs ls hin hl
    obtain ⟨hP, hD, hS⟩ := hin
    unfold fX3_mark at hf
    refine lv_aload_n hx hb dX3_mark_0 rfl (lv_at hl 0 rfl) ?_
    refine lv_iload_n hx hb dX3_mark_1 rfl (lv_at hl 1 rfl) ?_
    obtain ⟨p1, hc2, hf⟩ := bind_s hf
    refine cmE (wr := []) ⟨hx, hb, hml, hown, hts⟩ (ct_X3_splitBefore l dC dI a b cI cJ cZ H.size st x1 p1 hc2) (cwV 1 hts gX3_mark_X3_splitBefore rfl rfl rfl (by decide +kernel) ⟨(Nat.le_of_ble_eq_true rfl), (Nat.le_of_ble_eq_true rfl)⟩) hK hP hD hS hA [0, 1, 2, 3] [] rfl rfl (by decide) rfl (by decide) (by decide) rfl rfl rfl hl.1 rfl (Nat.le_of_ble_eq_true rfl) (Nat.le_of_ble_eq_true rfl) (Nat.le_of_ble_eq_true rfl) dX3_mark_2 (fun b3 H locs hP hD hS => ?_)
    replace hP : va_P (dC, dI) vwCl (WX3 a b3 cI cJ cZ p1.2) H := hP
    replace hD : va_D A (WX3 a b3 cI cJ cZ p1.2) := hD
    refine W.eq (g2 := F0 m 5 ls [.int p1.1]) rfl ?_
    refine lv_istore (lv' := [(5, .int p1.1), (0, .ref (a 24)), (1, .int x1), (2, .int x2), (3, .int x3), (4, .int x4)]) hx hb dX3_mark_5 hl (by decide) rfl (fun ls hl => ?_)
    refine lv_aload_n hx hb dX3_mark_7 rfl (lv_at hl 1 rfl) ?_
    refine lv_iload_n hx hb dX3_mark_8 rfl (lv_at hl 2 rfl) ?_
    refine lv_iload_n hx hb dX3_mark_9 rfl (lv_at hl 3 rfl) ?_
    refine lv_iadd hx hb dX3_mark_10 ?_
    obtain ⟨p4, hc5, hf⟩ := bind_s hf
    refine cmE (wr := []) ⟨hx, hb, hml, hown, hts⟩ (ct_X3_splitBefore l dC dI a b3 cI cJ cZ H.size p1.2 (x1 + x2) p4 hc5) (cwV 1 hts gX3_mark_X3_splitBefore rfl rfl rfl (by decide +kernel) ⟨(Nat.le_of_ble_eq_true rfl), (Nat.le_of_ble_eq_true rfl)⟩) hK hP hD hS hA [0, 1, 2, 3] [] rfl rfl (by decide) rfl (by decide) (by decide) rfl rfl rfl hl.1 rfl (Nat.le_of_ble_eq_true rfl) (Nat.le_of_ble_eq_true rfl) (Nat.le_of_ble_eq_true rfl) dX3_mark_11 (fun b6 H locs hP hD hS => ?_)
    replace hP : va_P (dC, dI) vwCl (WX3 a b6 cI cJ cZ p4.2) H := hP
    replace hD : va_D A (WX3 a b6 cI cJ cZ p4.2) := hD
    refine W.eq (g2 := F0 m 14 ls [.int p4.1]) rfl ?_
    refine lv_istore (lv' := [(6, .int p4.1), (5, .int p1.1), (0, .ref (a 24)), (1, .int x1), (2, .int x2), (3, .int x3), (4, .int x4)]) hx hb dX3_mark_14 hl (by decide) rfl (fun ls hl => ?_)
    refine lv_iload hx hb dX3_mark_16 (lv_at hl 1 rfl) ?_
    refine lv_istore (lv' := [(7, .int p1.1), (6, .int p4.1), (5, .int p1.1), (0, .ref (a 24)), (1, .int x1), (2, .int x2), (3, .int x3), (4, .int x4)]) hx hb dX3_mark_18 hl (by decide) rfl (fun ls hl => ?_)
    obtain ⟨y10, hlp, hf⟩ := bind_s hf
    refine l20 x3 x4 p4.1 fuelN (p4.2, p1.1) y10 hlp ?_ b6 H locs ls ⟨hP, hD, hS⟩ (lv_sub hl [3, 6, 7, 1, 0] rfl)
    intro b H locs ls hin hl
    obtain ⟨hP, hD, hS⟩ := hin
    refine lv_aload_n hx hb dX3_mark_50 rfl (lv_at hl 0 rfl) ?_
    obtain ⟨p11, hc12, hf⟩ := bind_s hf
    refine cmV (wr := []) ⟨hx, hb, hml, hown, hts⟩ (ct_X3_joinAlike l dC dI a b cI cJ cZ H.size y10.1  p11 hc12) (cwV 0 hts gX3_mark_X3_joinAlike rfl rfl rfl (by decide +kernel) ⟨(Nat.le_of_ble_eq_true rfl), (Nat.le_of_ble_eq_true rfl)⟩) hK hP hD hS hA [0, 1, 2, 3] [] rfl rfl (by decide) rfl (by decide) (by decide) rfl rfl rfl hl.1 rfl (Nat.le_of_ble_eq_true rfl) (Nat.le_of_ble_eq_true rfl) (Nat.le_of_ble_eq_true rfl) dX3_mark_51 (fun H locs hP hD hS => ?_)
    replace hP : va_P (dC, dI) vwCl (WX3 a b cI cJ cZ p11) H := hP
    replace hD : va_D A (WX3 a b cI cJ cZ p11) := hD
    refine W.eq (g2 := F0 m 54 ls []) rfl ?_
    obtain rfl := Option.some.inj hf
    rw [hQ]
    exact W.vret hx hb hr (fun t ht hW => ⟨rfl, ⟨b, by rw [ht]; exact hP, hD⟩, hS.F ht⟩) hS.2.2 dX3_mark_54
  exact main b s.heap [] ls ⟨hP, hD, va_S.rf⟩ hl
