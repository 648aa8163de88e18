def rX0_add : Room := { frames := 0, cells := 0, slots := 0, locals := 0 }
theorem kX0_add_X0 : ∀ w ∈ wsX00, w ∈ wsX0_add := fun w h => (List.mem_cons_of_mem _ (List.mem_append_right _ h))
theorem mX0_add_1 : Cond.fieldLink RX0 24 "SmokeLedger$Factors" "size" "I" ∈ wsX0_add := List.mem_of_getElem? (i := 1) rfl
theorem mX0_add_2 : Cond.fieldLink RX0 9 "SmokeLedger$Factors" "kind" "[I" ∈ wsX0_add := List.mem_of_getElem? (i := 2) rfl
theorem mX0_add_3 : Cond.fieldLink RX0 15 "SmokeLedger$Factors" "year" "[I" ∈ wsX0_add := List.mem_of_getElem? (i := 3) rfl
theorem mX0_add_4 : Cond.fieldLink RX0 18 "SmokeLedger$Factors" "low" "[I" ∈ wsX0_add := List.mem_of_getElem? (i := 4) rfl
theorem mX0_add_5 : Cond.fieldLink RX0 21 "SmokeLedger$Factors" "high" "[I" ∈ wsX0_add := List.mem_of_getElem? (i := 5) rfl
set_option maxHeartbeats 4000000 in
set_option maxRecDepth 100000 in
theorem ct_X0_add (l : Launch) (dC : Nat → ClassId) (dI : Nat → Nat → Nat) (a b : Nat → Nat) (cI cJ cZ : ClassId) (sz : Nat) (st : FS) (x1 : Int32) (x2 : Int32) (x3 : Int32) (x4 : Int32) (res : Int32 × FS) (hf : fX0_add st x1 x2 x3 x4 = some res) : Met l yX0_add wsX0_add rX0_add (Pm (dC, dI) (tyT cI cJ cZ) (WX0 a b cI cJ cZ st) sz [.ref (a 19), .int x1, .int x2, .int x3, .int x4]) (Qm (dC, dI) (some (.int res.1)) (WX0 a b cI cJ cZ res.2) (va_A (WX0 a b cI cJ cZ st) sz)) 0 0 (va_A (WX0 a b cI cJ cZ st) sz) := by
  refine Met.ofW (cc := cX0_add) (maxL := 5) (ret := (some .int)) (by decide) rfl ?_
  intro p e s m args below meth c s₁ B hml hv
  obtain ⟨hargs, hsz, hP, hK, hD0⟩ := hv
  have hx := B.exec
  have hb := B.bytes
  have hr := B.returns
  have hts := atoms_spec (ws := wsX0_add) B.pre
  have hown : s.vm.findClass RX0 = some m.cls := findClass_of_methodNamed B.named
  have hlocks := B.notSynchronized
  subst hsz
  have hD := hD0.self (sz := s.heap.size)
  generalize hAe : va_A (WX0 a b cI cJ cZ st) s.heap.size = A at hD ⊢
  have hA : ∀ q : Nat, s.heap.size ≤ q → A q := fun q h => by rw [← hAe]; exact Or.inr h
  have hl := lv_entry ([.ref (a 19), .int x1, .int x2, .int x3, .int x4]) (n := 5) (Nat.le_of_ble_eq_true rfl)
  refine W.eq (hargs ▸ lg_entry_eq m [.ref (a 19), .int x1, .int x2, .int x3, .int x4] 5) ?_
  generalize (lg_sl ([.ref (a 19), .int x1, .int x2, .int x3, .int x4]) ++ List.replicate (5 - (lg_sl ([.ref (a 19), .int x1, .int x2, .int x3, .int x4])).length) Slot.unset).toArray = ls at hl ⊢
  have hl : lv_has ls 5 [(0, .ref (a 19)), (1, .int x1), (2, .int x2), (3, .int x3), (4, .int x4)] := hl
  obtain ⟨QQ, hQ⟩ : ∃ QQ : State → Prop, QQ = MQ below (Qm (dC, dI) (some (.int res.1)) (WX0 a b cI cJ cZ res.2) A) args s 0 0 (A) := ⟨_, rfl⟩
  rw [← hQ]
  have main : ∀ (H : Heap) (locs : List Loc) (ls : Array Slot), IN (dC, dI) (WX0 a b cI cJ cZ st) A s.heap H locs → lv_has ls 5 [(0, .ref (a 19)), (1, .int x1), (2, .int x2), (3, .int x3), (4, .int x4)] → W p l e (headSpec wsX0_add rX0_add).room s m args below meth c H locs 0 0 QQ (F0 m 0 ls []) := by
    intro H locs ls hin hl
    obtain ⟨hP, hD, hS⟩ := hin
    unfold fX0_add at hf
    refine lv_aload_n hx hb dX0_add_0 rfl (lv_at hl 0 rfl) ?_
    refine va_get (D := (dC, dI)) (ci := 0) (v := .int (FS_size st)) (C := RX0) (T := TX0) (N := 5) hx hb hts kX0_add_X0 hown hK hP 0 rfl rfl 4 (by decide) (hts _ mX0_add_1) (fun _ h9 => h9) rfl dX0_add_1 ?_
    refine lv_bipush (v := (80 : Int32)) hx hb dX0_add_4 (by decide) ?_
    refine lv_icmp_lt (tgt := 12) hx hb dX0_add_6 (by decide) (fun c1 => ?_) (fun c1 => ?_)
    · replace hf := it_p c1 hf
      refine lv_aload_n hx hb dX0_add_12 rfl (lv_at hl 0 rfl) ?_
      refine va_get (D := (dC, dI)) (ci := 0) (v := .ref (a 20)) (C := RX0) (T := TX0) (N := 5) hx hb hts kX0_add_X0 hown hK hP 0 rfl rfl 0 (by decide) (hts _ mX0_add_2) (fun _ h9 => h9) rfl dX0_add_13 ?_
      refine lv_aload_n hx hb dX0_add_16 rfl (lv_at hl 0 rfl) ?_
      refine va_get (D := (dC, dI)) (ci := 0) (v := .int (FS_size st)) (C := RX0) (T := TX0) (N := 5) hx hb hts kX0_add_X0 hown hK hP 0 rfl rfl 4 (by decide) (hts _ mX0_add_1) (fun _ h9 => h9) rfl dX0_add_17 ?_
      refine lv_iload_n hx hb dX0_add_20 rfl (lv_at hl 1 rfl) ?_
      obtain ⟨hi2, hf⟩ := it_s hf
      refine va_iast hx hb hK hP hD hS 1 0 rfl rfl (inb_in hi2) dX0_add_21 (fun H locs hP hD hS => ?_)
      replace hP : va_P (dC, dI) vwCl (WX0 a b cI cJ cZ (FS_kind_s st (upd (FS_kind st) ((FS_size st)).toNatClampNeg x1))) H := hP
      replace hD : va_D A (WX0 a b cI cJ cZ (FS_kind_s st (upd (FS_kind st) ((FS_size st)).toNatClampNeg x1))) := hD
      refine lv_aload_n hx hb dX0_add_22 rfl (lv_at hl 0 rfl) ?_
      refine va_get (D := (dC, dI)) (ci := 0) (v := .ref (a 21)) (C := RX0) (T := TX0) (N := 5) hx hb hts kX0_add_X0 hown hK hP 0 rfl rfl 1 (by decide) (hts _ mX0_add_3) (fun _ h9 => h9) rfl dX0_add_23 ?_
      refine lv_aload_n hx hb dX0_add_26 rfl (lv_at hl 0 rfl) ?_
      refine va_get (D := (dC, dI)) (ci := 0) (v := .int (FS_size st)) (C := RX0) (T := TX0) (N := 5) hx hb hts kX0_add_X0 hown hK hP 0 rfl rfl 4 (by decide) (hts _ mX0_add_1) (fun _ h9 => h9) rfl dX0_add_27 ?_
      refine lv_iload_n hx hb dX0_add_30 rfl (lv_at hl 2 rfl) ?_
      obtain ⟨hi3, hf⟩ := it_s hf
      refine va_iast hx hb hK hP hD hS 2 0 rfl rfl (inb_in hi3) dX0_add_31 (fun H locs hP hD hS => ?_)
      replace hP : va_P (dC, dI) vwCl (WX0 a b cI cJ cZ (FS_year_s (FS_kind_s st (upd (FS_kind st) ((FS_size st)).toNatClampNeg x1)) (upd (FS_year st) ((FS_size st)).toNatClampNeg x2))) H := hP
      replace hD : va_D A (WX0 a b cI cJ cZ (FS_year_s (FS_kind_s st (upd (FS_kind st) ((FS_size st)).toNatClampNeg x1)) (upd (FS_year st) ((FS_size st)).toNatClampNeg x2))) := hD
      refine lv_aload_n hx hb dX0_add_32 rfl (lv_at hl 0 rfl) ?_
      refine va_get (D := (dC, dI)) (ci := 0) (v := .ref (a 22)) (C := RX0) (T := TX0) (N := 5) hx hb hts kX0_add_X0 hown hK hP 0 rfl rfl 2 (by decide) (hts _ mX0_add_4) (fun _ h9 => h9) rfl dX0_add_33 ?_
      refine lv_aload_n hx hb dX0_add_36 rfl (lv_at hl 0 rfl) ?_
      refine va_get (D := (dC, dI)) (ci := 0) (v := .int (FS_size st)) (C := RX0) (T := TX0) (N := 5) hx hb hts kX0_add_X0 hown hK hP 0 rfl rfl 4 (by decide) (hts _ mX0_add_1) (fun _ h9 => h9) rfl dX0_add_37 ?_
      refine lv_iload_n hx hb dX0_add_40 rfl (lv_at hl 3 rfl) ?_
      obtain ⟨hi4, hf⟩ := it_s hf
      refine va_iast hx hb hK hP hD hS 3 0 rfl rfl (inb_in hi4) dX0_add_41 (fun H locs hP hD hS => ?_)
      replace hP : va_P (dC, dI) vwCl (WX0 a b cI cJ cZ (FS_low_s (FS_year_s (FS_kind_s st (upd (FS_kind st) ((FS_size st)).toNatClampNeg x1)) (upd (FS_year st) ((FS_size st)).toNatClampNeg x2)) (upd (FS_low st) ((FS_size st)).toNatClampNeg x3))) H := hP
      replace hD : va_D A (WX0 a b cI cJ cZ (FS_low_s (FS_year_s (FS_kind_s st (upd (FS_kind st) ((FS_size st)).toNatClampNeg x1)) (upd (FS_year st) ((FS_size st)).toNatClampNeg x2)) (upd (FS_low st) ((FS_size st)).toNatClampNeg x3))) := hD
      refine lv_aload_n hx hb dX0_add_42 rfl (lv_at hl 0 rfl) ?_
      refine va_get (D := (dC, dI)) (ci := 0) (v := .ref (a 23)) (C := RX0) (T := TX0) (N := 5) hx hb hts kX0_add_X0 hown hK hP 0 rfl rfl 3 (by decide) (hts _ mX0_add_5) (fun _ h9 => h9) rfl dX0_add_43 ?_
      refine lv_aload_n hx hb dX0_add_46 rfl (lv_at hl 0 rfl) ?_
      refine va_get (D := (dC, dI)) (ci := 0) (v := .int (FS_size st)) (C := RX0) (T := TX0) (N := 5) hx hb hts kX0_add_X0 hown hK hP 0 rfl rfl 4 (by decide) (hts _ mX0_add_1) (fun _ h9 => h9) rfl dX0_add_47 ?_
      refine lv_iload hx hb dX0_add_50 (lv_at hl 4 rfl) ?_
      obtain ⟨hi5, hf⟩ := it_s hf
      refine va_iast hx hb hK hP hD hS 4 0 rfl rfl (inb_in hi5) dX0_add_52 (fun H locs hP hD hS => ?_)
      replace hP : va_P (dC, dI) vwCl (WX0 a b cI cJ cZ (FS_high_s (FS_low_s (FS_year_s (FS_kind_s st (upd (FS_kind st) ((FS_size st)).toNatClampNeg x1)) (upd (FS_year st) ((FS_size st)).toNatClampNeg x2)) (upd (FS_low st) ((FS_size st)).toNatClampNeg x3)) (upd (FS_high st) ((FS_size st)).toNatClampNeg x4))) H := hP
      replace hD : va_D A (WX0 a b cI cJ cZ (FS_high_s (FS_low_s (FS_year_s (FS_kind_s st (upd (FS_kind st) ((FS_size st)).toNatClampNeg x1)) (upd (FS_year st) ((FS_size st)).toNatClampNeg x2)) (upd (FS_low st) ((FS_size st)).toNatClampNeg x3)) (upd (FS_high st) ((FS_size st)).toNatClampNeg x4))) := hD
      refine lv_aload_n hx hb dX0_add_53 rfl (lv_at hl 0 rfl) ?_
      refine lv_dup hx hb dX0_add_54 rfl ?_
      refine va_get (D := (dC, dI)) (ci := 0) (v := .int (FS_size st)) (C := RX0) (T := TX0) (N := 5) hx hb hts kX0_add_X0 hown hK hP 0 rfl rfl 4 (by decide) (hts _ mX0_add_1) (fun _ h9 => h9) rfl dX0_add_55 ?_
      refine lv_iconst (v := (1 : Int32)) hx hb dX0_add_58 (by decide) ?_
      refine lv_iadd hx hb dX0_add_59 ?_
      refine va_put (D := (dC, dI)) (ci := 0) (v := .int ((FS_size st) + (1 : Int32))) (ty := .int) (C := RX0) (T := TX0) (N := 5) hx hb hts kX0_add_X0 tyX0 tyX0_ok nmX0 hown hK hP hD hS 0 rfl rfl 4 (by decide) (hts _ mX0_add_1) (fun _ h9 => h9) rfl (by decide +kernel) rfl rfl (Nat.le_of_ble_eq_true rfl) dX0_add_60 (fun H locs hP hD hS => ?_)
      replace hP : va_P (dC, dI) vwCl (WX0 a b cI cJ cZ (FS_size_s (FS_high_s (FS_low_s (FS_year_s (FS_kind_s st (upd (FS_kind st) ((FS_size st)).toNatClampNeg x1)) (upd (FS_year st) ((FS_size st)).toNatClampNeg x2)) (upd (FS_low st) ((FS_size st)).toNatClampNeg x3)) (upd (FS_high st) ((FS_size st)).toNatClampNeg x4)) ((FS_size st) + (1 : Int32)))) H := hP
      replace hD : va_D A (WX0 a b cI cJ cZ (FS_size_s (FS_high_s (FS_low_s (FS_year_s (FS_kind_s st (upd (FS_kind st) ((FS_size st)).toNatClampNeg x1)) (upd (FS_year st) ((FS_size st)).toNatClampNeg x2)) (upd (FS_low st) ((FS_size st)).toNatClampNeg x3)) (upd (FS_high st) ((FS_size st)).toNatClampNeg x4)) ((FS_size st) + (1 : Int32)))) := hD
      refine lv_aload_n hx hb dX0_add_63 rfl (lv_at hl 0 rfl) ?_
      refine va_get (D := (dC, dI)) (ci := 0) (v := .int ((FS_size st) + (1 : Int32))) (C := RX0) (T := TX0) (N := 5) hx hb hts kX0_add_X0 hown hK hP 0 rfl rfl 4 (by decide) (hts _ mX0_add_1) (fun _ h9 => h9) rfl dX0_add_64 ?_
      refine lv_iconst (v := (1 : Int32)) hx hb dX0_add_67 (by decide) ?_
      refine lv_isub hx hb dX0_add_68 ?_
      obtain rfl := Option.some.inj hf
      rw [hQ]
      exact W.iret hx hb hr (fun t ht hW => ⟨rfl, ⟨by rw [ht]; exact hP, hD⟩, hS.F ht⟩) hS.2.2 dX0_add_69
    · replace hf := it_n c1 hf
      refine lv_bipush (v := (-4 : Int32)) hx hb dX0_add_9 (by decide) ?_
      obtain rfl := Option.some.inj hf
      rw [hQ]
      exact W.iret hx hb hr (fun t ht hW => ⟨rfl, ⟨by rw [ht]; exact hP, hD⟩, hS.F ht⟩) hS.2.2 dX0_add_11
  exact main s.heap [] ls ⟨hP, hD, va_S.rf⟩ hl
def rX0_versionFor : Room := { frames := 0, cells := 0, slots := 0, locals := 0 }
theorem kX0_versionFor_X0 : ∀ w ∈ wsX00, w ∈ wsX0_versionFor := fun w h => (List.mem_cons_of_mem _ (List.mem_append_right _ h))
theorem mX0_versionFor_2 : Cond.fieldLink RX0 9 "SmokeLedger$Factors" "kind" "[I" ∈ wsX0_versionFor := List.mem_of_getElem? (i := 2) rfl
theorem mX0_versionFor_3 : Cond.fieldLink RX0 15 "SmokeLedger$Factors" "year" "[I" ∈ wsX0_versionFor := List.mem_of_getElem? (i := 3) rfl
theorem mX0_versionFor_1 : Cond.fieldLink RX0 24 "SmokeLedger$Factors" "size" "I" ∈ wsX0_versionFor := List.mem_of_getElem? (i := 1) rfl
set_option maxHeartbeats 4000000 in
set_option maxRecDepth 100000 in
theorem ct_X0_versionFor (l : Launch) (dC : Nat → ClassId) (dI : Nat → Nat → Nat) (a b : Nat → Nat) (cI cJ cZ : ClassId) (st : FS) (x1 : Int32) (x2 : Int32) (x3 : Int32) (res : Int32) (hf : fX0_versionFor st x1 x2 x3 = some res) : Met l yX0_versionFor wsX0_versionFor rX0_versionFor (Pp (dC, dI) (tyT cI cJ cZ) (WX0 a b cI cJ cZ st) [.ref (a 19), .int x1, .int x2, .int x3]) (Qp (.int res)) 0 0 (fun _ => False) := by
  refine Met.ofW (cc := cX0_versionFor) (maxL := 7) (ret := (some .int)) (by decide) rfl ?_
  intro p e s m args below meth c s₁ B hml hv
  obtain ⟨hargs, hP, hK⟩ := hv
  have hx := B.exec
  have hb := B.bytes
  have hr := B.returns
  have hts := atoms_spec (ws := wsX0_versionFor) B.pre
  have hown : s.vm.findClass RX0 = some m.cls := findClass_of_methodNamed B.named
  have hlocks := B.notSynchronized
  have hP : va_P (dC, dI) vwCl (WX0 a b cI cJ cZ st) s.heap := hP
  have hl := lv_entry ([.ref (a 19), .int x1, .int x2, .int x3]) (n := 7) (Nat.le_of_ble_eq_true rfl)
  refine W.eq (hargs ▸ lg_entry_eq m [.ref (a 19), .int x1, .int x2, .int x3] 7) ?_
  generalize (lg_sl ([.ref (a 19), .int x1, .int x2, .int x3]) ++ List.replicate (7 - (lg_sl ([.ref (a 19), .int x1, .int x2, .int x3])).length) Slot.unset).toArray = ls at hl ⊢
  have hl : lv_has ls 7 [(0, .ref (a 19)), (1, .int x1), (2, .int x2), (3, .int x3)] := hl
  obtain ⟨QQ, hQ⟩ : ∃ QQ : State → Prop, QQ = MQ below (Qp (.int res)) args s 0 0 (fun _ => False) := ⟨_, rfl⟩
  rw [← hQ]
  have l25 : ∀ (x1 : Int32) (x2 : Int32) (x4 : Int32) (fu : Nat) (s0 : Int32 × Int32) (r : Int32 × Int32), loopN (fun (s : Int32 × Int32) => fX0_versionFor_l25 st x1 x2 x4 s.1 s.2) fu s0 = some r → (∀ (ls : Array Slot), lv_has ls 7 [(0, .ref (a 19)), (1, .int x1), (2, .int x2), (4, .int x4), (5, .int r.1), (6, .int r.2)] → W p l e (headSpec wsX0_versionFor rX0_versionFor).room s m args below meth c s.heap [] 0 0 QQ (F0 m 88 ls [])) → (∀ (ls : Array Slot), lv_has ls 7 [(0, .ref (a 19)), (1, .int x1), (2, .int x2), (4, .int x4), (5, .int s0.1), (6, .int s0.2)] → W p l e (headSpec wsX0_versionFor rX0_versionFor).room s m args below meth c s.heap [] 0 0 QQ (F0 m 25 ls [])) := by
    intro x1 x2 x4 fu s0 r
    have b82 : ∀ (x1 : Int32) (x2 : Int32) (x4 : Int32) (x5 : Int32) (x6 : Int32) (x : (Int32 × Int32) ⊕ (Int32 × Int32)), fX0_versionFor_b82 st x1 x2 x4 x5 x6 = some x → (∀ s', x = .inl s' → (∀ (ls : Array Slot), lv_has ls 7 [(0, .ref (a 19)), (1, .int x1), (2, .int x2), (4, .int x4), (5, .int s'.1), (6, .int s'.2)] → W p l e (headSpec wsX0_versionFor rX0_versionFor).room s m args below meth c s.heap [] 0 0 QQ (F0 m 25 ls []))) → (∀ r, x = .inr r → (∀ (ls : Array Slot), lv_has ls 7 [(0, .ref (a 19)), (1, .int x1), (2, .int x2), (4, .int x4), (5, .int r.1), (6, .int r.2)] → W p l e (headSpec wsX0_versionFor rX0_versionFor).room s m args below meth c s.heap [] 0 0 QQ (F0 m 88 ls []))) → (∀ (ls : Array Slot), lv_has ls 7 [(0, .ref (a 19)), (1, .int x1), (2, .int x2), (4, .int x4), (5, .int x5), (6, .int x6)] → W p l e (headSpec wsX0_versionFor rX0_versionFor).room s m args below meth c s.heap [] 0 0 QQ (F0 m 82 ls [])) := by
      intro x1 x2 x4 x5 x6 x hf kc ke
      intro ls hl
      unfold fX0_versionFor_b82 at hf
      refine lv_iinc (v := (x6 + (1 : Int32))) (lv' := [(6, .int (x6 + (1 : Int32))), (0, .ref (a 19)), (1, .int x1), (2, .int x2), (4, .int x4), (5, .int x5)]) hx hb dX0_versionFor_82 hl (k := 5) rfl rfl (by decide) rfl (fun ls hl => ?_)
      refine lv_goto (tgt := 25) hx hb dX0_versionFor_85 (by decide) ?_
      obtain rfl := Option.some.inj hf
      exact kc _ rfl ls (lv_sub hl [1, 2, 3, 4, 5, 0] rfl)
    have b78 : ∀ (x1 : Int32) (x2 : Int32) (x4 : Int32) (x6 : Int32) (x : (Int32 × Int32) ⊕ (Int32 × Int32)), fX0_versionFor_b78 st x1 x2 x4 x6 = some x → (∀ s', x = .inl s' → (∀ (ls : Array Slot), lv_has ls 7 [(0, .ref (a 19)), (1, .int x1), (2, .int x2), (4, .int x4), (5, .int s'.1), (6, .int s'.2)] → W p l e (headSpec wsX0_versionFor rX0_versionFor).room s m args below meth c s.heap [] 0 0 QQ (F0 m 25 ls []))) → (∀ r, x = .inr r → (∀ (ls : Array Slot), lv_has ls 7 [(0, .ref (a 19)), (1, .int x1), (2, .int x2), (4, .int x4), (5, .int r.1), (6, .int r.2)] → W p l e (headSpec wsX0_versionFor rX0_versionFor).room s m args below meth c s.heap [] 0 0 QQ (F0 m 88 ls []))) → (∀ (ls : Array Slot), lv_has ls 7 [(0, .ref (a 19)), (1, .int x1), (2, .int x2), (4, .int x4), (6, .int x6)] → W p l e (headSpec wsX0_versionFor rX0_versionFor).room s m args below meth c s.heap [] 0 0 QQ (F0 m 78 ls [])) := by
      intro x1 x2 x4 x6 x hf kc ke
      intro ls hl
      unfold fX0_versionFor_b78 at hf
      refine lv_iload hx hb dX0_versionFor_78 (lv_at hl 4 rfl) ?_
      refine lv_istore (lv' := [(5, .int x6), (0, .ref (a 19)), (1, .int x1), (2, .int x2), (4, .int x4), (6, .int x6)]) hx hb dX0_versionFor_80 hl (by decide) rfl (fun ls hl => ?_)
      exact b82 x1 x2 x4 x6 x6 _ hf kc ke ls (lv_sub hl [1, 2, 3, 4, 0, 5] rfl)
    refine loop_ind (P := fun s0 => ∀ (ls : Array Slot), lv_has ls 7 [(0, .ref (a 19)), (1, .int x1), (2, .int x2), (4, .int x4), (5, .int s0.1), (6, .int s0.2)] → W p l e (headSpec wsX0_versionFor rX0_versionFor).room s m args below meth c s.heap [] 0 0 QQ (F0 m 25 ls [])) (Q := fun r => ∀ (ls : Array Slot), lv_has ls 7 [(0, .ref (a 19)), (1, .int x1), (2, .int x2), (4, .int x4), (5, .int r.1), (6, .int r.2)] → W p l e (headSpec wsX0_versionFor rX0_versionFor).room s m args below meth c s.heap [] 0 0 QQ (F0 m 88 ls [])) ?_ fu s0 r
    clear fu s0 r
    rintro ⟨x5, x6⟩ x hf kc ke
    replace hf : fX0_versionFor_l25 st x1 x2 x4 x5 x6 = some x := hf
    replace kc : (∀ s', x = .inl s' → (∀ (ls : Array Slot), lv_has ls 7 [(0, .ref (a 19)), (1, .int x1), (2, .int x2), (4, .int x4), (5, .int s'.1), (6, .int s'.2)] → W p l e (headSpec wsX0_versionFor rX0_versionFor).room s m args below meth c s.heap [] 0 0 QQ (F0 m 25 ls []))) := kc
    replace ke : (∀ r, x = .inr r → (∀ (ls : Array Slot), lv_has ls 7 [(0, .ref (a 19)), (1, .int x1), (2, .int x2), (4, .int x4), (5, .int r.1), (6, .int r.2)] → W p l e (headSpec wsX0_versionFor rX0_versionFor).room s m args below meth c s.heap [] 0 0 QQ (F0 m 88 ls []))) := ke
    intro ls hl
    unfold fX0_versionFor_l25 at hf
    refine lv_iload hx hb dX0_versionFor_25 (lv_at hl 5 rfl) ?_
    refine lv_iload hx hb dX0_versionFor_27 (lv_at hl 3 rfl) ?_
    refine lv_icmp_ge (tgt := 88) hx hb dX0_versionFor_29 (by decide) (fun c2 => ?_) (fun c2 => ?_)
    · replace hf := it_p c2 hf
      obtain rfl := Option.some.inj hf
      exact ke _ rfl ls (lv_sub hl [0, 1, 2, 3, 4, 5] rfl)
    · replace hf := it_n c2 hf
      refine lv_aload_n hx hb dX0_versionFor_32 rfl (lv_at hl 0 rfl) ?_
      refine va_get (D := (dC, dI)) (ci := 0) (v := .ref (a 20)) (C := RX0) (T := TX0) (N := 5) hx hb hts kX0_versionFor_X0 hown hK hP 0 rfl rfl 0 (by decide) (hts _ mX0_versionFor_2) (fun _ h9 => h9) rfl dX0_versionFor_33 ?_
      refine lv_iload hx hb dX0_versionFor_36 (lv_at hl 5 rfl) ?_
      obtain ⟨hi3, hf⟩ := it_s hf
      refine va_iald hx hb hK hP 1 0 rfl rfl (inb_in hi3) dX0_versionFor_38 ?_
      refine lv_iload_n hx hb dX0_versionFor_39 rfl (lv_at hl 1 rfl) ?_
      refine lv_icmp_ne (tgt := 82) hx hb dX0_versionFor_40 (by decide) (fun c4 => ?_) (fun c4 => ?_)
      · replace hf := it_n c4 hf
        exact b82 x1 x2 x4 x5 x6 _ hf kc ke ls (lv_sub hl [0, 1, 2, 3, 4, 5] rfl)
      · replace hf := it_p c4 hf
        refine lv_aload_n hx hb dX0_versionFor_43 rfl (lv_at hl 0 rfl) ?_
        refine va_get (D := (dC, dI)) (ci := 0) (v := .ref (a 21)) (C := RX0) (T := TX0) (N := 5) hx hb hts kX0_versionFor_X0 hown hK hP 0 rfl rfl 1 (by decide) (hts _ mX0_versionFor_3) (fun _ h9 => h9) rfl dX0_versionFor_44 ?_
        refine lv_iload hx hb dX0_versionFor_47 (lv_at hl 5 rfl) ?_
        obtain ⟨hi5, hf⟩ := it_s hf
        refine va_iald hx hb hK hP 2 0 rfl rfl (inb_in hi5) dX0_versionFor_49 ?_
        refine lv_iload_n hx hb dX0_versionFor_50 rfl (lv_at hl 2 rfl) ?_
        refine lv_icmp_gt (tgt := 82) hx hb dX0_versionFor_51 (by decide) (fun c6 => ?_) (fun c6 => ?_)
        · replace hf := it_p c6 hf
          exact b82 x1 x2 x4 x5 x6 _ hf kc ke ls (lv_sub hl [0, 1, 2, 3, 4, 5] rfl)
        · replace hf := it_n c6 hf
          refine lv_iload hx hb dX0_versionFor_54 (lv_at hl 4 rfl) ?_
          refine lv_bipush (v := (-9 : Int32)) hx hb dX0_versionFor_56 (by decide) ?_
          refine lv_icmp_eq (tgt := 78) hx hb dX0_versionFor_58 (by decide) (fun c7 => ?_) (fun c7 => ?_)
          · replace hf := it_p c7 hf
            exact b78 x1 x2 x4 x6 _ hf kc ke ls (lv_sub hl [0, 1, 2, 3, 5] rfl)
          · replace hf := it_n c7 hf
            refine lv_aload_n hx hb dX0_versionFor_61 rfl (lv_at hl 0 rfl) ?_
            refine va_get (D := (dC, dI)) (ci := 0) (v := .ref (a 21)) (C := RX0) (T := TX0) (N := 5) hx hb hts kX0_versionFor_X0 hown hK hP 0 rfl rfl 1 (by decide) (hts _ mX0_versionFor_3) (fun _ h9 => h9) rfl dX0_versionFor_62 ?_
            refine lv_iload hx hb dX0_versionFor_65 (lv_at hl 5 rfl) ?_
            obtain ⟨hi8, hf⟩ := it_s hf
            refine va_iald hx hb hK hP 2 0 rfl rfl (inb_in hi8) dX0_versionFor_67 ?_
            refine lv_aload_n hx hb dX0_versionFor_68 rfl (lv_at hl 0 rfl) ?_
            refine va_get (D := (dC, dI)) (ci := 0) (v := .ref (a 21)) (C := RX0) (T := TX0) (N := 5) hx hb hts kX0_versionFor_X0 hown hK hP 0 rfl rfl 1 (by decide) (hts _ mX0_versionFor_3) (fun _ h9 => h9) rfl dX0_versionFor_69 ?_
            refine lv_iload hx hb dX0_versionFor_72 (lv_at hl 4 rfl) ?_
            obtain ⟨hi9, hf⟩ := it_s hf
            refine va_iald hx hb hK hP 2 0 rfl rfl (inb_in hi9) dX0_versionFor_74 ?_
            refine lv_icmp_lt (tgt := 82) hx hb dX0_versionFor_75 (by decide) (fun c10 => ?_) (fun c10 => ?_)
            · replace hf := it_p c10 hf
              exact b82 x1 x2 x4 x5 x6 _ hf kc ke ls (lv_sub hl [0, 1, 2, 3, 4, 5] rfl)
            · replace hf := it_n c10 hf
              exact b78 x1 x2 x4 x6 _ hf kc ke ls (lv_sub hl [0, 1, 2, 3, 5] rfl)
  have b16 : ∀ (x1 : Int32) (x2 : Int32) (k0 : Int32), fX0_versionFor_b16 st x1 x2 k0 = some res → (∀ (ls : Array Slot), lv_has ls 7 [(0, .ref (a 19)), (1, .int x1), (2, .int x2)] → W p l e (headSpec wsX0_versionFor rX0_versionFor).room s m args below meth c s.heap [] 0 0 QQ (F0 m 16 ls [.int k0])) := by
    intro x1 x2 k0 hf
    intro ls hl
    unfold fX0_versionFor_b16 at hf
    refine lv_istore (lv' := [(4, .int k0), (0, .ref (a 19)), (1, .int x1), (2, .int x2)]) hx hb dX0_versionFor_16 hl (by decide) rfl (fun ls hl => ?_)
    refine lv_bipush (v := (-9 : Int32)) hx hb dX0_versionFor_18 (by decide) ?_
    refine lv_istore (lv' := [(5, .int (-9 : Int32)), (4, .int k0), (0, .ref (a 19)), (1, .int x1), (2, .int x2)]) hx hb dX0_versionFor_20 hl (by decide) rfl (fun ls hl => ?_)
    refine lv_iconst (v := (0 : Int32)) hx hb dX0_versionFor_22 (by decide) ?_
    refine lv_istore (lv' := [(6, .int (0 : Int32)), (5, .int (-9 : Int32)), (4, .int k0), (0, .ref (a 19)), (1, .int x1), (2, .int x2)]) hx hb dX0_versionFor_23 hl (by decide) rfl (fun ls hl => ?_)
    obtain ⟨y11, hlp, hf⟩ := bind_s hf
    refine l25 x1 x2 k0 fuelN ((-9 : Int32), (0 : Int32)) y11 hlp ?_ ls (lv_sub hl [3, 4, 5, 2, 1, 0] rfl)
    intro ls hl
    refine lv_iload hx hb dX0_versionFor_88 (lv_at hl 4 rfl) ?_
    obtain rfl := Option.some.inj hf
    rw [hQ]
    exact W.iret hx hb hr (fun t ht hW => ⟨rfl, ht⟩) (fun q hq => absurd hq List.not_mem_nil) dX0_versionFor_90
  unfold fX0_versionFor at hf
  refine lv_iload_n hx hb dX0_versionFor_0 rfl (lv_at hl 3 rfl) ?_
  refine lv_bipush (v := (-9 : Int32)) hx hb dX0_versionFor_1 (by decide) ?_
  refine lv_icmp_ne (tgt := 13) hx hb dX0_versionFor_3 (by decide) (fun c1 => ?_) (fun c1 => ?_)
  · replace hf := it_n c1 hf
    refine lv_iload_n hx hb dX0_versionFor_13 rfl (lv_at hl 3 rfl) ?_
    refine lv_iconst (v := (1 : Int32)) hx hb dX0_versionFor_14 (by decide) ?_
    refine lv_iadd hx hb dX0_versionFor_15 ?_
    exact b16 x1 x2 (x3 + (1 : Int32)) hf ls (lv_sub hl [0, 1, 2] rfl)
  · replace hf := it_p c1 hf
    refine lv_aload_n hx hb dX0_versionFor_6 rfl (lv_at hl 0 rfl) ?_
    refine va_get (D := (dC, dI)) (ci := 0) (v := .int (FS_size st)) (C := RX0) (T := TX0) (N := 5) hx hb hts kX0_versionFor_X0 hown hK hP 0 rfl rfl 4 (by decide) (hts _ mX0_versionFor_1) (fun _ h9 => h9) rfl dX0_versionFor_7 ?_
    refine lv_goto (tgt := 16) hx hb dX0_versionFor_10 (by decide) ?_
    exact b16 x1 x2 (FS_size st) hf ls (lv_sub hl [0, 1, 2] rfl)
def rX0_endOf : Room := { frames := 0, cells := 0, slots := 0, locals := 0 }
theorem kX0_endOf_X0 : ∀ w ∈ wsX00, w ∈ wsX0_endOf := fun w h => (List.mem_cons_of_mem _ (List.mem_append_right _ h))
theorem mX0_endOf_2 : Cond.fieldLink RX0 18 "SmokeLedger$Factors" "low" "[I" ∈ wsX0_endOf := List.mem_of_getElem? (i := 2) rfl
theorem mX0_endOf_1 : Cond.fieldLink RX0 21 "SmokeLedger$Factors" "high" "[I" ∈ wsX0_endOf := List.mem_of_getElem? (i := 1) rfl
set_option maxHeartbeats 4000000 in
set_option maxRecDepth 100000 in
theorem ct_X0_endOf (l : Launch) (dC : Nat → ClassId) (dI : Nat → Nat → Nat) (a b : Nat → Nat) (cI cJ cZ : ClassId) (st : FS) (x1 : Int32) (x2 : Int32) (res : Int32) (hf : fX0_endOf st x1 x2 = some res) : Met l yX0_endOf wsX0_endOf rX0_endOf (Pp (dC, dI) (tyT cI cJ cZ) (WX0 a b cI cJ cZ st) [.ref (a 19), .int x1, .int x2]) (Qp (.int res)) 0 0 (fun _ => False) := by
  refine Met.ofW (cc := cX0_endOf) (maxL := 3) (ret := (some .int)) (by decide) rfl ?_
  intro p e s m args below meth c s₁ B hml hv
  obtain ⟨hargs, hP, hK⟩ := hv
  have hx := B.exec
  have hb := B.bytes
  have hr := B.returns
  have hts := atoms_spec (ws := wsX0_endOf) B.pre
  have hown : s.vm.findClass RX0 = some m.cls := findClass_of_methodNamed B.named
  have hlocks := B.notSynchronized
  have hP : va_P (dC, dI) vwCl (WX0 a b cI cJ cZ st) s.heap := hP
  have hl := lv_entry ([.ref (a 19), .int x1, .int x2]) (n := 3) (Nat.le_of_ble_eq_true rfl)
  refine W.eq (hargs ▸ lg_entry_eq m [.ref (a 19), .int x1, .int x2] 3) ?_
  generalize (lg_sl ([.ref (a 19), .int x1, .int x2]) ++ List.replicate (3 - (lg_sl ([.ref (a 19), .int x1, .int x2])).length) Slot.unset).toArray = ls at hl ⊢
  have hl : lv_has ls 3 [(0, .ref (a 19)), (1, .int x1), (2, .int x2)] := hl
  obtain ⟨QQ, hQ⟩ : ∃ QQ : State → Prop, QQ = MQ below (Qp (.int res)) args s 0 0 (fun _ => False) := ⟨_, rfl⟩
  rw [← hQ]
  unfold fX0_endOf at hf
  refine lv_iload_n hx hb dX0_endOf_0 rfl (lv_at hl 1 rfl) ?_
  refine lv_bipush (v := (-9 : Int32)) hx hb dX0_endOf_1 (by decide) ?_
  refine lv_icmp_ne (tgt := 9) hx hb dX0_endOf_3 (by decide) (fun c1 => ?_) (fun c1 => ?_)
  · replace hf := it_n c1 hf
    refine lv_iload_n hx hb dX0_endOf_9 rfl (lv_at hl 2 rfl) ?_
    refine lv_if_eq (tgt := 22) hx hb dX0_endOf_10 (by decide) (fun c2 => ?_) (fun c2 => ?_)
    · replace hf := it_p c2 hf
      refine lv_aload_n hx hb dX0_endOf_22 rfl (lv_at hl 0 rfl) ?_
      refine va_get (D := (dC, dI)) (ci := 0) (v := .ref (a 22)) (C := RX0) (T := TX0) (N := 5) hx hb hts kX0_endOf_X0 hown hK hP 0 rfl rfl 2 (by decide) (hts _ mX0_endOf_2) (fun _ h9 => h9) rfl dX0_endOf_23 ?_
      refine lv_iload_n hx hb dX0_endOf_26 rfl (lv_at hl 1 rfl) ?_
      obtain ⟨hi3, hf⟩ := it_s hf
      refine va_iald hx hb hK hP 3 0 rfl rfl (inb_in hi3) dX0_endOf_27 ?_
      obtain rfl := Option.some.inj hf
      rw [hQ]
      exact W.iret hx hb hr (fun t ht hW => ⟨rfl, ht⟩) (fun q hq => absurd hq List.not_mem_nil) dX0_endOf_28
    · replace hf := it_n c2 hf
      refine lv_aload_n hx hb dX0_endOf_13 rfl (lv_at hl 0 rfl) ?_
      refine va_get (D := (dC, dI)) (ci := 0) (v := .ref (a 23)) (C := RX0) (T := TX0) (N := 5) hx hb hts kX0_endOf_X0 hown hK hP 0 rfl rfl 3 (by decide) (hts _ mX0_endOf_1) (fun _ h9 => h9) rfl dX0_endOf_14 ?_
      refine lv_iload_n hx hb dX0_endOf_17 rfl (lv_at hl 1 rfl) ?_
      obtain ⟨hi4, hf⟩ := it_s hf
      refine va_iald hx hb hK hP 4 0 rfl rfl (inb_in hi4) dX0_endOf_18 ?_
      refine lv_goto (tgt := 28) hx hb dX0_endOf_19 (by decide) ?_
      obtain rfl := Option.some.inj hf
      rw [hQ]
      exact W.iret hx hb hr (fun t ht hW => ⟨rfl, ht⟩) (fun q hq => absurd hq List.not_mem_nil) dX0_endOf_28
  · replace hf := it_p c1 hf
    refine lv_bipush (v := (-9 : Int32)) hx hb dX0_endOf_6 (by decide) ?_
    obtain rfl := Option.some.inj hf
    rw [hQ]
    exact W.iret hx hb hr (fun t ht hW => ⟨rfl, ht⟩) (fun q hq => absurd hq List.not_mem_nil) dX0_endOf_8
def rJ7_fill_53178 : Room := { frames := 0, cells := 0, slots := 0, locals := 0 }
set_option maxHeartbeats 4000000 in
set_option maxRecDepth 100000 in
theorem ct_J7_fill_53178 (l : Launch) (dC : Nat → ClassId) (dI : Nat → Nat → Nat) (cI cJ cZ : ClassId) (sz : Nat) (q : Nat) (len : Nat) (st : Nat → Int32) (x1 : Int32) (res : Nat → Int32) (hf : fJ7_fill_53178 len st x1 = some res) : Met l yJ7_fill_53178 wsJ7_fill_53178 rJ7_fill_53178 (Pm (dC, dI) (tyT cI cJ cZ) [(q, .inl (cI, len, .inl st))] sz [.ref q, .int x1]) (Qm (dC, dI) none [(q, .inl (cI, len, .inl res))] (va_A [(q, .inl (cI, len, .inl st))] sz)) 0 0 (va_A [(q, .inl (cI, len, .inl st))] sz) := by
  refine Met.ofW (cc := cJ7_fill_53178) (maxL := 4) (ret := none) (by decide) rfl ?_
  intro p e s m args below meth c s₁ B hml hv
  obtain ⟨hargs, hsz, hP, hK, hD0⟩ := hv
  have hx := B.exec
  have hb := B.bytes
  have hr := B.returns
  have hts := atoms_spec (ws := wsJ7_fill_53178) B.pre
  have hown : s.vm.findClass RJ7 = some m.cls := findClass_of_methodNamed B.named
  have hlocks := B.notSynchronized
  subst hsz
  have hD := hD0.self (sz := s.heap.size)
  generalize hAe : va_A [(q, .inl (cI, len, .inl st))] s.heap.size = A at hD ⊢
  have hA : ∀ q : Nat, s.heap.size ≤ q → A q := fun q h => by rw [← hAe]; exact Or.inr h
  have hl := lv_entry ([.ref q, .int x1]) (n := 4) (Nat.le_of_ble_eq_true rfl)
  refine W.eq (hargs ▸ lg_entry_eq m [.ref q, .int x1] 4) ?_
  generalize (lg_sl ([.ref q, .int x1]) ++ List.replicate (4 - (lg_sl ([.ref q, .int x1])).length) Slot.unset).toArray = ls at hl ⊢
  have hl : lv_has ls 4 [(0, .ref q), (1, .int x1)] := hl
  obtain ⟨QQ, hQ⟩ : ∃ QQ : State → Prop, QQ = MQ below (Qm (dC, dI) none [(q, .inl (cI, len, .inl res))] A) args s 0 0 (A) := ⟨_, rfl⟩
  rw [← hQ]
  have l5 : ∀ (x1 : Int32) (x3 : Int32) (fu : Nat) (s0 : (Nat → Int32) × Int32) (r : (Nat → Int32) × Int32), loopN (fun (s : (Nat → Int32) × Int32) => fJ7_fill_53178_l5 len x1 x3 s.1 s.2) fu s0 = some r → (∀ (H : Heap) (locs : List Loc) (ls : Array Slot), IN (dC, dI) [(q, .inl (cI, len, .inl r.1))] A s.heap H locs → lv_has ls 4 [(0, .ref q), (1, .int x1), (2, .int r.2), (3, .int x3)] → W p l e (headSpec wsJ7_fill_53178 rJ7_fill_53178).room s m args below meth c H locs 0 0 QQ (F0 m 20 ls [])) → (∀ (H : Heap) (locs : List Loc) (ls : Array Slot), IN (dC, dI) [(q, .inl (cI, len, .inl s0.1))] A s.heap H locs → lv_has ls 4 [(0, .ref q), (1, .int x1), (2, .int s0.2), (3, .int x3)] → W p l e (headSpec wsJ7_fill_53178 rJ7_fill_53178).room s m args below meth c H locs 0 0 QQ (F0 m 5 ls [])) := by
    intro x1 x3 fu s0 r
    refine loop_ind (P := fun s0 => ∀ (H : Heap) (locs : List Loc) (ls : Array Slot), IN (dC, dI) [(q, .inl (cI, len, .inl s0.1))] A s.heap H locs → lv_has ls 4 [(0, .ref q), (1, .int x1), (2, .int s0.2), (3, .int x3)] → W p l e (headSpec wsJ7_fill_53178 rJ7_fill_53178).room s m args below meth c H locs 0 0 QQ (F0 m 5 ls [])) (Q := fun r => ∀ (H : Heap) (locs : List Loc) (ls : Array Slot), IN (dC, dI) [(q, .inl (cI, len, .inl r.1))] A s.heap H locs → lv_has ls 4 [(0, .ref q), (1, .int x1), (2, .int r.2), (3, .int x3)] → W p l e (headSpec wsJ7_fill_53178 rJ7_fill_53178).room s m args below meth c H locs 0 0 QQ (F0 m 20 ls [])) ?_ fu s0 r
    clear fu s0 r
    rintro ⟨st, x2⟩ x hf kc ke
    replace hf : fJ7_fill_53178_l5 len x1 x3 st x2 = some x := hf
    replace kc : (∀ s', x = .inl s' → (∀ (H : Heap) (locs : List Loc) (ls : Array Slot), IN (dC, dI) [(q, .inl (cI, len, .inl s'.1))] A s.heap H locs → lv_has ls 4 [(0, .ref q), (1, .int x1), (2, .int s'.2), (3, .int x3)] → W p l e (headSpec wsJ7_fill_53178 rJ7_fill_53178).room s m args below meth c H locs 0 0 QQ (F0 m 5 ls []))) := kc
    replace ke : (∀ r, x = .inr r → (∀ (H : Heap) (locs : List Loc) (ls : Array Slot), IN (dC, dI) [(q, .inl (cI, len, .inl r.1))] A s.heap H locs → lv_has ls 4 [(0, .ref q), (1, .int x1), (2, .int r.2), (3, .int x3)] → W p l e (headSpec wsJ7_fill_53178 rJ7_fill_53178).room s m args below meth c H locs 0 0 QQ (F0 m 20 ls []))) := ke
    intro H locs ls hin hl
    obtain ⟨hP, hD, hS⟩ := hin
    unfold fJ7_fill_53178_l5 at hf
    refine lv_iload_n hx hb dJ7_fill_53178_5 rfl (lv_at hl 2 rfl) ?_
    refine lv_iload_n hx hb dJ7_fill_53178_6 rfl (lv_at hl 3 rfl) ?_
    refine lv_icmp_ge (tgt := 20) hx hb dJ7_fill_53178_7 (by decide) (fun c1 => ?_) (fun c1 => ?_)
    · replace hf := it_p c1 hf
      obtain rfl := Option.some.inj hf
      exact ke _ rfl H locs ls ⟨hP, hD, hS⟩ (lv_sub hl [0, 1, 2, 3] rfl)
    · replace hf := it_n c1 hf
      refine lv_aload_n hx hb dJ7_fill_53178_10 rfl (lv_at hl 0 rfl) ?_
      refine lv_iload_n hx hb dJ7_fill_53178_11 rfl (lv_at hl 2 rfl) ?_
      refine lv_iload_n hx hb dJ7_fill_53178_12 rfl (lv_at hl 1 rfl) ?_
      obtain ⟨hi2, hf⟩ := it_s hf
      refine va_iast hx hb hK hP hD hS 0 0 rfl rfl (inb_in hi2) dJ7_fill_53178_13 (fun H locs hP hD hS => ?_)
      replace hP : va_P (dC, dI) vwCl [(q, .inl (cI, len, .inl (upd st (x2).toNatClampNeg x1)))] H := hP
      replace hD : va_D A [(q, .inl (cI, len, .inl (upd st (x2).toNatClampNeg x1)))] := hD
      refine lv_iinc (v := (x2 + (1 : Int32))) (lv' := [(2, .int (x2 + (1 : Int32))), (0, .ref q), (1, .int x1), (3, .int x3)]) hx hb dJ7_fill_53178_14 hl (k := 2) rfl rfl (by decide) rfl (fun ls hl => ?_)
      refine lv_goto (tgt := 5) hx hb dJ7_fill_53178_17 (by decide) ?_
      obtain rfl := Option.some.inj hf
      exact kc _ rfl H locs ls ⟨hP, hD, hS⟩ (lv_sub hl [1, 2, 0, 3] rfl)
  have main : ∀ (H : Heap) (locs : List Loc) (ls : Array Slot), IN (dC, dI) [(q, .inl (cI, len, .inl st))] A s.heap H locs → lv_has ls 4 [(0, .ref q), (1, .int x1)] → W p l e (headSpec wsJ7_fill_53178 rJ7_fill_53178).room s m args below meth c H locs 0 0 QQ (F0 m 0 ls []) := by
    intro H locs ls hin hl
    obtain ⟨hP, hD, hS⟩ := hin
    unfold fJ7_fill_53178 at hf
    refine lv_iconst (v := (0 : Int32)) hx hb dJ7_fill_53178_0 (by decide) ?_
    refine lv_istore_n (lv' := [(2, .int (0 : Int32)), (0, .ref q), (1, .int x1)]) hx hb dJ7_fill_53178_1 rfl hl (by decide) rfl (fun ls hl => ?_)
    refine lv_aload_n hx hb dJ7_fill_53178_2 rfl (lv_at hl 1 rfl) ?_
    refine va_alen hx hb hK hP 0 0 rfl rfl rfl dJ7_fill_53178_3 ?_
    refine lv_istore_n (lv' := [(3, .int (Int32.ofNat len)), (2, .int (0 : Int32)), (0, .ref q), (1, .int x1)]) hx hb dJ7_fill_53178_4 rfl hl (by decide) rfl (fun ls hl => ?_)
    obtain ⟨y3, hlp, hf⟩ := bind_s hf
    refine l5 x1 (Int32.ofNat len) fuelN (st, (0 : Int32)) y3 hlp ?_ H locs ls ⟨hP, hD, hS⟩ (lv_sub hl [2, 3, 1, 0] rfl)
    intro H locs ls hin hl
    obtain ⟨hP, hD, hS⟩ := hin
    obtain rfl := Option.some.inj hf
    rw [hQ]
    exact W.vret hx hb hr (fun t ht hW => ⟨rfl, ⟨by rw [ht]; exact hP, hD⟩, hS.F ht⟩) hS.2.2 dJ7_fill_53178_20
  exact main s.heap [] ls ⟨hP, hD, va_S.rf⟩ hl
def rJ7_fill_d0a16 : Room := { frames := 0, cells := 0, slots := 0, locals := 0 }
set_option maxHeartbeats 4000000 in
set_option maxRecDepth 100000 in
theorem ct_J7_fill_d0a16 (l : Launch) (dC : Nat → ClassId) (dI : Nat → Nat → Nat) (cI cJ cZ : ClassId) (sz : Nat) (q : Nat) (len : Nat) (st : Nat → Int64) (x1 : Int64) (res : Nat → Int64) (hf : fJ7_fill_d0a16 len st x1 = some res) : Met l yJ7_fill_d0a16 wsJ7_fill_d0a16 rJ7_fill_d0a16 (Pm (dC, dI) (tyT cI cJ cZ) [(q, .inl (cJ, len, .inr (.inl st)))] sz [.ref q, .long x1]) (Qm (dC, dI) none [(q, .inl (cJ, len, .inr (.inl res)))] (va_A [(q, .inl (cJ, len, .inr (.inl st)))] sz)) 0 0 (va_A [(q, .inl (cJ, len, .inr (.inl st)))] sz) := by
  refine Met.ofW (cc := cJ7_fill_d0a16) (maxL := 5) (ret := none) (by decide) rfl ?_
  intro p e s m args below meth c s₁ B hml hv
  obtain ⟨hargs, hsz, hP, hK, hD0⟩ := hv
  have hx := B.exec
  have hb := B.bytes
  have hr := B.returns
  have hts := atoms_spec (ws := wsJ7_fill_d0a16) B.pre
  have hown : s.vm.findClass RJ7 = some m.cls := findClass_of_methodNamed B.named
  have hlocks := B.notSynchronized
  subst hsz
  have hD := hD0.self (sz := s.heap.size)
  generalize hAe : va_A [(q, .inl (cJ, len, .inr (.inl st)))] s.heap.size = A at hD ⊢
  have hA : ∀ q : Nat, s.heap.size ≤ q → A q := fun q h => by rw [← hAe]; exact Or.inr h
  have hl := lv_entry ([.ref q, .long x1]) (n := 5) (Nat.le_of_ble_eq_true rfl)
  refine W.eq (hargs ▸ lg_entry_eq m [.ref q, .long x1] 5) ?_
  generalize (lg_sl ([.ref q, .long x1]) ++ List.replicate (5 - (lg_sl ([.ref q, .long x1])).length) Slot.unset).toArray = ls at hl ⊢
  have hl : lv_has ls 5 [(0, .ref q), (1, .long x1)] := hl
  obtain ⟨QQ, hQ⟩ : ∃ QQ : State → Prop, QQ = MQ below (Qm (dC, dI) none [(q, .inl (cJ, len, .inr (.inl res)))] A) args s 0 0 (A) := ⟨_, rfl⟩
  rw [← hQ]
  have l6 : ∀ (x1 : Int64) (x4 : Int32) (fu : Nat) (s0 : (Nat → Int64) × Int32) (r : (Nat → Int64) × Int32), loopN (fun (s : (Nat → Int64) × Int32) => fJ7_fill_d0a16_l6 len x1 x4 s.1 s.2) fu s0 = some r → (∀ (H : Heap) (locs : List Loc) (ls : Array Slot), IN (dC, dI) [(q, .inl (cJ, len, .inr (.inl r.1)))] A s.heap H locs → lv_has ls 5 [(0, .ref q), (1, .long x1), (3, .int r.2), (4, .int x4)] → W p l e (headSpec wsJ7_fill_d0a16 rJ7_fill_d0a16).room s m args below meth c H locs 0 0 QQ (F0 m 22 ls [])) → (∀ (H : Heap) (locs : List Loc) (ls : Array Slot), IN (dC, dI) [(q, .inl (cJ, len, .inr (.inl s0.1)))] A s.heap H locs → lv_has ls 5 [(0, .ref q), (1, .long x1), (3, .int s0.2), (4, .int x4)] → W p l e (headSpec wsJ7_fill_d0a16 rJ7_fill_d0a16).room s m args below meth c H locs 0 0 QQ (F0 m 6 ls [])) := by
    intro x1 x4 fu s0 r
    refine loop_ind (P := fun s0 => ∀ (H : Heap) (locs : List Loc) (ls : Array Slot), IN (dC, dI) [(q, .inl (cJ, len, .inr (.inl s0.1)))] A s.heap H locs → lv_has ls 5 [(0, .ref q), (1, .long x1), (3, .int s0.2), (4, .int x4)] → W p l e (headSpec wsJ7_fill_d0a16 rJ7_fill_d0a16).room s m args below meth c H locs 0 0 QQ (F0 m 6 ls [])) (Q := fun r => ∀ (H : Heap) (locs : List Loc) (ls : Array Slot), IN (dC, dI) [(q, .inl (cJ, len, .inr (.inl r.1)))] A s.heap H locs → lv_has ls 5 [(0, .ref q), (1, .long x1), (3, .int r.2), (4, .int x4)] → W p l e (headSpec wsJ7_fill_d0a16 rJ7_fill_d0a16).room s m args below meth c H locs 0 0 QQ (F0 m 22 ls [])) ?_ fu s0 r
    clear fu s0 r
    rintro ⟨st, x3⟩ x hf kc ke
    replace hf : fJ7_fill_d0a16_l6 len x1 x4 st x3 = some x := hf
    replace kc : (∀ s', x = .inl s' → (∀ (H : Heap) (locs : List Loc) (ls : Array Slot), IN (dC, dI) [(q, .inl (cJ, len, .inr (.inl s'.1)))] A s.heap H locs → lv_has ls 5 [(0, .ref q), (1, .long x1), (3, .int s'.2), (4, .int x4)] → W p l e (headSpec wsJ7_fill_d0a16 rJ7_fill_d0a16).room s m args below meth c H locs 0 0 QQ (F0 m 6 ls []))) := kc
    replace ke : (∀ r, x = .inr r → (∀ (H : Heap) (locs : List Loc) (ls : Array Slot), IN (dC, dI) [(q, .inl (cJ, len, .inr (.inl r.1)))] A s.heap H locs → lv_has ls 5 [(0, .ref q), (1, .long x1), (3, .int r.2), (4, .int x4)] → W p l e (headSpec wsJ7_fill_d0a16 rJ7_fill_d0a16).room s m args below meth c H locs 0 0 QQ (F0 m 22 ls []))) := ke
    intro H locs ls hin hl
    obtain ⟨hP, hD, hS⟩ := hin
    unfold fJ7_fill_d0a16_l6 at hf
    refine lv_iload_n hx hb dJ7_fill_d0a16_6 rfl (lv_at hl 2 rfl) ?_
    refine lv_iload hx hb dJ7_fill_d0a16_7 (lv_at hl 3 rfl) ?_
    refine lv_icmp_ge (tgt := 22) hx hb dJ7_fill_d0a16_9 (by decide) (fun c1 => ?_) (fun c1 => ?_)
    · replace hf := it_p c1 hf
      obtain rfl := Option.some.inj hf
      exact ke _ rfl H locs ls ⟨hP, hD, hS⟩ (lv_sub hl [0, 1, 2, 3] rfl)
    · replace hf := it_n c1 hf
      refine lv_aload_n hx hb dJ7_fill_d0a16_12 rfl (lv_at hl 0 rfl) ?_
      refine lv_iload_n hx hb dJ7_fill_d0a16_13 rfl (lv_at hl 2 rfl) ?_
      refine lv_lload_n hx hb dJ7_fill_d0a16_14 rfl (lv_at hl 1 rfl) ?_
      obtain ⟨hi2, hf⟩ := it_s hf
      refine va_last hx hb hK hP hD hS 0 1 rfl rfl (inb_in hi2) dJ7_fill_d0a16_15 (fun H locs hP hD hS => ?_)
      replace hP : va_P (dC, dI) vwCl [(q, .inl (cJ, len, .inr (.inl (vp_updL st (x3).toNatClampNeg x1))))] H := hP
      replace hD : va_D A [(q, .inl (cJ, len, .inr (.inl (vp_updL st (x3).toNatClampNeg x1))))] := hD
      refine lv_iinc (v := (x3 + (1 : Int32))) (lv' := [(3, .int (x3 + (1 : Int32))), (0, .ref q), (1, .long x1), (4, .int x4)]) hx hb dJ7_fill_d0a16_16 hl (k := 2) rfl rfl (by decide) rfl (fun ls hl => ?_)
      refine lv_goto (tgt := 6) hx hb dJ7_fill_d0a16_19 (by decide) ?_
      obtain rfl := Option.some.inj hf
      exact kc _ rfl H locs ls ⟨hP, hD, hS⟩ (lv_sub hl [1, 2, 0, 3] rfl)
  have main : ∀ (H : Heap) (locs : List Loc) (ls : Array Slot), IN (dC, dI) [(q, .inl (cJ, len, .inr (.inl st)))] A s.heap H locs → lv_has ls 5 [(0, .ref q), (1, .long x1)] → W p l e (headSpec wsJ7_fill_d0a16 rJ7_fill_d0a16).room s m args below meth c H locs 0 0 QQ (F0 m 0 ls []) := by
    intro H locs ls hin hl
    obtain ⟨hP, hD, hS⟩ := hin
    unfold fJ7_fill_d0a16 at hf
    refine lv_iconst (v := (0 : Int32)) hx hb dJ7_fill_d0a16_0 (by decide) ?_
    refine lv_istore_n (lv' := [(3, .int (0 : Int32)), (0, .ref q), (1, .long x1)]) hx hb dJ7_fill_d0a16_1 rfl hl (by decide) rfl (fun ls hl => ?_)
    refine lv_aload_n hx hb dJ7_fill_d0a16_2 rfl (lv_at hl 1 rfl) ?_
    refine va_alen hx hb hK hP 0 1 rfl rfl rfl dJ7_fill_d0a16_3 ?_
    refine lv_istore (lv' := [(4, .int (Int32.ofNat len)), (3, .int (0 : Int32)), (0, .ref q), (1, .long x1)]) hx hb dJ7_fill_d0a16_4 hl (by decide) rfl (fun ls hl => ?_)
    obtain ⟨y3, hlp, hf⟩ := bind_s hf
    refine l6 x1 (Int32.ofNat len) fuelN (st, (0 : Int32)) y3 hlp ?_ H locs ls ⟨hP, hD, hS⟩ (lv_sub hl [2, 3, 1, 0] rfl)
    intro H locs ls hin hl
    obtain ⟨hP, hD, hS⟩ := hin
    obtain rfl := Option.some.inj hf
    rw [hQ]
    exact W.vret hx hb hr (fun t ht hW => ⟨rfl, ⟨by rw [ht]; exact hP, hD⟩, hS.F ht⟩) hS.2.2 dJ7_fill_d0a16_22
  exact main s.heap [] ls ⟨hP, hD, va_S.rf⟩ hl
def rX2_add : Room := { frames := 0, cells := 0, slots := 0, locals := 0 }
theorem kX2_add_X2 : ∀ w ∈ wsX20, w ∈ wsX2_add := fun w h => (List.mem_cons_of_mem _ (List.mem_append_right _ h))
theorem mX2_add_1 : Cond.fieldLink RX2 30 "SmokeLedger$Rows" "size" "I" ∈ wsX2_add := List.mem_of_getElem? (i := 1) rfl
theorem mX2_add_2 : Cond.fieldLink RX2 9 "SmokeLedger$Rows" "unit" "[I" ∈ wsX2_add := List.mem_of_getElem? (i := 2) rfl
theorem mX2_add_3 : Cond.fieldLink RX2 15 "SmokeLedger$Rows" "kind" "[I" ∈ wsX2_add := List.mem_of_getElem? (i := 3) rfl
theorem mX2_add_4 : Cond.fieldLink RX2 18 "SmokeLedger$Rows" "amount" "[I" ∈ wsX2_add := List.mem_of_getElem? (i := 4) rfl
theorem mX2_add_5 : Cond.fieldLink RX2 21 "SmokeLedger$Rows" "day" "[I" ∈ wsX2_add := List.mem_of_getElem? (i := 5) rfl
theorem mX2_add_6 : Cond.fieldLink RX2 24 "SmokeLedger$Rows" "seller" "[I" ∈ wsX2_add := List.mem_of_getElem? (i := 6) rfl
set_option maxHeartbeats 4000000 in
set_option maxRecDepth 100000 in
theorem ct_X2_add (l : Launch) (dC : Nat → ClassId) (dI : Nat → Nat → Nat) (a b : Nat → Nat) (cI cJ cZ : ClassId) (sz : Nat) (st : RS) (x1 : Int32) (x2 : Int32) (x3 : Int32) (x4 : Int32) (x5 : Int32) (res : Int32 × RS) (hf : fX2_add st x1 x2 x3 x4 x5 = some res) : Met l yX2_add wsX2_add rX2_add (Pm (dC, dI) (tyT cI cJ cZ) (WX2 a b cI cJ cZ st) sz [.ref (a 12), .int x1, .int x2, .int x3, .int x4, .int x5]) (Qm (dC, dI) (some (.int res.1)) (WX2 a b cI cJ cZ res.2) (va_A (WX2 a b cI cJ cZ st) sz)) 0 0 (va_A (WX2 a b cI cJ cZ st) sz) := by
  refine Met.ofW (cc := cX2_add) (maxL := 6) (ret := (some .int)) (by decide) rfl ?_
  intro p e s m args below meth c s₁ B hml hv
  obtain ⟨hargs, hsz, hP, hK, hD0⟩ := hv
  have hx := B.exec
  have hb := B.bytes
  have hr := B.returns
  have hts := atoms_spec (ws := wsX2_add) B.pre
  have hown : s.vm.findClass RX2 = some m.cls := findClass_of_methodNamed B.named
  have hlocks := B.notSynchronized
  subst hsz
  have hD := hD0.self (sz := s.heap.size)
  generalize hAe : va_A (WX2 a b cI cJ cZ st) s.heap.size = A at hD ⊢
  have hA : ∀ q : Nat, s.heap.size ≤ q → A q := fun q h => by rw [← hAe]; exact Or.inr h
  have hl := lv_entry ([.ref (a 12), .int x1, .int x2, .int x3, .int x4, .int x5]) (n := 6) (Nat.le_of_ble_eq_true rfl)
  refine W.eq (hargs ▸ lg_entry_eq m [.ref (a 12), .int x1, .int x2, .int x3, .int x4, .int x5] 6) ?_
  generalize (lg_sl ([.ref (a 12), .int x1, .int x2, .int x3, .int x4, .int x5]) ++ List.replicate (6 - (lg_sl ([.ref (a 12), .int x1, .int x2, .int x3, .int x4, .int x5])).length) Slot.unset).toArray = ls at hl ⊢
  have hl : lv_has ls 6 [(0, .ref (a 12)), (1, .int x1), (2, .int x2), (3, .int x3), (4, .int x4), (5, .int x5)] := hl
  obtain ⟨QQ, hQ⟩ : ∃ QQ : State → Prop, QQ = MQ below (Qm (dC, dI) (some (.int res.1)) (WX2 a b cI cJ cZ res.2) A) args s 0 0 (A) := ⟨_, rfl⟩
  rw [← hQ]
  have main : ∀ (H : Heap) (locs : List Loc) (ls : Array Slot), IN (dC, dI) (WX2 a b cI cJ cZ st) A s.heap H locs → lv_has ls 6 [(0, .ref (a 12)), (1, .int x1), (2, .int x2), (3, .int x3), (4, .int x4), (5, .int x5)] → W p l e (headSpec wsX2_add rX2_add).room s m args below meth c H locs 0 0 QQ (F0 m 0 ls []) := by
    intro H locs ls hin hl
    obtain ⟨hP, hD, hS⟩ := hin
    unfold fX2_add at hf
    refine lv_aload_n hx hb dX2_add_0 rfl (lv_at hl 0 rfl) ?_
    refine va_get (D := (dC, dI)) (ci := 2) (v := .int (RS_size st)) (C := RX2) (T := TX2) (N := 7) hx hb hts kX2_add_X2 hown hK hP 0 rfl rfl 6 (by decide) (hts _ mX2_add_1) (fun _ h9 => h9) rfl dX2_add_1 ?_
    refine lv_sipush (v := (200 : Int32)) hx hb dX2_add_4 (by decide) ?_
    refine lv_icmp_lt (tgt := 13) hx hb dX2_add_7 (by decide) (fun c1 => ?_) (fun c1 => ?_)
    · replace hf := it_p c1 hf
      refine lv_aload_n hx hb dX2_add_13 rfl (lv_at hl 0 rfl) ?_
      refine va_get (D := (dC, dI)) (ci := 2) (v := .ref (a 13)) (C := RX2) (T := TX2) (N := 7) hx hb hts kX2_add_X2 hown hK hP 0 rfl rfl 0 (by decide) (hts _ mX2_add_2) (fun _ h9 => h9) rfl dX2_add_14 ?_
      refine lv_aload_n hx hb dX2_add_17 rfl (lv_at hl 0 rfl) ?_
      refine va_get (D := (dC, dI)) (ci := 2) (v := .int (RS_size st)) (C := RX2) (T := TX2) (N := 7) hx hb hts kX2_add_X2 hown hK hP 0 rfl rfl 6 (by decide) (hts _ mX2_add_1) (fun _ h9 => h9) rfl dX2_add_18 ?_
      refine lv_iload_n hx hb dX2_add_21 rfl (lv_at hl 1 rfl) ?_
      obtain ⟨hi2, hf⟩ := it_s hf
      refine va_iast hx hb hK hP hD hS 1 0 rfl rfl (inb_in hi2) dX2_add_22 (fun H locs hP hD hS => ?_)
      replace hP : va_P (dC, dI) vwCl (WX2 a b cI cJ cZ (RS_unit_s st (upd (RS_unit st) ((RS_size st)).toNatClampNeg x1))) H := hP
      replace hD : va_D A (WX2 a b cI cJ cZ (RS_unit_s st (upd (RS_unit st) ((RS_size st)).toNatClampNeg x1))) := hD
      refine lv_aload_n hx hb dX2_add_23 rfl (lv_at hl 0 rfl) ?_
      refine va_get (D := (dC, dI)) (ci := 2) (v := .ref (a 14)) (C := RX2) (T := TX2) (N := 7) hx hb hts kX2_add_X2 hown hK hP 0 rfl rfl 1 (by decide) (hts _ mX2_add_3) (fun _ h9 => h9) rfl dX2_add_24 ?_
      refine lv_aload_n hx hb dX2_add_27 rfl (lv_at hl 0 rfl) ?_
      refine va_get (D := (dC, dI)) (ci := 2) (v := .int (RS_size st)) (C := RX2) (T := TX2) (N := 7) hx hb hts kX2_add_X2 hown hK hP 0 rfl rfl 6 (by decide) (hts _ mX2_add_1) (fun _ h9 => h9) rfl dX2_add_28 ?_
      refine lv_iload_n hx hb dX2_add_31 rfl (lv_at hl 2 rfl) ?_
      obtain ⟨hi3, hf⟩ := it_s hf
      refine va_iast hx hb hK hP hD hS 2 0 rfl rfl (inb_in hi3) dX2_add_32 (fun H locs hP hD hS => ?_)
      replace hP : va_P (dC, dI) vwCl (WX2 a b cI cJ cZ (RS_kind_s (RS_unit_s st (upd (RS_unit st) ((RS_size st)).toNatClampNeg x1)) (upd (RS_kind st) ((RS_size st)).toNatClampNeg x2))) H := hP
      replace hD : va_D A (WX2 a b cI cJ cZ (RS_kind_s (RS_unit_s st (upd (RS_unit st) ((RS_size st)).toNatClampNeg x1)) (upd (RS_kind st) ((RS_size st)).toNatClampNeg x2))) := hD
      refine lv_aload_n hx hb dX2_add_33 rfl (lv_at hl 0 rfl) ?_
      refine va_get (D := (dC, dI)) (ci := 2) (v := .ref (a 15)) (C := RX2) (T := TX2) (N := 7) hx hb hts kX2_add_X2 hown hK hP 0 rfl rfl 2 (by decide) (hts _ mX2_add_4) (fun _ h9 => h9) rfl dX2_add_34 ?_
      refine lv_aload_n hx hb dX2_add_37 rfl (lv_at hl 0 rfl) ?_
      refine va_get (D := (dC, dI)) (ci := 2) (v := .int (RS_size st)) (C := RX2) (T := TX2) (N := 7) hx hb hts kX2_add_X2 hown hK hP 0 rfl rfl 6 (by decide) (hts _ mX2_add_1) (fun _ h9 => h9) rfl dX2_add_38 ?_
      refine lv_iload_n hx hb dX2_add_41 rfl (lv_at hl 3 rfl) ?_
      obtain ⟨hi4, hf⟩ := it_s hf
      refine va_iast hx hb hK hP hD hS 3 0 rfl rfl (inb_in hi4) dX2_add_42 (fun H locs hP hD hS => ?_)
      replace hP : va_P (dC, dI) vwCl (WX2 a b cI cJ cZ (RS_amount_s (RS_kind_s (RS_unit_s st (upd (RS_unit st) ((RS_size st)).toNatClampNeg x1)) (upd (RS_kind st) ((RS_size st)).toNatClampNeg x2)) (upd (RS_amount st) ((RS_size st)).toNatClampNeg x3))) H := hP
      replace hD : va_D A (WX2 a b cI cJ cZ (RS_amount_s (RS_kind_s (RS_unit_s st (upd (RS_unit st) ((RS_size st)).toNatClampNeg x1)) (upd (RS_kind st) ((RS_size st)).toNatClampNeg x2)) (upd (RS_amount st) ((RS_size st)).toNatClampNeg x3))) := hD
      refine lv_aload_n hx hb dX2_add_43 rfl (lv_at hl 0 rfl) ?_
      refine va_get (D := (dC, dI)) (ci := 2) (v := .ref (a 16)) (C := RX2) (T := TX2) (N := 7) hx hb hts kX2_add_X2 hown hK hP 0 rfl rfl 3 (by decide) (hts _ mX2_add_5) (fun _ h9 => h9) rfl dX2_add_44 ?_
      refine lv_aload_n hx hb dX2_add_47 rfl (lv_at hl 0 rfl) ?_
      refine va_get (D := (dC, dI)) (ci := 2) (v := .int (RS_size st)) (C := RX2) (T := TX2) (N := 7) hx hb hts kX2_add_X2 hown hK hP 0 rfl rfl 6 (by decide) (hts _ mX2_add_1) (fun _ h9 => h9) rfl dX2_add_48 ?_
      refine lv_iload hx hb dX2_add_51 (lv_at hl 4 rfl) ?_
      obtain ⟨hi5, hf⟩ := it_s hf
      refine va_iast hx hb hK hP hD hS 4 0 rfl rfl (inb_in hi5) dX2_add_53 (fun H locs hP hD hS => ?_)
      replace hP : va_P (dC, dI) vwCl (WX2 a b cI cJ cZ (RS_day_s (RS_amount_s (RS_kind_s (RS_unit_s st (upd (RS_unit st) ((RS_size st)).toNatClampNeg x1)) (upd (RS_kind st) ((RS_size st)).toNatClampNeg x2)) (upd (RS_amount st) ((RS_size st)).toNatClampNeg x3)) (upd (RS_day st) ((RS_size st)).toNatClampNeg x4))) H := hP
      replace hD : va_D A (WX2 a b cI cJ cZ (RS_day_s (RS_amount_s (RS_kind_s (RS_unit_s st (upd (RS_unit st) ((RS_size st)).toNatClampNeg x1)) (upd (RS_kind st) ((RS_size st)).toNatClampNeg x2)) (upd (RS_amount st) ((RS_size st)).toNatClampNeg x3)) (upd (RS_day st) ((RS_size st)).toNatClampNeg x4))) := hD
      refine lv_aload_n hx hb dX2_add_54 rfl (lv_at hl 0 rfl) ?_
      refine va_get (D := (dC, dI)) (ci := 2) (v := .ref (a 17)) (C := RX2) (T := TX2) (N := 7) hx hb hts kX2_add_X2 hown hK hP 0 rfl rfl 4 (by decide) (hts _ mX2_add_6) (fun _ h9 => h9) rfl dX2_add_55 ?_
      refine lv_aload_n hx hb dX2_add_58 rfl (lv_at hl 0 rfl) ?_
      refine va_get (D := (dC, dI)) (ci := 2) (v := .int (RS_size st)) (C := RX2) (T := TX2) (N := 7) hx hb hts kX2_add_X2 hown hK hP 0 rfl rfl 6 (by decide) (hts _ mX2_add_1) (fun _ h9 => h9) rfl dX2_add_59 ?_
      refine lv_iload hx hb dX2_add_62 (lv_at hl 5 rfl) ?_
      obtain ⟨hi6, hf⟩ := it_s hf
      refine va_iast hx hb hK hP hD hS 5 0 rfl rfl (inb_in hi6) dX2_add_64 (fun H locs hP hD hS => ?_)
      replace hP : va_P (dC, dI) vwCl (WX2 a b cI cJ cZ (RS_seller_s (RS_day_s (RS_amount_s (RS_kind_s (RS_unit_s st (upd (RS_unit st) ((RS_size st)).toNatClampNeg x1)) (upd (RS_kind st) ((RS_size st)).toNatClampNeg x2)) (upd (RS_amount st) ((RS_size st)).toNatClampNeg x3)) (upd (RS_day st) ((RS_size st)).toNatClampNeg x4)) (upd (RS_seller st) ((RS_size st)).toNatClampNeg x5))) H := hP
      replace hD : va_D A (WX2 a b cI cJ cZ (RS_seller_s (RS_day_s (RS_amount_s (RS_kind_s (RS_unit_s st (upd (RS_unit st) ((RS_size st)).toNatClampNeg x1)) (upd (RS_kind st) ((RS_size st)).toNatClampNeg x2)) (upd (RS_amount st) ((RS_size st)).toNatClampNeg x3)) (upd (RS_day st) ((RS_size st)).toNatClampNeg x4)) (upd (RS_seller st) ((RS_size st)).toNatClampNeg x5))) := hD
      refine lv_aload_n hx hb dX2_add_65 rfl (lv_at hl 0 rfl) ?_
      refine lv_dup hx hb dX2_add_66 rfl ?_
      refine va_get (D := (dC, dI)) (ci := 2) (v := .int (RS_size st)) (C := RX2) (T := TX2) (N := 7) hx hb hts kX2_add_X2 hown hK hP 0 rfl rfl 6 (by decide) (hts _ mX2_add_1) (fun _ h9 => h9) rfl dX2_add_67 ?_
      refine lv_iconst (v := (1 : Int32)) hx hb dX2_add_70 (by decide) ?_
      refine lv_iadd hx hb dX2_add_71 ?_
      refine va_put (D := (dC, dI)) (ci := 2) (v := .int ((RS_size st) + (1 : Int32))) (ty := .int) (C := RX2) (T := TX2) (N := 7) hx hb hts kX2_add_X2 tyX2 tyX2_ok nmX2 hown hK hP hD hS 0 rfl rfl 6 (by decide) (hts _ mX2_add_1) (fun _ h9 => h9) rfl (by decide +kernel) rfl rfl (Nat.le_of_ble_eq_true rfl) dX2_add_72 (fun H locs hP hD hS => ?_)
      replace hP : va_P (dC, dI) vwCl (WX2 a b cI cJ cZ (RS_size_s (RS_seller_s (RS_day_s (RS_amount_s (RS_kind_s (RS_unit_s st (upd (RS_unit st) ((RS_size st)).toNatClampNeg x1)) (upd (RS_kind st) ((RS_size st)).toNatClampNeg x2)) (upd (RS_amount st) ((RS_size st)).toNatClampNeg x3)) (upd (RS_day st) ((RS_size st)).toNatClampNeg x4)) (upd (RS_seller st) ((RS_size st)).toNatClampNeg x5)) ((RS_size st) + (1 : Int32)))) H := hP
      replace hD : va_D A (WX2 a b cI cJ cZ (RS_size_s (RS_seller_s (RS_day_s (RS_amount_s (RS_kind_s (RS_unit_s st (upd (RS_unit st) ((RS_size st)).toNatClampNeg x1)) (upd (RS_kind st) ((RS_size st)).toNatClampNeg x2)) (upd (RS_amount st) ((RS_size st)).toNatClampNeg x3)) (upd (RS_day st) ((RS_size st)).toNatClampNeg x4)) (upd (RS_seller st) ((RS_size st)).toNatClampNeg x5)) ((RS_size st) + (1 : Int32)))) := hD
      refine lv_aload_n hx hb dX2_add_75 rfl (lv_at hl 0 rfl) ?_
      refine va_get (D := (dC, dI)) (ci := 2) (v := .int ((RS_size st) + (1 : Int32))) (C := RX2) (T := TX2) (N := 7) hx hb hts kX2_add_X2 hown hK hP 0 rfl rfl 6 (by decide) (hts _ mX2_add_1) (fun _ h9 => h9) rfl dX2_add_76 ?_
      refine lv_iconst (v := (1 : Int32)) hx hb dX2_add_79 (by decide) ?_
      refine lv_isub hx hb dX2_add_80 ?_
      obtain rfl := Option.some.inj hf
      rw [hQ]
      exact W.iret hx hb hr (fun t ht hW => ⟨rfl, ⟨by rw [ht]; exact hP, hD⟩, hS.F ht⟩) hS.2.2 dX2_add_81
    · replace hf := it_n c1 hf
      refine lv_bipush (v := (-4 : Int32)) hx hb dX2_add_10 (by decide) ?_
      obtain rfl := Option.some.inj hf
      rw [hQ]
      exact W.iret hx hb hr (fun t ht hW => ⟨rfl, ⟨by rw [ht]; exact hP, hD⟩, hS.F ht⟩) hS.2.2 dX2_add_12
  exact main s.heap [] ls ⟨hP, hD, va_S.rf⟩ hl
def rX2_yearOf : Room := { frames := 0, cells := 0, slots := 0, locals := 0 }
theorem kX2_yearOf_X2 : ∀ w ∈ wsX20, w ∈ wsX2_yearOf := fun w h => (List.mem_cons_of_mem _ (List.mem_append_right _ h))
theorem mX2_yearOf_1 : Cond.fieldLink RX2 21 "SmokeLedger$Rows" "day" "[I" ∈ wsX2_yearOf := List.mem_of_getElem? (i := 1) rfl
set_option maxHeartbeats 4000000 in
set_option maxRecDepth 100000 in
theorem ct_X2_yearOf (l : Launch) (dC : Nat → ClassId) (dI : Nat → Nat → Nat) (a b : Nat → Nat) (cI cJ cZ : ClassId) (st : RS) (x1 : Int32) (res : Int32) (hf : fX2_yearOf st x1 = some res) : Met l yX2_yearOf wsX2_yearOf rX2_yearOf (Pp (dC, dI) (tyT cI cJ cZ) (WX2 a b cI cJ cZ st) [.ref (a 12), .int x1]) (Qp (.int res)) 0 0 (fun _ => False) := by
  refine Met.ofW (cc := cX2_yearOf) (maxL := 2) (ret := (some .int)) (by decide) rfl ?_
  intro p e s m args below meth c s₁ B hml hv
  obtain ⟨hargs, hP, hK⟩ := hv
  have hx := B.exec
  have hb := B.bytes
  have hr := B.returns
  have hts := atoms_spec (ws := wsX2_yearOf) B.pre
  have hown : s.vm.findClass RX2 = some m.cls := findClass_of_methodNamed B.named
  have hlocks := B.notSynchronized
  have hP : va_P (dC, dI) vwCl (WX2 a b cI cJ cZ st) s.heap := hP
  have hl := lv_entry ([.ref (a 12), .int x1]) (n := 2) (Nat.le_of_ble_eq_true rfl)
  refine W.eq (hargs ▸ lg_entry_eq m [.ref (a 12), .int x1] 2) ?_
  generalize (lg_sl ([.ref (a 12), .int x1]) ++ List.replicate (2 - (lg_sl ([.ref (a 12), .int x1])).length) Slot.unset).toArray = ls at hl ⊢
  have hl : lv_has ls 2 [(0, .ref (a 12)), (1, .int x1)] := hl
  obtain ⟨QQ, hQ⟩ : ∃ QQ : State → Prop, QQ = MQ below (Qp (.int res)) args s 0 0 (fun _ => False) := ⟨_, rfl⟩
  rw [← hQ]
  unfold fX2_yearOf at hf
  refine lv_aload_n hx hb dX2_yearOf_0 rfl (lv_at hl 0 rfl) ?_
  refine va_get (D := (dC, dI)) (ci := 2) (v := .ref (a 16)) (C := RX2) (T := TX2) (N := 7) hx hb hts kX2_yearOf_X2 hown hK hP 0 rfl rfl 3 (by decide) (hts _ mX2_yearOf_1) (fun _ h9 => h9) rfl dX2_yearOf_1 ?_
  refine lv_iload_n hx hb dX2_yearOf_4 rfl (lv_at hl 1 rfl) ?_
  obtain ⟨hi1, hf⟩ := it_s hf
  refine va_iald hx hb hK hP 4 0 rfl rfl (inb_in hi1) dX2_yearOf_5 ?_
  refine lv_sipush (v := (365 : Int32)) hx hb dX2_yearOf_6 (by decide) ?_
  refine lv_idiv hx hb dX2_yearOf_9 (by decide) ?_
  obtain rfl := Option.some.inj hf
  rw [hQ]
  exact W.iret hx hb hr (fun t ht hW => ⟨rfl, ht⟩) (fun q hq => absurd hq List.not_mem_nil) dX2_yearOf_10
def rX2_isOfYear : Room := { frames := 1, cells := 0, slots := 0, locals := 21 }
set_option maxHeartbeats 4000000 in
set_option maxRecDepth 100000 in
theorem ct_X2_isOfYear (l : Launch) (dC : Nat → ClassId) (dI : Nat → Nat → Nat) (a b : Nat → Nat) (cI cJ cZ : ClassId) (st : RS) (x1 : Int32) (x2 : Int32) (res : Int32) (hf : fX2_isOfYear st x1 x2 = some res) : Met l yX2_isOfYear wsX2_isOfYear rX2_isOfYear (Pp (dC, dI) (tyT cI cJ cZ) (WX2 a b cI cJ cZ st) [.ref (a 12), .int x1, .int x2]) (Qp (.int res)) 0 0 (fun _ => False) := by
  refine Met.ofW (cc := cX2_isOfYear) (maxL := 3) (ret := (some .boolean)) (by decide) rfl ?_
  intro p e s m args below meth c s₁ B hml hv
  obtain ⟨hargs, hP, hK⟩ := hv
  have hx := B.exec
  have hb := B.bytes
  have hr := B.returns
  have hts := atoms_spec (ws := wsX2_isOfYear) B.pre
  have hown : s.vm.findClass RX2 = some m.cls := findClass_of_methodNamed B.named
  have hlocks := B.notSynchronized
  have hP : va_P (dC, dI) vwCl (WX2 a b cI cJ cZ st) s.heap := hP
  have hl := lv_entry ([.ref (a 12), .int x1, .int x2]) (n := 3) (Nat.le_of_ble_eq_true rfl)
  refine W.eq (hargs ▸ lg_entry_eq m [.ref (a 12), .int x1, .int x2] 3) ?_
  generalize (lg_sl ([.ref (a 12), .int x1, .int x2]) ++ List.replicate (3 - (lg_sl ([.ref (a 12), .int x1, .int x2])).length) Slot.unset).toArray = ls at hl ⊢
  have hl : lv_has ls 3 [(0, .ref (a 12)), (1, .int x1), (2, .int x2)] := hl
  obtain ⟨QQ, hQ⟩ : ∃ QQ : State → Prop, QQ = MQ below (Qp (.int res)) args s 0 0 (fun _ => False) := ⟨_, rfl⟩
  rw [← hQ]
  unfold fX2_isOfYear at hf
  refine lv_aload_n hx hb dX2_isOfYear_0 rfl (lv_at hl 0 rfl) ?_
  refine lv_iload_n hx hb dX2_isOfYear_1 rfl (lv_at hl 1 rfl) ?_
  obtain ⟨r1, hc2, hf⟩ := bind_s hf
  refine cpV (v := .int r1) ⟨hx, hb, hml, hown, hts⟩ (ct_X2_yearOf l dC dI a b cI cJ cZ st x1 r1 hc2) (cwV 1 hts gX2_isOfYear_X2_yearOf rfl rfl rfl (by decide +kernel) ⟨(Nat.le_of_ble_eq_true rfl), (Nat.le_of_ble_eq_true rfl)⟩) hK hP [0, 1, 2, 3, 4, 5, 6] rfl rfl rfl rfl hl.1 rfl (Nat.le_of_ble_eq_true rfl) (Nat.le_of_ble_eq_true rfl) (Nat.le_of_ble_eq_true rfl) dX2_isOfYear_2 ?_
  refine lv_iload_n hx hb dX2_isOfYear_5 rfl (lv_at hl 2 rfl) ?_
  refine lv_icmp_ne (tgt := 13) hx hb dX2_isOfYear_6 (by decide) (fun c3 => ?_) (fun c3 => ?_)
  · replace hf := it_n c3 hf
    refine lv_iconst (v := (0 : Int32)) hx hb dX2_isOfYear_13 (by decide) ?_
    obtain rfl := Option.some.inj hf
    rw [hQ]
    exact W.zret hx hb hr rfl (fun t ht hW => ⟨rfl, ht⟩) (fun q hq => absurd hq List.not_mem_nil) dX2_isOfYear_14
  · replace hf := it_p c3 hf
    refine lv_iconst (v := (1 : Int32)) hx hb dX2_isOfYear_9 (by decide) ?_
    refine lv_goto (tgt := 14) hx hb dX2_isOfYear_10 (by decide) ?_
    obtain rfl := Option.some.inj hf
    rw [hQ]
    exact W.zret hx hb hr rfl (fun t ht hW => ⟨rfl, ht⟩) (fun q hq => absurd hq List.not_mem_nil) dX2_isOfYear_14
def rX2_uncovered : Room := { frames := 0, cells := 0, slots := 0, locals := 0 }
theorem kX2_uncovered_X2 : ∀ w ∈ wsX20, w ∈ wsX2_uncovered := fun w h => (List.mem_cons_of_mem _ (List.mem_append_right _ h))
theorem mX2_uncovered_1 : Cond.fieldLink RX2 18 "SmokeLedger$Rows" "amount" "[I" ∈ wsX2_uncovered := List.mem_of_getElem? (i := 1) rfl
theorem mX2_uncovered_2 : Cond.fieldLink RX2 27 "SmokeLedger$Rows" "covered" "[I" ∈ wsX2_uncovered := List.mem_of_getElem? (i := 2) rfl
set_option maxHeartbeats 4000000 in
set_option maxRecDepth 100000 in
theorem ct_X2_uncovered (l : Launch) (dC : Nat → ClassId) (dI : Nat → Nat → Nat) (a b : Nat → Nat) (cI cJ cZ : ClassId) (st : RS) (x1 : Int32) (res : Int32) (hf : fX2_uncovered st x1 = some res) : Met l yX2_uncovered wsX2_uncovered rX2_uncovered (Pp (dC, dI) (tyT cI cJ cZ) (WX2 a b cI cJ cZ st) [.ref (a 12), .int x1]) (Qp (.int res)) 0 0 (fun _ => False) := by
  refine Met.ofW (cc := cX2_uncovered) (maxL := 2) (ret := (some .int)) (by decide) rfl ?_
  intro p e s m args below meth c s₁ B hml hv
  obtain ⟨hargs, hP, hK⟩ := hv
  have hx := B.exec
  have hb := B.bytes
  have hr := B.returns
  have hts := atoms_spec (ws := wsX2_uncovered) B.pre
  have hown : s.vm.findClass RX2 = some m.cls := findClass_of_methodNamed B.named
  have hlocks := B.notSynchronized
  have hP : va_P (dC, dI) vwCl (WX2 a b cI cJ cZ st) s.heap := hP
  have hl := lv_entry ([.ref (a 12), .int x1]) (n := 2) (Nat.le_of_ble_eq_true rfl)
  refine W.eq (hargs ▸ lg_entry_eq m [.ref (a 12), .int x1] 2) ?_
  generalize (lg_sl ([.ref (a 12), .int x1]) ++ List.replicate (2 - (lg_sl ([.ref (a 12), .int x1])).length) Slot.unset).toArray = ls at hl ⊢
  have hl : lv_has ls 2 [(0, .ref (a 12)), (1, .int x1)] := hl
  obtain ⟨QQ, hQ⟩ : ∃ QQ : State → Prop, QQ = MQ below (Qp (.int res)) args s 0 0 (fun _ => False) := ⟨_, rfl⟩
  rw [← hQ]
  unfold fX2_uncovered at hf
  refine lv_aload_n hx hb dX2_uncovered_0 rfl (lv_at hl 0 rfl) ?_
  refine va_get (D := (dC, dI)) (ci := 2) (v := .ref (a 15)) (C := RX2) (T := TX2) (N := 7) hx hb hts kX2_uncovered_X2 hown hK hP 0 rfl rfl 2 (by decide) (hts _ mX2_uncovered_1) (fun _ h9 => h9) rfl dX2_uncovered_1 ?_
  refine lv_iload_n hx hb dX2_uncovered_4 rfl (lv_at hl 1 rfl) ?_
  obtain ⟨hi1, hf⟩ := it_s hf
  refine va_iald hx hb hK hP 3 0 rfl rfl (inb_in hi1) dX2_uncovered_5 ?_
  refine lv_aload_n hx hb dX2_uncovered_6 rfl (lv_at hl 0 rfl) ?_
  refine va_get (D := (dC, dI)) (ci := 2) (v := .ref (a 18)) (C := RX2) (T := TX2) (N := 7) hx hb hts kX2_uncovered_X2 hown hK hP 0 rfl rfl 5 (by decide) (hts _ mX2_uncovered_2) (fun _ h9 => h9) rfl dX2_uncovered_7 ?_
  refine lv_iload_n hx hb dX2_uncovered_10 rfl (lv_at hl 1 rfl) ?_
  obtain ⟨hi2, hf⟩ := it_s hf
  refine va_iald hx hb hK hP 6 0 rfl rfl (inb_in hi2) dX2_uncovered_11 ?_
  refine lv_isub hx hb dX2_uncovered_12 ?_
  obtain rfl := Option.some.inj hf
  rw [hQ]
  exact W.iret hx hb hr (fun t ht hW => ⟨rfl, ht⟩) (fun q hq => absurd hq List.not_mem_nil) dX2_uncovered_13
