def rX6_issue : Room := { frames := 2, cells := 0, slots := 0, locals := 46 }
theorem kX6_issue_X6 : ∀ w ∈ wsX60, w ∈ wsX6_issue := fun w h => (List.mem_cons_of_mem _ (List.mem_append_right _ h))
theorem mX6_issue_1 : Cond.fieldLink RX6 76 "SmokeLedgerModel" "thrown" "I" ∈ wsX6_issue := List.mem_of_getElem? (i := 1) rfl
theorem mX6_issue_2 : Cond.constantLong RX6 162 (20000) ∈ wsX6_issue := List.mem_of_getElem? (i := 2) rfl
theorem mX6_issue_3 : Cond.fieldLink RX6 164 "SmokeLedgerModel" "serials" "I" ∈ wsX6_issue := List.mem_of_getElem? (i := 3) rfl
theorem mX6_issue_4 : Cond.fieldLink RX6 56 "SmokeLedgerModel" "owner" "[I" ∈ wsX6_issue := List.mem_of_getElem? (i := 4) rfl
theorem mX6_issue_5 : Cond.fieldLink RX6 59 "SmokeLedgerModel" "used" "[I" ∈ wsX6_issue := List.mem_of_getElem? (i := 5) rfl
set_option maxHeartbeats 4000000 in
set_option maxRecDepth 100000 in
theorem ct_X6_issue (l : Launch) (dC : Nat → ClassId) (dI : Nat → Nat → Nat) (a b : Nat → Nat) (cI cJ cZ : ClassId) (sz : Nat) (st : MS) (x1 : Int32) (x2 : Int32) (res : Int32 × MS) (hf : fX6_issue st x1 x2 = some res) : Met l yX6_issue wsX6_issue rX6_issue (Pm (dC, dI) (tyT cI cJ cZ) (WX6 a b cI cJ cZ st) sz [.ref (a 0), .int x1, .int x2]) (Qm (dC, dI) (some (.int res.1)) (WX6 a b cI cJ cZ res.2) (va_A (WX6 a b cI cJ cZ st) sz)) 0 0 (va_A (WX6 a b cI cJ cZ st) sz) := by
  refine Met.ofW (cc := cX6_issue) (maxL := 5) (ret := (some .int)) (by decide) rfl ?_
  intro p e s m args below meth c s₁ B hml hv
  obtain ⟨hargs, hsz, hP, hK, hD0⟩ := hv
  have hx := B.exec
  have hb := B.bytes
  have hr := B.returns
  have hts := atoms_spec (ws := wsX6_issue) B.pre
  have hown : s.vm.findClass RX6 = some m.cls := findClass_of_methodNamed B.named
  have hlocks := B.notSynchronized
  subst hsz
  have hD := hD0.self (sz := s.heap.size)
  generalize hAe : va_A (WX6 a b cI cJ cZ st) s.heap.size = A at hD ⊢
  have hA : ∀ q : Nat, s.heap.size ≤ q → A q := fun q h => by rw [← hAe]; exact Or.inr h
  have hl := lv_entry ([.ref (a 0), .int x1, .int x2]) (n := 5) (Nat.le_of_ble_eq_true rfl)
  refine W.eq (hargs ▸ lg_entry_eq m [.ref (a 0), .int x1, .int x2] 5) ?_
  generalize (lg_sl ([.ref (a 0), .int x1, .int x2]) ++ List.replicate (5 - (lg_sl ([.ref (a 0), .int x1, .int x2])).length) Slot.unset).toArray = ls at hl ⊢
  have hl : lv_has ls 5 [(0, .ref (a 0)), (1, .int x1), (2, .int x2)] := hl
  obtain ⟨QQ, hQ⟩ : ∃ QQ : State → Prop, QQ = MQ below (Qm (dC, dI) (some (.int res.1)) (WX6 a b cI cJ cZ res.2) A) args s 0 0 (A) := ⟨_, rfl⟩
  rw [← hQ]
  have l55 : ∀ (x1 : Int32) (x2 : Int32) (x3 : Int32) (fu : Nat) (s0 : MS × Int32) (r : MS × Int32), loopN (fun (s : MS × Int32) => fX6_issue_l55 x1 x2 x3 s.1 s.2) fu s0 = some r → (∀ (H : Heap) (locs : List Loc) (ls : Array Slot), IN (dC, dI) (WX6 a b cI cJ cZ r.1) A s.heap H locs → lv_has ls 5 [(0, .ref (a 0)), (1, .int x1), (2, .int x2), (3, .int x3), (4, .int r.2)] → W p l e (headSpec wsX6_issue rX6_issue).room s m args below meth c H locs 0 0 QQ (F0 m 98 ls [])) → (∀ (H : Heap) (locs : List Loc) (ls : Array Slot), IN (dC, dI) (WX6 a b cI cJ cZ s0.1) A s.heap H locs → lv_has ls 5 [(0, .ref (a 0)), (1, .int x1), (2, .int x2), (3, .int x3), (4, .int s0.2)] → W p l e (headSpec wsX6_issue rX6_issue).room s m args below meth c H locs 0 0 QQ (F0 m 55 ls [])) := by
    intro x1 x2 x3 fu s0 r
    refine loop_ind (P := fun s0 => ∀ (H : Heap) (locs : List Loc) (ls : Array Slot), IN (dC, dI) (WX6 a b cI cJ cZ s0.1) A s.heap H locs → lv_has ls 5 [(0, .ref (a 0)), (1, .int x1), (2, .int x2), (3, .int x3), (4, .int s0.2)] → W p l e (headSpec wsX6_issue rX6_issue).room s m args below meth c H locs 0 0 QQ (F0 m 55 ls [])) (Q := fun r => ∀ (H : Heap) (locs : List Loc) (ls : Array Slot), IN (dC, dI) (WX6 a b cI cJ cZ r.1) A s.heap H locs → lv_has ls 5 [(0, .ref (a 0)), (1, .int x1), (2, .int x2), (3, .int x3), (4, .int r.2)] → W p l e (headSpec wsX6_issue rX6_issue).room s m args below meth c H locs 0 0 QQ (F0 m 98 ls [])) ?_ fu s0 r
    clear fu s0 r
    rintro ⟨st, x4⟩ x hf kc ke
    replace hf : fX6_issue_l55 x1 x2 x3 st x4 = some x := hf
    replace kc : (∀ s', x = .inl s' → (∀ (H : Heap) (locs : List Loc) (ls : Array Slot), IN (dC, dI) (WX6 a b cI cJ cZ s'.1) A s.heap H locs → lv_has ls 5 [(0, .ref (a 0)), (1, .int x1), (2, .int x2), (3, .int x3), (4, .int s'.2)] → W p l e (headSpec wsX6_issue rX6_issue).room s m args below meth c H locs 0 0 QQ (F0 m 55 ls []))) := kc
    replace ke : (∀ r, x = .inr r → (∀ (H : Heap) (locs : List Loc) (ls : Array Slot), IN (dC, dI) (WX6 a b cI cJ cZ r.1) A s.heap H locs → lv_has ls 5 [(0, .ref (a 0)), (1, .int x1), (2, .int x2), (3, .int x3), (4, .int r.2)] → W p l e (headSpec wsX6_issue rX6_issue).room s m args below meth c H locs 0 0 QQ (F0 m 98 ls []))) := ke
    intro H locs ls hin hl
    obtain ⟨hP, hD, hS⟩ := hin
    unfold fX6_issue_l55 at hf
    refine lv_iload hx hb dX6_issue_55 (lv_at hl 4 rfl) ?_
    refine lv_iload_n hx hb dX6_issue_57 rfl (lv_at hl 2 rfl) ?_
    refine lv_icmp_ge (tgt := 98) hx hb dX6_issue_58 (by decide) (fun c10 => ?_) (fun c10 => ?_)
    · replace hf := it_p c10 hf
      obtain rfl := Option.some.inj hf
      exact ke _ rfl H locs ls ⟨hP, hD, hS⟩ (lv_sub hl [0, 1, 2, 3, 4] rfl)
    · replace hf := it_n c10 hf
      refine lv_aload_n hx hb dX6_issue_61 rfl (lv_at hl 0 rfl) ?_
      refine lv_dup hx hb dX6_issue_62 rfl ?_
      refine va_get (D := (dC, dI)) (ci := 6) (v := .int (MS_serials st)) (C := RX6) (T := TX6) (N := 26) hx hb hts kX6_issue_X6 hown hK hP 0 rfl rfl 19 (by decide) (hts _ mX6_issue_3) (fun _ h9 => h9) rfl dX6_issue_63 ?_
      refine lv_iconst (v := (1 : Int32)) hx hb dX6_issue_66 (by decide) ?_
      refine lv_iadd hx hb dX6_issue_67 ?_
      refine va_put (D := (dC, dI)) (ci := 6) (v := .int ((MS_serials st) + (1 : Int32))) (ty := .int) (C := RX6) (T := TX6) (N := 26) hx hb hts kX6_issue_X6 tyX6 tyX6_ok nmX6 hown hK hP hD hS 0 rfl rfl 19 (by decide) (hts _ mX6_issue_3) (fun _ h9 => h9) rfl (by decide +kernel) rfl rfl (Nat.le_of_ble_eq_true rfl) dX6_issue_68 (fun H locs hP hD hS => ?_)
      obtain ⟨s11, hs12, hf⟩ := bnd_e hf
      replace hP := putP_serials hs12 hP
      replace hD := putD_serials hs12 hD
      refine lv_aload_n hx hb dX6_issue_71 rfl (lv_at hl 0 rfl) ?_
      refine va_get (D := (dC, dI)) (ci := 6) (v := .ref (a 15)) (C := RX6) (T := TX6) (N := 26) hx hb hts kX6_issue_X6 hown hK hP 0 rfl rfl 20 (by decide) (hts _ mX6_issue_4) (fun _ h9 => h9) rfl dX6_issue_72 ?_
      refine lv_aload_n hx hb dX6_issue_75 rfl (lv_at hl 0 rfl) ?_
      refine va_get (D := (dC, dI)) (ci := 6) (v := .int (MS_serials s11)) (C := RX6) (T := TX6) (N := 26) hx hb hts kX6_issue_X6 hown hK hP 0 rfl rfl 19 (by decide) (hts _ mX6_issue_3) (fun _ h9 => h9) rfl dX6_issue_76 ?_
      refine lv_iload_n hx hb dX6_issue_79 rfl (lv_at hl 1 rfl) ?_
      obtain ⟨hi13, hf⟩ := it_s hf
      refine va_iast hx hb hK hP hD hS 15 0 rfl rfl (inb_in hi13) dX6_issue_80 (fun H locs hP hD hS => ?_)
      obtain ⟨s14, hs15, hf⟩ := bnd_e hf
      replace hP := putP_owner hs15 hP
      replace hD := putD_owner hs15 hD
      refine lv_aload_n hx hb dX6_issue_81 rfl (lv_at hl 0 rfl) ?_
      refine va_get (D := (dC, dI)) (ci := 6) (v := .ref (a 16)) (C := RX6) (T := TX6) (N := 26) hx hb hts kX6_issue_X6 hown hK hP 0 rfl rfl 21 (by decide) (hts _ mX6_issue_5) (fun _ h9 => h9) rfl dX6_issue_82 ?_
      refine lv_aload_n hx hb dX6_issue_85 rfl (lv_at hl 0 rfl) ?_
      refine va_get (D := (dC, dI)) (ci := 6) (v := .int (MS_serials s14)) (C := RX6) (T := TX6) (N := 26) hx hb hts kX6_issue_X6 hown hK hP 0 rfl rfl 19 (by decide) (hts _ mX6_issue_3) (fun _ h9 => h9) rfl dX6_issue_86 ?_
      refine lv_bipush (v := (-9 : Int32)) hx hb dX6_issue_89 (by decide) ?_
      obtain ⟨hi16, hf⟩ := it_s hf
      refine va_iast hx hb hK hP hD hS 16 0 rfl rfl (inb_in hi16) dX6_issue_91 (fun H locs hP hD hS => ?_)
      obtain ⟨s17, hs18, hf⟩ := bnd_e hf
      replace hP := putP_used hs18 hP
      replace hD := putD_used hs18 hD
      refine lv_iinc (v := (x4 + (1 : Int32))) (lv' := [(4, .int (x4 + (1 : Int32))), (0, .ref (a 0)), (1, .int x1), (2, .int x2), (3, .int x3)]) hx hb dX6_issue_92 hl (k := 4) rfl rfl (by decide) rfl (fun ls hl => ?_)
      refine lv_goto (tgt := 55) hx hb dX6_issue_95 (by decide) ?_
      obtain rfl := Option.some.inj hf
      exact kc _ rfl H locs ls ⟨hP, hD, hS⟩ (lv_sub hl [1, 2, 3, 4, 0] rfl)
  have main : ∀ (H : Heap) (locs : List Loc) (ls : Array Slot), IN (dC, dI) (WX6 a b cI cJ cZ st) A s.heap H locs → lv_has ls 5 [(0, .ref (a 0)), (1, .int x1), (2, .int x2)] → W p l e (headSpec wsX6_issue rX6_issue).room s m args below meth c H locs 0 0 QQ (F0 m 0 ls []) := by
    intro H locs ls hin hl
    obtain ⟨hP, hD, hS⟩ := hin
    unfold fX6_issue at hf
    refine lv_aload_n hx hb dX6_issue_0 rfl (lv_at hl 0 rfl) ?_
    refine lv_iconst (v := (0 : Int32)) hx hb dX6_issue_1 (by decide) ?_
    refine va_put (D := (dC, dI)) (ci := 6) (v := .int (0 : Int32)) (ty := .int) (C := RX6) (T := TX6) (N := 26) hx hb hts kX6_issue_X6 tyX6 tyX6_ok nmX6 hown hK hP hD hS 0 rfl rfl 0 (by decide) (hts _ mX6_issue_1) (fun _ h9 => h9) rfl (by decide +kernel) rfl rfl (Nat.le_of_ble_eq_true rfl) dX6_issue_2 (fun H locs hP hD hS => ?_)
    obtain ⟨s1, hs2, hf⟩ := bnd_e hf
    replace hP := putP_thrown hs2 hP
    replace hD := putD_thrown hs2 hD
    refine lv_aload_n hx hb dX6_issue_5 rfl (lv_at hl 0 rfl) ?_
    refine lv_iload_n hx hb dX6_issue_6 rfl (lv_at hl 1 rfl) ?_
    obtain ⟨r3, hc4, hf⟩ := bind_s hf
    refine cpV (v := .int r3) ⟨hx, hb, hml, hown, hts⟩ (ct_X6_noUnit l dC dI a b cI cJ cZ s1 x1 r3 hc4) (cwV 1 hts gX6_issue_X6_noUnit rfl rfl rfl (by decide +kernel) ⟨(Nat.le_of_ble_eq_true rfl), (Nat.le_of_ble_eq_true rfl)⟩) hK hP [0, 1, 2, 3, 4, 5, 6, 7, 8, 9, 10, 11, 12, 13, 14, 15, 16, 17, 18, 19, 20] rfl rfl rfl rfl hl.1 rfl (Nat.le_of_ble_eq_true rfl) (Nat.le_of_ble_eq_true rfl) (Nat.le_of_ble_eq_true rfl) dX6_issue_7 ?_
    refine lv_if_eq (tgt := 15) hx hb dX6_issue_10 (by decide) (fun c5 => ?_) (fun c5 => ?_)
    · replace hf := it_p c5 hf
      refine lv_iload_n hx hb dX6_issue_15 rfl (lv_at hl 2 rfl) ?_
      refine lv_i2l hx hb dX6_issue_16 rfl ?_
      refine lv_lconst (v := (1 : Int64)) hx hb dX6_issue_17 (by decide) ?_
      refine lv_ldc2 (v := (20000 : Int64)) hx hb hown (hts _ mX6_issue_2) dX6_issue_18 ?_
      obtain ⟨r6, hc7, hf⟩ := bind_s hf
      refine cpS (v := .int r6) ⟨hx, hb, hml, hown, hts⟩ (ct_X6_in l dC dI cI cJ cZ (Int32.toInt64 x2) (1 : Int64) (20000 : Int64) r6 hc7) (va_cwS 3 hts gX6_issue_X6_in rfl rfl rfl (by decide +kernel) ⟨(Nat.le_of_ble_eq_true rfl), (Nat.le_of_ble_eq_true rfl)⟩) hK hP [] rfl rfl hl.1 rfl (Nat.le_of_ble_eq_true rfl) (Nat.le_of_ble_eq_true rfl) (Nat.le_of_ble_eq_true rfl) dX6_issue_21 ?_
      refine lv_if_ne (tgt := 30) hx hb dX6_issue_24 (by decide) (fun c8 => ?_) (fun c8 => ?_)
      · replace hf := it_n c8 hf
        refine lv_aload_n hx hb dX6_issue_30 rfl (lv_at hl 0 rfl) ?_
        refine va_get (D := (dC, dI)) (ci := 6) (v := .int (MS_serials s1)) (C := RX6) (T := TX6) (N := 26) hx hb hts kX6_issue_X6 hown hK hP 0 rfl rfl 19 (by decide) (hts _ mX6_issue_3) (fun _ h9 => h9) rfl dX6_issue_31 ?_
        refine lv_iload_n hx hb dX6_issue_34 rfl (lv_at hl 2 rfl) ?_
        refine lv_iadd hx hb dX6_issue_35 ?_
        refine lv_sipush (v := (20000 : Int32)) hx hb dX6_issue_36 (by decide) ?_
        refine lv_icmp_le (tgt := 45) hx hb dX6_issue_39 (by decide) (fun c9 => ?_) (fun c9 => ?_)
        · replace hf := it_p c9 hf
          refine lv_aload_n hx hb dX6_issue_45 rfl (lv_at hl 0 rfl) ?_
          refine va_get (D := (dC, dI)) (ci := 6) (v := .int (MS_serials s1)) (C := RX6) (T := TX6) (N := 26) hx hb hts kX6_issue_X6 hown hK hP 0 rfl rfl 19 (by decide) (hts _ mX6_issue_3) (fun _ h9 => h9) rfl dX6_issue_46 ?_
          refine lv_iconst (v := (1 : Int32)) hx hb dX6_issue_49 (by decide) ?_
          refine lv_iadd hx hb dX6_issue_50 ?_
          refine lv_istore_n (lv' := [(3, .int ((MS_serials s1) + (1 : Int32))), (0, .ref (a 0)), (1, .int x1), (2, .int x2)]) hx hb dX6_issue_51 rfl hl (by decide) rfl (fun ls hl => ?_)
          refine lv_iconst (v := (0 : Int32)) hx hb dX6_issue_52 (by decide) ?_
          refine lv_istore (lv' := [(4, .int (0 : Int32)), (3, .int ((MS_serials s1) + (1 : Int32))), (0, .ref (a 0)), (1, .int x1), (2, .int x2)]) hx hb dX6_issue_53 hl (by decide) rfl (fun ls hl => ?_)
          obtain ⟨y19, hlp, hf⟩ := bind_s hf
          refine l55 x1 x2 ((MS_serials s1) + (1 : Int32)) fuelN (s1, (0 : Int32)) y19 hlp ?_ H locs ls ⟨hP, hD, hS⟩ (lv_sub hl [2, 3, 4, 1, 0] rfl)
          intro H locs ls hin hl
          obtain ⟨hP, hD, hS⟩ := hin
          refine lv_iload_n hx hb dX6_issue_98 rfl (lv_at hl 3 rfl) ?_
          obtain rfl := Option.some.inj hf
          rw [hQ]
          exact W.iret hx hb hr (fun t ht hW => ⟨rfl, ⟨by rw [ht]; exact hP, hD⟩, hS.F ht⟩) hS.2.2 dX6_issue_99
        · replace hf := it_n c9 hf
          refine lv_bipush (v := (-4 : Int32)) hx hb dX6_issue_42 (by decide) ?_
          obtain rfl := Option.some.inj hf
          rw [hQ]
          exact W.iret hx hb hr (fun t ht hW => ⟨rfl, ⟨by rw [ht]; exact hP, hD⟩, hS.F ht⟩) hS.2.2 dX6_issue_44
      · replace hf := it_p c8 hf
        refine lv_bipush (v := (-2 : Int32)) hx hb dX6_issue_27 (by decide) ?_
        obtain rfl := Option.some.inj hf
        rw [hQ]
        exact W.iret hx hb hr (fun t ht hW => ⟨rfl, ⟨by rw [ht]; exact hP, hD⟩, hS.F ht⟩) hS.2.2 dX6_issue_29
    · replace hf := it_n c5 hf
      refine lv_iconst (v := (-1 : Int32)) hx hb dX6_issue_13 (by decide) ?_
      obtain rfl := Option.some.inj hf
      rw [hQ]
      exact W.iret hx hb hr (fun t ht hW => ⟨rfl, ⟨by rw [ht]; exact hP, hD⟩, hS.F ht⟩) hS.2.2 dX6_issue_14
  exact main s.heap [] ls ⟨hP, hD, va_S.rf⟩ hl
def rX6_noSerials : Room := { frames := 0, cells := 0, slots := 0, locals := 0 }
theorem kX6_noSerials_X6 : ∀ w ∈ wsX60, w ∈ wsX6_noSerials := fun w h => (List.mem_cons_of_mem _ (List.mem_append_right _ h))
theorem mX6_noSerials_1 : Cond.fieldLink RX6 164 "SmokeLedgerModel" "serials" "I" ∈ wsX6_noSerials := List.mem_of_getElem? (i := 1) rfl
set_option maxHeartbeats 4000000 in
set_option maxRecDepth 100000 in
theorem ct_X6_noSerials (l : Launch) (dC : Nat → ClassId) (dI : Nat → Nat → Nat) (a b : Nat → Nat) (cI cJ cZ : ClassId) (st : MS) (x1 : Int32) (x2 : Int32) (res : Int32) (hf : fX6_noSerials st x1 x2 = some res) : Met l yX6_noSerials wsX6_noSerials rX6_noSerials (Pp (dC, dI) (tyT cI cJ cZ) (WX6 a b cI cJ cZ st) [.ref (a 0), .int x1, .int x2]) (Qp (.int res)) 0 0 (fun _ => False) := by
  refine Met.ofW (cc := cX6_noSerials) (maxL := 3) (ret := (some .boolean)) (by decide) rfl ?_
  intro p e s m args below meth c s₁ B hml hv
  obtain ⟨hargs, hP, hK⟩ := hv
  have hx := B.exec
  have hb := B.bytes
  have hr := B.returns
  have hts := atoms_spec (ws := wsX6_noSerials) B.pre
  have hown : s.vm.findClass RX6 = some m.cls := findClass_of_methodNamed B.named
  have hlocks := B.notSynchronized
  have hP : va_P (dC, dI) vwCl (WX6 a b cI cJ cZ st) s.heap := hP
  have hl := lv_entry ([.ref (a 0), .int x1, .int x2]) (n := 3) (Nat.le_of_ble_eq_true rfl)
  refine W.eq (hargs ▸ lg_entry_eq m [.ref (a 0), .int x1, .int x2] 3) ?_
  generalize (lg_sl ([.ref (a 0), .int x1, .int x2]) ++ List.replicate (3 - (lg_sl ([.ref (a 0), .int x1, .int x2])).length) Slot.unset).toArray = ls at hl ⊢
  have hl : lv_has ls 3 [(0, .ref (a 0)), (1, .int x1), (2, .int x2)] := hl
  obtain ⟨QQ, hQ⟩ : ∃ QQ : State → Prop, QQ = MQ below (Qp (.int res)) args s 0 0 (fun _ => False) := ⟨_, rfl⟩
  rw [← hQ]
  have b21 : fX6_noSerials_b21 st = some res → (∀ (ls : Array Slot), lv_has ls 3 [] → W p l e (headSpec wsX6_noSerials rX6_noSerials).room s m args below meth c s.heap [] 0 0 QQ (F0 m 21 ls [])) := by
    intro hf
    intro ls hl
    unfold fX6_noSerials_b21 at hf
    refine lv_iconst (v := (1 : Int32)) hx hb dX6_noSerials_21 (by decide) ?_
    refine lv_goto (tgt := 26) hx hb dX6_noSerials_22 (by decide) ?_
    obtain rfl := Option.some.inj hf
    rw [hQ]
    exact W.zret hx hb hr rfl (fun t ht hW => ⟨rfl, ht⟩) (fun q hq => absurd hq List.not_mem_nil) dX6_noSerials_26
  unfold fX6_noSerials at hf
  refine lv_iload_n hx hb dX6_noSerials_0 rfl (lv_at hl 1 rfl) ?_
  refine lv_iconst (v := (1 : Int32)) hx hb dX6_noSerials_1 (by decide) ?_
  refine lv_icmp_lt (tgt := 21) hx hb dX6_noSerials_2 (by decide) (fun c1 => ?_) (fun c1 => ?_)
  · replace hf := it_p c1 hf
    exact b21  hf ls (lv_sub hl [] rfl)
  · replace hf := it_n c1 hf
    refine lv_iload_n hx hb dX6_noSerials_5 rfl (lv_at hl 1 rfl) ?_
    refine lv_i2l hx hb dX6_noSerials_6 rfl ?_
    refine lv_iload_n hx hb dX6_noSerials_7 rfl (lv_at hl 2 rfl) ?_
    refine lv_i2l hx hb dX6_noSerials_8 rfl ?_
    refine lv_ladd hx hb dX6_noSerials_9 ?_
    refine lv_lconst (v := (1 : Int64)) hx hb dX6_noSerials_10 (by decide) ?_
    refine lv_lsub hx hb dX6_noSerials_11 ?_
    refine lv_aload_n hx hb dX6_noSerials_12 rfl (lv_at hl 0 rfl) ?_
    refine va_get (D := (dC, dI)) (ci := 6) (v := .int (MS_serials st)) (C := RX6) (T := TX6) (N := 26) hx hb hts kX6_noSerials_X6 hown hK hP 0 rfl rfl 19 (by decide) (hts _ mX6_noSerials_1) (fun _ h9 => h9) rfl dX6_noSerials_13 ?_
    refine lv_i2l hx hb dX6_noSerials_16 rfl ?_
    refine W.lcmp hx hb dX6_noSerials_17 ?_
    refine lv_if_le (tgt := 25) hx hb dX6_noSerials_18 (by decide) (fun c2 => ?_) (fun c2 => ?_)
    · replace hf := it_p c2 hf
      refine lv_iconst (v := (0 : Int32)) hx hb dX6_noSerials_25 (by decide) ?_
      obtain rfl := Option.some.inj hf
      rw [hQ]
      exact W.zret hx hb hr rfl (fun t ht hW => ⟨rfl, ht⟩) (fun q hq => absurd hq List.not_mem_nil) dX6_noSerials_26
    · replace hf := it_n c2 hf
      exact b21  hf ls (lv_sub hl [] rfl)
def rX6_hasUsed : Room := { frames := 0, cells := 0, slots := 0, locals := 0 }
theorem kX6_hasUsed_X6 : ∀ w ∈ wsX60, w ∈ wsX6_hasUsed := fun w h => (List.mem_cons_of_mem _ (List.mem_append_right _ h))
theorem mX6_hasUsed_1 : Cond.fieldLink RX6 59 "SmokeLedgerModel" "used" "[I" ∈ wsX6_hasUsed := List.mem_of_getElem? (i := 1) rfl
set_option maxHeartbeats 4000000 in
set_option maxRecDepth 100000 in
theorem ct_X6_hasUsed (l : Launch) (dC : Nat → ClassId) (dI : Nat → Nat → Nat) (a b : Nat → Nat) (cI cJ cZ : ClassId) (st : MS) (x1 : Int32) (x2 : Int32) (res : Int32) (hf : fX6_hasUsed st x1 x2 = some res) : Met l yX6_hasUsed wsX6_hasUsed rX6_hasUsed (Pp (dC, dI) (tyT cI cJ cZ) (WX6 a b cI cJ cZ st) [.ref (a 0), .int x1, .int x2]) (Qp (.int res)) 0 0 (fun _ => False) := by
  refine Met.ofW (cc := cX6_hasUsed) (maxL := 5) (ret := (some .boolean)) (by decide) rfl ?_
  intro p e s m args below meth c s₁ B hml hv
  obtain ⟨hargs, hP, hK⟩ := hv
  have hx := B.exec
  have hb := B.bytes
  have hr := B.returns
  have hts := atoms_spec (ws := wsX6_hasUsed) B.pre
  have hown : s.vm.findClass RX6 = some m.cls := findClass_of_methodNamed B.named
  have hlocks := B.notSynchronized
  have hP : va_P (dC, dI) vwCl (WX6 a b cI cJ cZ st) s.heap := hP
  have hl := lv_entry ([.ref (a 0), .int x1, .int x2]) (n := 5) (Nat.le_of_ble_eq_true rfl)
  refine W.eq (hargs ▸ lg_entry_eq m [.ref (a 0), .int x1, .int x2] 5) ?_
  generalize (lg_sl ([.ref (a 0), .int x1, .int x2]) ++ List.replicate (5 - (lg_sl ([.ref (a 0), .int x1, .int x2])).length) Slot.unset).toArray = ls at hl ⊢
  have hl : lv_has ls 5 [(0, .ref (a 0)), (1, .int x1), (2, .int x2)] := hl
  obtain ⟨QQ, hQ⟩ : ∃ QQ : State → Prop, QQ = MQ below (Qp (.int res)) args s 0 0 (fun _ => False) := ⟨_, rfl⟩
  rw [← hQ]
  have l5 : ∀ (x1 : Int32) (x2 : Int32) (fu : Nat) (s0 : Int32 × Int32) (r : Int32 × Int32), loopN (fun (s : Int32 × Int32) => fX6_hasUsed_l5 st x1 x2 s.1 s.2) fu s0 = some r → (∀ (ls : Array Slot), lv_has ls 5 [(0, .ref (a 0)), (1, .int x1), (2, .int x2), (3, .int r.1), (4, .int r.2)] → W p l e (headSpec wsX6_hasUsed rX6_hasUsed).room s m args below meth c s.heap [] 0 0 QQ (F0 m 41 ls [])) → (∀ (ls : Array Slot), lv_has ls 5 [(0, .ref (a 0)), (1, .int x1), (2, .int x2), (3, .int s0.1), (4, .int s0.2)] → W p l e (headSpec wsX6_hasUsed rX6_hasUsed).room s m args below meth c s.heap [] 0 0 QQ (F0 m 5 ls [])) := by
    intro x1 x2 fu s0 r
    have b34 : ∀ (x1 : Int32) (x2 : Int32) (x4 : Int32) (k0 : Int32) (x : (Int32 × Int32) ⊕ (Int32 × Int32)), fX6_hasUsed_b34 st x1 x2 x4 k0 = some x → (∀ s', x = .inl s' → (∀ (ls : Array Slot), lv_has ls 5 [(0, .ref (a 0)), (1, .int x1), (2, .int x2), (3, .int s'.1), (4, .int s'.2)] → W p l e (headSpec wsX6_hasUsed rX6_hasUsed).room s m args below meth c s.heap [] 0 0 QQ (F0 m 5 ls []))) → (∀ r, x = .inr r → (∀ (ls : Array Slot), lv_has ls 5 [(0, .ref (a 0)), (1, .int x1), (2, .int x2), (3, .int r.1), (4, .int r.2)] → W p l e (headSpec wsX6_hasUsed rX6_hasUsed).room s m args below meth c s.heap [] 0 0 QQ (F0 m 41 ls []))) → (∀ (ls : Array Slot), lv_has ls 5 [(0, .ref (a 0)), (1, .int x1), (2, .int x2), (4, .int x4)] → W p l e (headSpec wsX6_hasUsed rX6_hasUsed).room s m args below meth c s.heap [] 0 0 QQ (F0 m 34 ls [.int k0])) := by
      intro x1 x2 x4 k0 x hf kc ke
      intro ls hl
      unfold fX6_hasUsed_b34 at hf
      refine lv_istore_n (lv' := [(3, .int k0), (0, .ref (a 0)), (1, .int x1), (2, .int x2), (4, .int x4)]) hx hb dX6_hasUsed_34 rfl hl (by decide) rfl (fun ls hl => ?_)
      refine lv_iinc (v := (x4 + (1 : Int32))) (lv' := [(4, .int (x4 + (1 : Int32))), (3, .int k0), (0, .ref (a 0)), (1, .int x1), (2, .int x2)]) hx hb dX6_hasUsed_35 hl (k := 4) rfl rfl (by decide) rfl (fun ls hl => ?_)
      refine lv_goto (tgt := 5) hx hb dX6_hasUsed_38 (by decide) ?_
      obtain rfl := Option.some.inj hf
      exact kc _ rfl ls (lv_sub hl [2, 3, 4, 1, 0] rfl)
    have b29 : ∀ (x1 : Int32) (x2 : Int32) (x4 : Int32) (x : (Int32 × Int32) ⊕ (Int32 × Int32)), fX6_hasUsed_b29 st x1 x2 x4 = some x → (∀ s', x = .inl s' → (∀ (ls : Array Slot), lv_has ls 5 [(0, .ref (a 0)), (1, .int x1), (2, .int x2), (3, .int s'.1), (4, .int s'.2)] → W p l e (headSpec wsX6_hasUsed rX6_hasUsed).room s m args below meth c s.heap [] 0 0 QQ (F0 m 5 ls []))) → (∀ r, x = .inr r → (∀ (ls : Array Slot), lv_has ls 5 [(0, .ref (a 0)), (1, .int x1), (2, .int x2), (3, .int r.1), (4, .int r.2)] → W p l e (headSpec wsX6_hasUsed rX6_hasUsed).room s m args below meth c s.heap [] 0 0 QQ (F0 m 41 ls []))) → (∀ (ls : Array Slot), lv_has ls 5 [(0, .ref (a 0)), (1, .int x1), (2, .int x2), (4, .int x4)] → W p l e (headSpec wsX6_hasUsed rX6_hasUsed).room s m args below meth c s.heap [] 0 0 QQ (F0 m 29 ls [])) := by
      intro x1 x2 x4 x hf kc ke
      intro ls hl
      unfold fX6_hasUsed_b29 at hf
      refine lv_iconst (v := (1 : Int32)) hx hb dX6_hasUsed_29 (by decide) ?_
      refine lv_goto (tgt := 34) hx hb dX6_hasUsed_30 (by decide) ?_
      exact b34 x1 x2 x4 (1 : Int32) _ hf kc ke ls (lv_sub hl [0, 1, 2, 3] rfl)
    refine loop_ind (P := fun s0 => ∀ (ls : Array Slot), lv_has ls 5 [(0, .ref (a 0)), (1, .int x1), (2, .int x2), (3, .int s0.1), (4, .int s0.2)] → W p l e (headSpec wsX6_hasUsed rX6_hasUsed).room s m args below meth c s.heap [] 0 0 QQ (F0 m 5 ls [])) (Q := fun r => ∀ (ls : Array Slot), lv_has ls 5 [(0, .ref (a 0)), (1, .int x1), (2, .int x2), (3, .int r.1), (4, .int r.2)] → W p l e (headSpec wsX6_hasUsed rX6_hasUsed).room s m args below meth c s.heap [] 0 0 QQ (F0 m 41 ls [])) ?_ fu s0 r
    clear fu s0 r
    rintro ⟨x3, x4⟩ x hf kc ke
    replace hf : fX6_hasUsed_l5 st x1 x2 x3 x4 = some x := hf
    replace kc : (∀ s', x = .inl s' → (∀ (ls : Array Slot), lv_has ls 5 [(0, .ref (a 0)), (1, .int x1), (2, .int x2), (3, .int s'.1), (4, .int s'.2)] → W p l e (headSpec wsX6_hasUsed rX6_hasUsed).room s m args below meth c s.heap [] 0 0 QQ (F0 m 5 ls []))) := kc
    replace ke : (∀ r, x = .inr r → (∀ (ls : Array Slot), lv_has ls 5 [(0, .ref (a 0)), (1, .int x1), (2, .int x2), (3, .int r.1), (4, .int r.2)] → W p l e (headSpec wsX6_hasUsed rX6_hasUsed).room s m args below meth c s.heap [] 0 0 QQ (F0 m 41 ls []))) := ke
    intro ls hl
    unfold fX6_hasUsed_l5 at hf
    refine lv_iload hx hb dX6_hasUsed_5 (lv_at hl 4 rfl) ?_
    refine lv_iload_n hx hb dX6_hasUsed_7 rfl (lv_at hl 1 rfl) ?_
    refine lv_iload_n hx hb dX6_hasUsed_8 rfl (lv_at hl 2 rfl) ?_
    refine lv_iadd hx hb dX6_hasUsed_9 ?_
    refine lv_icmp_ge (tgt := 41) hx hb dX6_hasUsed_10 (by decide) (fun c1 => ?_) (fun c1 => ?_)
    · replace hf := it_p c1 hf
      obtain rfl := Option.some.inj hf
      exact ke _ rfl ls (lv_sub hl [0, 1, 2, 3, 4] rfl)
    · replace hf := it_n c1 hf
      refine lv_iload_n hx hb dX6_hasUsed_13 rfl (lv_at hl 3 rfl) ?_
      refine lv_if_ne (tgt := 29) hx hb dX6_hasUsed_14 (by decide) (fun c2 => ?_) (fun c2 => ?_)
      · replace hf := it_n c2 hf
        exact b29 x1 x2 x4 _ hf kc ke ls (lv_sub hl [0, 1, 2, 4] rfl)
      · replace hf := it_p c2 hf
        refine lv_aload_n hx hb dX6_hasUsed_17 rfl (lv_at hl 0 rfl) ?_
        refine va_get (D := (dC, dI)) (ci := 6) (v := .ref (a 16)) (C := RX6) (T := TX6) (N := 26) hx hb hts kX6_hasUsed_X6 hown hK hP 0 rfl rfl 21 (by decide) (hts _ mX6_hasUsed_1) (fun _ h9 => h9) rfl dX6_hasUsed_18 ?_
        refine lv_iload hx hb dX6_hasUsed_21 (lv_at hl 4 rfl) ?_
        obtain ⟨hi3, hf⟩ := it_s hf
        refine va_iald hx hb hK hP 16 0 rfl rfl (inb_in hi3) dX6_hasUsed_23 ?_
        refine lv_bipush (v := (-9 : Int32)) hx hb dX6_hasUsed_24 (by decide) ?_
        refine lv_icmp_eq (tgt := 33) hx hb dX6_hasUsed_26 (by decide) (fun c4 => ?_) (fun c4 => ?_)
        · replace hf := it_p c4 hf
          refine lv_iconst (v := (0 : Int32)) hx hb dX6_hasUsed_33 (by decide) ?_
          exact b34 x1 x2 x4 (0 : Int32) _ hf kc ke ls (lv_sub hl [0, 1, 2, 4] rfl)
        · replace hf := it_n c4 hf
          exact b29 x1 x2 x4 _ hf kc ke ls (lv_sub hl [0, 1, 2, 4] rfl)
  unfold fX6_hasUsed at hf
  refine lv_iconst (v := (0 : Int32)) hx hb dX6_hasUsed_0 (by decide) ?_
  refine lv_istore_n (lv' := [(3, .int (0 : Int32)), (0, .ref (a 0)), (1, .int x1), (2, .int x2)]) hx hb dX6_hasUsed_1 rfl hl (by decide) rfl (fun ls hl => ?_)
  refine lv_iload_n hx hb dX6_hasUsed_2 rfl (lv_at hl 2 rfl) ?_
  refine lv_istore (lv' := [(4, .int x1), (3, .int (0 : Int32)), (0, .ref (a 0)), (1, .int x1), (2, .int x2)]) hx hb dX6_hasUsed_3 hl (by decide) rfl (fun ls hl => ?_)
  obtain ⟨y5, hlp, hf⟩ := bind_s hf
  refine l5 x1 x2 fuelN ((0 : Int32), x1) y5 hlp ?_ ls (lv_sub hl [2, 3, 4, 1, 0] rfl)
  intro ls hl
  refine lv_iload_n hx hb dX6_hasUsed_41 rfl (lv_at hl 3 rfl) ?_
  obtain ⟨hb_6, hf⟩ := it_s hf
  obtain rfl := Option.some.inj hf
  rw [hQ]
  exact W.zret hx hb hr (isB_nar hb_6) (fun t ht hW => ⟨rfl, ht⟩) (fun q hq => absurd hq List.not_mem_nil) dX6_hasUsed_42
def rX6_move : Room := { frames := 2, cells := 0, slots := 0, locals := 46 }
theorem kX6_move_X6 : ∀ w ∈ wsX60, w ∈ wsX6_move := fun w h => (List.mem_cons_of_mem _ (List.mem_append_right _ h))
theorem mX6_move_1 : Cond.fieldLink RX6 76 "SmokeLedgerModel" "thrown" "I" ∈ wsX6_move := List.mem_of_getElem? (i := 1) rfl
theorem mX6_move_2 : Cond.fieldLink RX6 56 "SmokeLedgerModel" "owner" "[I" ∈ wsX6_move := List.mem_of_getElem? (i := 2) rfl
set_option maxHeartbeats 4000000 in
set_option maxRecDepth 100000 in
theorem ct_X6_move (l : Launch) (dC : Nat → ClassId) (dI : Nat → Nat → Nat) (a b : Nat → Nat) (cI cJ cZ : ClassId) (sz : Nat) (st : MS) (x1 : Int32) (x2 : Int32) (x3 : Int32) (res : Int32 × MS) (hf : fX6_move st x1 x2 x3 = some res) : Met l yX6_move wsX6_move rX6_move (Pm (dC, dI) (tyT cI cJ cZ) (WX6 a b cI cJ cZ st) sz [.ref (a 0), .int x1, .int x2, .int x3]) (Qm (dC, dI) (some (.int res.1)) (WX6 a b cI cJ cZ res.2) (va_A (WX6 a b cI cJ cZ st) sz)) 0 0 (va_A (WX6 a b cI cJ cZ st) sz) := by
  refine Met.ofW (cc := cX6_move) (maxL := 6) (ret := (some .int)) (by decide) rfl ?_
  intro p e s m args below meth c s₁ B hml hv
  obtain ⟨hargs, hsz, hP, hK, hD0⟩ := hv
  have hx := B.exec
  have hb := B.bytes
  have hr := B.returns
  have hts := atoms_spec (ws := wsX6_move) B.pre
  have hown : s.vm.findClass RX6 = some m.cls := findClass_of_methodNamed B.named
  have hlocks := B.notSynchronized
  subst hsz
  have hD := hD0.self (sz := s.heap.size)
  generalize hAe : va_A (WX6 a b cI cJ cZ st) s.heap.size = A at hD ⊢
  have hA : ∀ q : Nat, s.heap.size ≤ q → A q := fun q h => by rw [← hAe]; exact Or.inr h
  have hl := lv_entry ([.ref (a 0), .int x1, .int x2, .int x3]) (n := 6) (Nat.le_of_ble_eq_true rfl)
  refine W.eq (hargs ▸ lg_entry_eq m [.ref (a 0), .int x1, .int x2, .int x3] 6) ?_
  generalize (lg_sl ([.ref (a 0), .int x1, .int x2, .int x3]) ++ List.replicate (6 - (lg_sl ([.ref (a 0), .int x1, .int x2, .int x3])).length) Slot.unset).toArray = ls at hl ⊢
  have hl : lv_has ls 6 [(0, .ref (a 0)), (1, .int x1), (2, .int x2), (3, .int x3)] := hl
  obtain ⟨QQ, hQ⟩ : ∃ QQ : State → Prop, QQ = MQ below (Qm (dC, dI) (some (.int res.1)) (WX6 a b cI cJ cZ res.2) A) args s 0 0 (A) := ⟨_, rfl⟩
  rw [← hQ]
  have l52 : ∀ (x1 : Int32) (x2 : Int32) (x3 : Int32) (fu : Nat) (s0 : MS × Int32 × Int32) (r : MS × Int32 × Int32), loopN (fun (s : MS × Int32 × Int32) => fX6_move_l52 x1 x2 x3 s.1 s.2.1 s.2.2) fu s0 = some r → (∀ (H : Heap) (locs : List Loc) (ls : Array Slot), IN (dC, dI) (WX6 a b cI cJ cZ r.1) A s.heap H locs → lv_has ls 6 [(0, .ref (a 0)), (1, .int x1), (2, .int x2), (3, .int x3), (4, .int r.2.1), (5, .int r.2.2)] → W p l e (headSpec wsX6_move rX6_move).room s m args below meth c H locs 0 0 QQ (F0 m 95 ls [])) → (∀ (H : Heap) (locs : List Loc) (ls : Array Slot), IN (dC, dI) (WX6 a b cI cJ cZ s0.1) A s.heap H locs → lv_has ls 6 [(0, .ref (a 0)), (1, .int x1), (2, .int x2), (3, .int x3), (4, .int s0.2.1), (5, .int s0.2.2)] → W p l e (headSpec wsX6_move rX6_move).room s m args below meth c H locs 0 0 QQ (F0 m 52 ls [])) := by
    intro x1 x2 x3 fu s0 r
    have b78 : ∀ (st : MS) (x1 : Int32) (x2 : Int32) (x3 : Int32) (x5 : Int32) (k0 : Int32) (k1 : Int32) (x : (MS × Int32 × Int32) ⊕ (MS × Int32 × Int32)), fX6_move_b78 st x1 x2 x3 x5 k0 k1 = some x → (∀ s', x = .inl s' → (∀ (H : Heap) (locs : List Loc) (ls : Array Slot), IN (dC, dI) (WX6 a b cI cJ cZ s'.1) A s.heap H locs → lv_has ls 6 [(0, .ref (a 0)), (1, .int x1), (2, .int x2), (3, .int x3), (4, .int s'.2.1), (5, .int s'.2.2)] → W p l e (headSpec wsX6_move rX6_move).room s m args below meth c H locs 0 0 QQ (F0 m 52 ls []))) → (∀ r, x = .inr r → (∀ (H : Heap) (locs : List Loc) (ls : Array Slot), IN (dC, dI) (WX6 a b cI cJ cZ r.1) A s.heap H locs → lv_has ls 6 [(0, .ref (a 0)), (1, .int x1), (2, .int x2), (3, .int x3), (4, .int r.2.1), (5, .int r.2.2)] → W p l e (headSpec wsX6_move rX6_move).room s m args below meth c H locs 0 0 QQ (F0 m 95 ls []))) → (∀ (H : Heap) (locs : List Loc) (ls : Array Slot), IN (dC, dI) (WX6 a b cI cJ cZ st) A s.heap H locs → lv_has ls 6 [(0, .ref (a 0)), (1, .int x1), (2, .int x2), (3, .int x3), (5, .int x5)] → W p l e (headSpec wsX6_move rX6_move).room s m args below meth c H locs 0 0 QQ (F0 m 78 ls [.int k1, .int k0])) := by
      intro st x1 x2 x3 x5 k0 k1 x hf kc ke
      intro H locs ls hin hl
      obtain ⟨hP, hD, hS⟩ := hin
      unfold fX6_move_b78 at hf
      refine lv_iadd hx hb dX6_move_78 ?_
      refine lv_istore (lv' := [(4, .int (k0 + k1)), (0, .ref (a 0)), (1, .int x1), (2, .int x2), (3, .int x3), (5, .int x5)]) hx hb dX6_move_79 hl (by decide) rfl (fun ls hl => ?_)
      refine lv_aload_n hx hb dX6_move_81 rfl (lv_at hl 1 rfl) ?_
      refine va_get (D := (dC, dI)) (ci := 6) (v := .ref (a 15)) (C := RX6) (T := TX6) (N := 26) hx hb hts kX6_move_X6 hown hK hP 0 rfl rfl 20 (by decide) (hts _ mX6_move_2) (fun _ h9 => h9) rfl dX6_move_82 ?_
      refine lv_iload hx hb dX6_move_85 (lv_at hl 5 rfl) ?_
      refine lv_iload_n hx hb dX6_move_87 rfl (lv_at hl 4 rfl) ?_
      obtain ⟨hi16, hf⟩ := it_s hf
      refine va_iast hx hb hK hP hD hS 15 0 rfl rfl (inb_in hi16) dX6_move_88 (fun H locs hP hD hS => ?_)
      obtain ⟨s17, hs18, hf⟩ := bnd_e hf
      replace hP := putP_owner hs18 hP
      replace hD := putD_owner hs18 hD
      refine lv_iinc (v := (x5 + (1 : Int32))) (lv' := [(5, .int (x5 + (1 : Int32))), (4, .int (k0 + k1)), (0, .ref (a 0)), (1, .int x1), (2, .int x2), (3, .int x3)]) hx hb dX6_move_89 hl (k := 5) rfl rfl (by decide) rfl (fun ls hl => ?_)
      refine lv_goto (tgt := 52) hx hb dX6_move_92 (by decide) ?_
      obtain rfl := Option.some.inj hf
      exact kc _ rfl H locs ls ⟨hP, hD, hS⟩ (lv_sub hl [2, 3, 4, 5, 1, 0] rfl)
    refine loop_ind (P := fun s0 => ∀ (H : Heap) (locs : List Loc) (ls : Array Slot), IN (dC, dI) (WX6 a b cI cJ cZ s0.1) A s.heap H locs → lv_has ls 6 [(0, .ref (a 0)), (1, .int x1), (2, .int x2), (3, .int x3), (4, .int s0.2.1), (5, .int s0.2.2)] → W p l e (headSpec wsX6_move rX6_move).room s m args below meth c H locs 0 0 QQ (F0 m 52 ls [])) (Q := fun r => ∀ (H : Heap) (locs : List Loc) (ls : Array Slot), IN (dC, dI) (WX6 a b cI cJ cZ r.1) A s.heap H locs → lv_has ls 6 [(0, .ref (a 0)), (1, .int x1), (2, .int x2), (3, .int x3), (4, .int r.2.1), (5, .int r.2.2)] → W p l e (headSpec wsX6_move rX6_move).room s m args below meth c H locs 0 0 QQ (F0 m 95 ls [])) ?_ fu s0 r
    clear fu s0 r
    rintro ⟨st, x4, x5⟩ x hf kc ke
    replace hf : fX6_move_l52 x1 x2 x3 st x4 x5 = some x := hf
    replace kc : (∀ s', x = .inl s' → (∀ (H : Heap) (locs : List Loc) (ls : Array Slot), IN (dC, dI) (WX6 a b cI cJ cZ s'.1) A s.heap H locs → lv_has ls 6 [(0, .ref (a 0)), (1, .int x1), (2, .int x2), (3, .int x3), (4, .int s'.2.1), (5, .int s'.2.2)] → W p l e (headSpec wsX6_move rX6_move).room s m args below meth c H locs 0 0 QQ (F0 m 52 ls []))) := kc
    replace ke : (∀ r, x = .inr r → (∀ (H : Heap) (locs : List Loc) (ls : Array Slot), IN (dC, dI) (WX6 a b cI cJ cZ r.1) A s.heap H locs → lv_has ls 6 [(0, .ref (a 0)), (1, .int x1), (2, .int x2), (3, .int x3), (4, .int r.2.1), (5, .int r.2.2)] → W p l e (headSpec wsX6_move rX6_move).room s m args below meth c H locs 0 0 QQ (F0 m 95 ls []))) := ke
    intro H locs ls hin hl
    obtain ⟨hP, hD, hS⟩ := hin
    unfold fX6_move_l52 at hf
    refine lv_iload hx hb dX6_move_52 (lv_at hl 5 rfl) ?_
    refine lv_iload_n hx hb dX6_move_54 rfl (lv_at hl 1 rfl) ?_
    refine lv_iload_n hx hb dX6_move_55 rfl (lv_at hl 2 rfl) ?_
    refine lv_iadd hx hb dX6_move_56 ?_
    refine lv_icmp_ge (tgt := 95) hx hb dX6_move_57 (by decide) (fun c13 => ?_) (fun c13 => ?_)
    · replace hf := it_p c13 hf
      obtain rfl := Option.some.inj hf
      exact ke _ rfl H locs ls ⟨hP, hD, hS⟩ (lv_sub hl [0, 1, 2, 3, 4, 5] rfl)
    · replace hf := it_n c13 hf
      refine lv_iload hx hb dX6_move_60 (lv_at hl 4 rfl) ?_
      refine lv_aload_n hx hb dX6_move_62 rfl (lv_at hl 0 rfl) ?_
      refine va_get (D := (dC, dI)) (ci := 6) (v := .ref (a 15)) (C := RX6) (T := TX6) (N := 26) hx hb hts kX6_move_X6 hown hK hP 0 rfl rfl 20 (by decide) (hts _ mX6_move_2) (fun _ h9 => h9) rfl dX6_move_63 ?_
      refine lv_iload hx hb dX6_move_66 (lv_at hl 5 rfl) ?_
      obtain ⟨hi14, hf⟩ := it_s hf
      refine va_iald hx hb hK hP 15 0 rfl rfl (inb_in hi14) dX6_move_68 ?_
      refine lv_iload_n hx hb dX6_move_69 rfl (lv_at hl 3 rfl) ?_
      refine lv_icmp_ne (tgt := 77) hx hb dX6_move_70 (by decide) (fun c15 => ?_) (fun c15 => ?_)
      · replace hf := it_n c15 hf
        refine lv_iconst (v := (1 : Int32)) hx hb dX6_move_77 (by decide) ?_
        exact b78 st x1 x2 x3 x5 x4 (1 : Int32) _ hf kc ke H locs ls ⟨hP, hD, hS⟩ (lv_sub hl [0, 1, 2, 3, 5] rfl)
      · replace hf := it_p c15 hf
        refine lv_iconst (v := (0 : Int32)) hx hb dX6_move_73 (by decide) ?_
        refine lv_goto (tgt := 78) hx hb dX6_move_74 (by decide) ?_
        exact b78 st x1 x2 x3 x5 x4 (0 : Int32) _ hf kc ke H locs ls ⟨hP, hD, hS⟩ (lv_sub hl [0, 1, 2, 3, 5] rfl)
  have main : ∀ (H : Heap) (locs : List Loc) (ls : Array Slot), IN (dC, dI) (WX6 a b cI cJ cZ st) A s.heap H locs → lv_has ls 6 [(0, .ref (a 0)), (1, .int x1), (2, .int x2), (3, .int x3)] → W p l e (headSpec wsX6_move rX6_move).room s m args below meth c H locs 0 0 QQ (F0 m 0 ls []) := by
    intro H locs ls hin hl
    obtain ⟨hP, hD, hS⟩ := hin
    unfold fX6_move at hf
    refine lv_aload_n hx hb dX6_move_0 rfl (lv_at hl 0 rfl) ?_
    refine lv_iconst (v := (0 : Int32)) hx hb dX6_move_1 (by decide) ?_
    refine va_put (D := (dC, dI)) (ci := 6) (v := .int (0 : Int32)) (ty := .int) (C := RX6) (T := TX6) (N := 26) hx hb hts kX6_move_X6 tyX6 tyX6_ok nmX6 hown hK hP hD hS 0 rfl rfl 0 (by decide) (hts _ mX6_move_1) (fun _ h9 => h9) rfl (by decide +kernel) rfl rfl (Nat.le_of_ble_eq_true rfl) dX6_move_2 (fun H locs hP hD hS => ?_)
    obtain ⟨s1, hs2, hf⟩ := bnd_e hf
    replace hP := putP_thrown hs2 hP
    replace hD := putD_thrown hs2 hD
    refine lv_aload_n hx hb dX6_move_5 rfl (lv_at hl 0 rfl) ?_
    refine lv_iload_n hx hb dX6_move_6 rfl (lv_at hl 3 rfl) ?_
    obtain ⟨r3, hc4, hf⟩ := bind_s hf
    refine cpV (v := .int r3) ⟨hx, hb, hml, hown, hts⟩ (ct_X6_noUnit l dC dI a b cI cJ cZ s1 x3 r3 hc4) (cwV 1 hts gX6_move_X6_noUnit rfl rfl rfl (by decide +kernel) ⟨(Nat.le_of_ble_eq_true rfl), (Nat.le_of_ble_eq_true rfl)⟩) hK hP [0, 1, 2, 3, 4, 5, 6, 7, 8, 9, 10, 11, 12, 13, 14, 15, 16, 17, 18, 19, 20] rfl rfl rfl rfl hl.1 rfl (Nat.le_of_ble_eq_true rfl) (Nat.le_of_ble_eq_true rfl) (Nat.le_of_ble_eq_true rfl) dX6_move_7 ?_
    refine lv_if_eq (tgt := 15) hx hb dX6_move_10 (by decide) (fun c5 => ?_) (fun c5 => ?_)
    · replace hf := it_p c5 hf
      refine lv_iload_n hx hb dX6_move_15 rfl (lv_at hl 2 rfl) ?_
      refine lv_iconst (v := (1 : Int32)) hx hb dX6_move_16 (by decide) ?_
      refine lv_icmp_ge (tgt := 23) hx hb dX6_move_17 (by decide) (fun c6 => ?_) (fun c6 => ?_)
      · replace hf := it_p c6 hf
        refine lv_aload_n hx hb dX6_move_23 rfl (lv_at hl 0 rfl) ?_
        refine lv_iload_n hx hb dX6_move_24 rfl (lv_at hl 1 rfl) ?_
        refine lv_iload_n hx hb dX6_move_25 rfl (lv_at hl 2 rfl) ?_
        obtain ⟨r7, hc8, hf⟩ := bind_s hf
        refine cpV (v := .int r7) ⟨hx, hb, hml, hown, hts⟩ (ct_X6_noSerials l dC dI a b cI cJ cZ s1 x1 x2 r7 hc8) (cwV 2 hts gX6_move_X6_noSerials rfl rfl rfl (by decide +kernel) ⟨(Nat.le_of_ble_eq_true rfl), (Nat.le_of_ble_eq_true rfl)⟩) hK hP [0, 1, 2, 3, 4, 5, 6, 7, 8, 9, 10, 11, 12, 13, 14, 15, 16, 17, 18, 19, 20] rfl rfl rfl rfl hl.1 rfl (Nat.le_of_ble_eq_true rfl) (Nat.le_of_ble_eq_true rfl) (Nat.le_of_ble_eq_true rfl) dX6_move_26 ?_
        refine lv_if_eq (tgt := 34) hx hb dX6_move_29 (by decide) (fun c9 => ?_) (fun c9 => ?_)
        · replace hf := it_p c9 hf
          refine lv_aload_n hx hb dX6_move_34 rfl (lv_at hl 0 rfl) ?_
          refine lv_iload_n hx hb dX6_move_35 rfl (lv_at hl 1 rfl) ?_
          refine lv_iload_n hx hb dX6_move_36 rfl (lv_at hl 2 rfl) ?_
          obtain ⟨r10, hc11, hf⟩ := bind_s hf
          refine cpV (v := .int r10) ⟨hx, hb, hml, hown, hts⟩ (ct_X6_hasUsed l dC dI a b cI cJ cZ s1 x1 x2 r10 hc11) (cwV 2 hts gX6_move_X6_hasUsed rfl rfl rfl (by decide +kernel) ⟨(Nat.le_of_ble_eq_true rfl), (Nat.le_of_ble_eq_true rfl)⟩) hK hP [0, 1, 2, 3, 4, 5, 6, 7, 8, 9, 10, 11, 12, 13, 14, 15, 16, 17, 18, 19, 20] rfl rfl rfl rfl hl.1 rfl (Nat.le_of_ble_eq_true rfl) (Nat.le_of_ble_eq_true rfl) (Nat.le_of_ble_eq_true rfl) dX6_move_37 ?_
          refine lv_if_eq (tgt := 46) hx hb dX6_move_40 (by decide) (fun c12 => ?_) (fun c12 => ?_)
          · replace hf := it_p c12 hf
            refine lv_iconst (v := (0 : Int32)) hx hb dX6_move_46 (by decide) ?_
            refine lv_istore (lv' := [(4, .int (0 : Int32)), (0, .ref (a 0)), (1, .int x1), (2, .int x2), (3, .int x3)]) hx hb dX6_move_47 hl (by decide) rfl (fun ls hl => ?_)
            refine lv_iload_n hx hb dX6_move_49 rfl (lv_at hl 2 rfl) ?_
            refine lv_istore (lv' := [(5, .int x1), (4, .int (0 : Int32)), (0, .ref (a 0)), (1, .int x1), (2, .int x2), (3, .int x3)]) hx hb dX6_move_50 hl (by decide) rfl (fun ls hl => ?_)
            obtain ⟨y19, hlp, hf⟩ := bind_s hf
            refine l52 x1 x2 x3 fuelN (s1, (0 : Int32), x1) y19 hlp ?_ H locs ls ⟨hP, hD, hS⟩ (lv_sub hl [2, 3, 4, 5, 1, 0] rfl)
            intro H locs ls hin hl
            obtain ⟨hP, hD, hS⟩ := hin
            refine lv_iload hx hb dX6_move_95 (lv_at hl 4 rfl) ?_
            obtain rfl := Option.some.inj hf
            rw [hQ]
            exact W.iret hx hb hr (fun t ht hW => ⟨rfl, ⟨by rw [ht]; exact hP, hD⟩, hS.F ht⟩) hS.2.2 dX6_move_97
          · replace hf := it_n c12 hf
            refine lv_bipush (v := (-3 : Int32)) hx hb dX6_move_43 (by decide) ?_
            obtain rfl := Option.some.inj hf
            rw [hQ]
            exact W.iret hx hb hr (fun t ht hW => ⟨rfl, ⟨by rw [ht]; exact hP, hD⟩, hS.F ht⟩) hS.2.2 dX6_move_45
        · replace hf := it_n c9 hf
          refine lv_iconst (v := (-1 : Int32)) hx hb dX6_move_32 (by decide) ?_
          obtain rfl := Option.some.inj hf
          rw [hQ]
          exact W.iret hx hb hr (fun t ht hW => ⟨rfl, ⟨by rw [ht]; exact hP, hD⟩, hS.F ht⟩) hS.2.2 dX6_move_33
      · replace hf := it_n c6 hf
        refine lv_bipush (v := (-2 : Int32)) hx hb dX6_move_20 (by decide) ?_
        obtain rfl := Option.some.inj hf
        rw [hQ]
        exact W.iret hx hb hr (fun t ht hW => ⟨rfl, ⟨by rw [ht]; exact hP, hD⟩, hS.F ht⟩) hS.2.2 dX6_move_22
    · replace hf := it_n c5 hf
      refine lv_iconst (v := (-1 : Int32)) hx hb dX6_move_13 (by decide) ?_
      obtain rfl := Option.some.inj hf
      rw [hQ]
      exact W.iret hx hb hr (fun t ht hW => ⟨rfl, ⟨by rw [ht]; exact hP, hD⟩, hS.F ht⟩) hS.2.2 dX6_move_14
  exact main s.heap [] ls ⟨hP, hD, va_S.rf⟩ hl
def rX6_use : Room := { frames := 2, cells := 0, slots := 0, locals := 46 }
theorem kX6_use_X6 : ∀ w ∈ wsX60, w ∈ wsX6_use := fun w h => (List.mem_cons_of_mem _ (List.mem_append_right _ h))
theorem mX6_use_1 : Cond.fieldLink RX6 76 "SmokeLedgerModel" "thrown" "I" ∈ wsX6_use := List.mem_of_getElem? (i := 1) rfl
theorem mX6_use_2 : Cond.fieldLink RX6 29 "SmokeLedgerModel" "kind" "[I" ∈ wsX6_use := List.mem_of_getElem? (i := 2) rfl
theorem mX6_use_3 : Cond.fieldLink RX6 56 "SmokeLedgerModel" "owner" "[I" ∈ wsX6_use := List.mem_of_getElem? (i := 3) rfl
theorem mX6_use_4 : Cond.fieldLink RX6 26 "SmokeLedgerModel" "unitOf" "[I" ∈ wsX6_use := List.mem_of_getElem? (i := 4) rfl
theorem mX6_use_5 : Cond.fieldLink RX6 41 "SmokeLedgerModel" "covered" "[I" ∈ wsX6_use := List.mem_of_getElem? (i := 5) rfl
theorem mX6_use_6 : Cond.fieldLink RX6 32 "SmokeLedgerModel" "amount" "[I" ∈ wsX6_use := List.mem_of_getElem? (i := 6) rfl
theorem mX6_use_7 : Cond.fieldLink RX6 59 "SmokeLedgerModel" "used" "[I" ∈ wsX6_use := List.mem_of_getElem? (i := 7) rfl
set_option maxHeartbeats 4000000 in
set_option maxRecDepth 100000 in
theorem ct_X6_use (l : Launch) (dC : Nat → ClassId) (dI : Nat → Nat → Nat) (a b : Nat → Nat) (cI cJ cZ : ClassId) (sz : Nat) (st : MS) (x1 : Int32) (x2 : Int32) (x3 : Int32) (res : Int32 × MS) (hf : fX6_use st x1 x2 x3 = some res) : Met l yX6_use wsX6_use rX6_use (Pm (dC, dI) (tyT cI cJ cZ) (WX6 a b cI cJ cZ st) sz [.ref (a 0), .int x1, .int x2, .int x3]) (Qm (dC, dI) (some (.int res.1)) (WX6 a b cI cJ cZ res.2) (va_A (WX6 a b cI cJ cZ st) sz)) 0 0 (va_A (WX6 a b cI cJ cZ st) sz) := by
  refine Met.ofW (cc := cX6_use) (maxL := 6) (ret := (some .int)) (by decide) rfl ?_
  intro p e s m args below meth c s₁ B hml hv
  obtain ⟨hargs, hsz, hP, hK, hD0⟩ := hv
  have hx := B.exec
  have hb := B.bytes
  have hr := B.returns
  have hts := atoms_spec (ws := wsX6_use) B.pre
  have hown : s.vm.findClass RX6 = some m.cls := findClass_of_methodNamed B.named
  have hlocks := B.notSynchronized
  subst hsz
  have hD := hD0.self (sz := s.heap.size)
  generalize hAe : va_A (WX6 a b cI cJ cZ st) s.heap.size = A at hD ⊢
  have hA : ∀ q : Nat, s.heap.size ≤ q → A q := fun q h => by rw [← hAe]; exact Or.inr h
  have hl := lv_entry ([.ref (a 0), .int x1, .int x2, .int x3]) (n := 6) (Nat.le_of_ble_eq_true rfl)
  refine W.eq (hargs ▸ lg_entry_eq m [.ref (a 0), .int x1, .int x2, .int x3] 6) ?_
  generalize (lg_sl ([.ref (a 0), .int x1, .int x2, .int x3]) ++ List.replicate (6 - (lg_sl ([.ref (a 0), .int x1, .int x2, .int x3])).length) Slot.unset).toArray = ls at hl ⊢
  have hl : lv_has ls 6 [(0, .ref (a 0)), (1, .int x1), (2, .int x2), (3, .int x3)] := hl
  obtain ⟨QQ, hQ⟩ : ∃ QQ : State → Prop, QQ = MQ below (Qm (dC, dI) (some (.int res.1)) (WX6 a b cI cJ cZ res.2) A) args s 0 0 (A) := ⟨_, rfl⟩
  rw [← hQ]
  have l63 : ∀ (st : MS) (x1 : Int32) (x2 : Int32) (x3 : Int32) (fu : Nat) (s0 : Int32 × Int32) (r : Int32 × Int32), loopN (fun (s : Int32 × Int32) => fX6_use_l63 st x1 x2 x3 s.1 s.2) fu s0 = some r → (∀ (H : Heap) (locs : List Loc) (ls : Array Slot), IN (dC, dI) (WX6 a b cI cJ cZ st) A s.heap H locs → lv_has ls 6 [(0, .ref (a 0)), (1, .int x1), (2, .int x2), (3, .int x3), (4, .int r.1), (5, .int r.2)] → W p l e (headSpec wsX6_use rX6_use).room s m args below meth c H locs 0 0 QQ (F0 m 105 ls [])) → (∀ (H : Heap) (locs : List Loc) (ls : Array Slot), IN (dC, dI) (WX6 a b cI cJ cZ st) A s.heap H locs → lv_has ls 6 [(0, .ref (a 0)), (1, .int x1), (2, .int x2), (3, .int x3), (4, .int s0.1), (5, .int s0.2)] → W p l e (headSpec wsX6_use rX6_use).room s m args below meth c H locs 0 0 QQ (F0 m 63 ls [])) := by
    intro st x1 x2 x3 fu s0 r
    have b97 : ∀ (st : MS) (x1 : Int32) (x2 : Int32) (x3 : Int32) (x5 : Int32) (k0 : Int32) (x : (Int32 × Int32) ⊕ (Int32 × Int32)), fX6_use_b97 st x1 x2 x3 x5 k0 = some x → (∀ s', x = .inl s' → (∀ (H : Heap) (locs : List Loc) (ls : Array Slot), IN (dC, dI) (WX6 a b cI cJ cZ st) A s.heap H locs → lv_has ls 6 [(0, .ref (a 0)), (1, .int x1), (2, .int x2), (3, .int x3), (4, .int s'.1), (5, .int s'.2)] → W p l e (headSpec wsX6_use rX6_use).room s m args below meth c H locs 0 0 QQ (F0 m 63 ls []))) → (∀ r, x = .inr r → (∀ (H : Heap) (locs : List Loc) (ls : Array Slot), IN (dC, dI) (WX6 a b cI cJ cZ st) A s.heap H locs → lv_has ls 6 [(0, .ref (a 0)), (1, .int x1), (2, .int x2), (3, .int x3), (4, .int r.1), (5, .int r.2)] → W p l e (headSpec wsX6_use rX6_use).room s m args below meth c H locs 0 0 QQ (F0 m 105 ls []))) → (∀ (H : Heap) (locs : List Loc) (ls : Array Slot), IN (dC, dI) (WX6 a b cI cJ cZ st) A s.heap H locs → lv_has ls 6 [(0, .ref (a 0)), (1, .int x1), (2, .int x2), (3, .int x3), (5, .int x5)] → W p l e (headSpec wsX6_use rX6_use).room s m args below meth c H locs 0 0 QQ (F0 m 97 ls [.int k0])) := by
      intro st x1 x2 x3 x5 k0 x hf kc ke
      intro H locs ls hin hl
      obtain ⟨hP, hD, hS⟩ := hin
      unfold fX6_use_b97 at hf
      refine lv_istore (lv' := [(4, .int k0), (0, .ref (a 0)), (1, .int x1), (2, .int x2), (3, .int x3), (5, .int x5)]) hx hb dX6_use_97 hl (by decide) rfl (fun ls hl => ?_)
      refine lv_iinc (v := (x5 + (1 : Int32))) (lv' := [(5, .int (x5 + (1 : Int32))), (4, .int k0), (0, .ref (a 0)), (1, .int x1), (2, .int x2), (3, .int x3)]) hx hb dX6_use_99 hl (k := 5) rfl rfl (by decide) rfl (fun ls hl => ?_)
      refine lv_goto (tgt := 63) hx hb dX6_use_102 (by decide) ?_
      obtain rfl := Option.some.inj hf
      exact kc _ rfl H locs ls ⟨hP, hD, hS⟩ (lv_sub hl [2, 3, 4, 5, 1, 0] rfl)
    have b92 : ∀ (st : MS) (x1 : Int32) (x2 : Int32) (x3 : Int32) (x5 : Int32) (x : (Int32 × Int32) ⊕ (Int32 × Int32)), fX6_use_b92 st x1 x2 x3 x5 = some x → (∀ s', x = .inl s' → (∀ (H : Heap) (locs : List Loc) (ls : Array Slot), IN (dC, dI) (WX6 a b cI cJ cZ st) A s.heap H locs → lv_has ls 6 [(0, .ref (a 0)), (1, .int x1), (2, .int x2), (3, .int x3), (4, .int s'.1), (5, .int s'.2)] → W p l e (headSpec wsX6_use rX6_use).room s m args below meth c H locs 0 0 QQ (F0 m 63 ls []))) → (∀ r, x = .inr r → (∀ (H : Heap) (locs : List Loc) (ls : Array Slot), IN (dC, dI) (WX6 a b cI cJ cZ st) A s.heap H locs → lv_has ls 6 [(0, .ref (a 0)), (1, .int x1), (2, .int x2), (3, .int x3), (4, .int r.1), (5, .int r.2)] → W p l e (headSpec wsX6_use rX6_use).room s m args below meth c H locs 0 0 QQ (F0 m 105 ls []))) → (∀ (H : Heap) (locs : List Loc) (ls : Array Slot), IN (dC, dI) (WX6 a b cI cJ cZ st) A s.heap H locs → lv_has ls 6 [(0, .ref (a 0)), (1, .int x1), (2, .int x2), (3, .int x3), (5, .int x5)] → W p l e (headSpec wsX6_use rX6_use).room s m args below meth c H locs 0 0 QQ (F0 m 92 ls [])) := by
      intro st x1 x2 x3 x5 x hf kc ke
      intro H locs ls hin hl
      obtain ⟨hP, hD, hS⟩ := hin
      unfold fX6_use_b92 at hf
      refine lv_iconst (v := (1 : Int32)) hx hb dX6_use_92 (by decide) ?_
      refine lv_goto (tgt := 97) hx hb dX6_use_93 (by decide) ?_
      exact b97 st x1 x2 x3 x5 (1 : Int32) _ hf kc ke H locs ls ⟨hP, hD, hS⟩ (lv_sub hl [0, 1, 2, 3, 4] rfl)
    refine loop_ind (P := fun s0 => ∀ (H : Heap) (locs : List Loc) (ls : Array Slot), IN (dC, dI) (WX6 a b cI cJ cZ st) A s.heap H locs → lv_has ls 6 [(0, .ref (a 0)), (1, .int x1), (2, .int x2), (3, .int x3), (4, .int s0.1), (5, .int s0.2)] → W p l e (headSpec wsX6_use rX6_use).room s m args below meth c H locs 0 0 QQ (F0 m 63 ls [])) (Q := fun r => ∀ (H : Heap) (locs : List Loc) (ls : Array Slot), IN (dC, dI) (WX6 a b cI cJ cZ st) A s.heap H locs → lv_has ls 6 [(0, .ref (a 0)), (1, .int x1), (2, .int x2), (3, .int x3), (4, .int r.1), (5, .int r.2)] → W p l e (headSpec wsX6_use rX6_use).room s m args below meth c H locs 0 0 QQ (F0 m 105 ls [])) ?_ fu s0 r
    clear fu s0 r
    rintro ⟨x4, x5⟩ x hf kc ke
    replace hf : fX6_use_l63 st x1 x2 x3 x4 x5 = some x := hf
    replace kc : (∀ s', x = .inl s' → (∀ (H : Heap) (locs : List Loc) (ls : Array Slot), IN (dC, dI) (WX6 a b cI cJ cZ st) A s.heap H locs → lv_has ls 6 [(0, .ref (a 0)), (1, .int x1), (2, .int x2), (3, .int x3), (4, .int s'.1), (5, .int s'.2)] → W p l e (headSpec wsX6_use rX6_use).room s m args below meth c H locs 0 0 QQ (F0 m 63 ls []))) := kc
    replace ke : (∀ r, x = .inr r → (∀ (H : Heap) (locs : List Loc) (ls : Array Slot), IN (dC, dI) (WX6 a b cI cJ cZ st) A s.heap H locs → lv_has ls 6 [(0, .ref (a 0)), (1, .int x1), (2, .int x2), (3, .int x3), (4, .int r.1), (5, .int r.2)] → W p l e (headSpec wsX6_use rX6_use).room s m args below meth c H locs 0 0 QQ (F0 m 105 ls []))) := ke
    intro H locs ls hin hl
    obtain ⟨hP, hD, hS⟩ := hin
    unfold fX6_use_l63 at hf
    refine lv_iload hx hb dX6_use_63 (lv_at hl 5 rfl) ?_
    refine lv_iload_n hx hb dX6_use_65 rfl (lv_at hl 1 rfl) ?_
    refine lv_iload_n hx hb dX6_use_66 rfl (lv_at hl 2 rfl) ?_
    refine lv_iadd hx hb dX6_use_67 ?_
    refine lv_icmp_ge (tgt := 105) hx hb dX6_use_68 (by decide) (fun c12 => ?_) (fun c12 => ?_)
    · replace hf := it_p c12 hf
      obtain rfl := Option.some.inj hf
      exact ke _ rfl H locs ls ⟨hP, hD, hS⟩ (lv_sub hl [0, 1, 2, 3, 4, 5] rfl)
    · replace hf := it_n c12 hf
      refine lv_iload hx hb dX6_use_71 (lv_at hl 4 rfl) ?_
      refine lv_if_ne (tgt := 92) hx hb dX6_use_73 (by decide) (fun c13 => ?_) (fun c13 => ?_)
      · replace hf := it_n c13 hf
        exact b92 st x1 x2 x3 x5 _ hf kc ke H locs ls ⟨hP, hD, hS⟩ (lv_sub hl [0, 1, 2, 3, 5] rfl)
      · replace hf := it_p c13 hf
        refine lv_aload_n hx hb dX6_use_76 rfl (lv_at hl 0 rfl) ?_
        refine va_get (D := (dC, dI)) (ci := 6) (v := .ref (a 15)) (C := RX6) (T := TX6) (N := 26) hx hb hts kX6_use_X6 hown hK hP 0 rfl rfl 20 (by decide) (hts _ mX6_use_3) (fun _ h9 => h9) rfl dX6_use_77 ?_
        refine lv_iload hx hb dX6_use_80 (lv_at hl 5 rfl) ?_
        obtain ⟨hi14, hf⟩ := it_s hf
        refine va_iald hx hb hK hP 15 0 rfl rfl (inb_in hi14) dX6_use_82 ?_
        refine lv_aload_n hx hb dX6_use_83 rfl (lv_at hl 0 rfl) ?_
        refine va_get (D := (dC, dI)) (ci := 6) (v := .ref (a 5)) (C := RX6) (T := TX6) (N := 26) hx hb hts kX6_use_X6 hown hK hP 0 rfl rfl 8 (by decide) (hts _ mX6_use_4) (fun _ h9 => h9) rfl dX6_use_84 ?_
        refine lv_iload_n hx hb dX6_use_87 rfl (lv_at hl 3 rfl) ?_
        obtain ⟨hi15, hf⟩ := it_s hf
        refine va_iald hx hb hK hP 5 0 rfl rfl (inb_in hi15) dX6_use_88 ?_
        refine lv_icmp_eq (tgt := 96) hx hb dX6_use_89 (by decide) (fun c16 => ?_) (fun c16 => ?_)
        · replace hf := it_p c16 hf
          refine lv_iconst (v := (0 : Int32)) hx hb dX6_use_96 (by decide) ?_
          exact b97 st x1 x2 x3 x5 (0 : Int32) _ hf kc ke H locs ls ⟨hP, hD, hS⟩ (lv_sub hl [0, 1, 2, 3, 5] rfl)
        · replace hf := it_n c16 hf
          exact b92 st x1 x2 x3 x5 _ hf kc ke H locs ls ⟨hP, hD, hS⟩ (lv_sub hl [0, 1, 2, 3, 5] rfl)
  have l136 : ∀ (x1 : Int32) (x2 : Int32) (x3 : Int32) (fu : Nat) (s0 : MS × Int32) (r : MS × Int32), loopN (fun (s : MS × Int32) => fX6_use_l136 x1 x2 x3 s.1 s.2) fu s0 = some r → (∀ (H : Heap) (locs : List Loc) (ls : Array Slot), IN (dC, dI) (WX6 a b cI cJ cZ r.1) A s.heap H locs → lv_has ls 6 [(0, .ref (a 0)), (1, .int x1), (2, .int x2), (3, .int x3), (5, .int r.2)] → W p l e (headSpec wsX6_use rX6_use).room s m args below meth c H locs 0 0 QQ (F0 m 158 ls [])) → (∀ (H : Heap) (locs : List Loc) (ls : Array Slot), IN (dC, dI) (WX6 a b cI cJ cZ s0.1) A s.heap H locs → lv_has ls 6 [(0, .ref (a 0)), (1, .int x1), (2, .int x2), (3, .int x3), (5, .int s0.2)] → W p l e (headSpec wsX6_use rX6_use).room s m args below meth c H locs 0 0 QQ (F0 m 136 ls [])) := by
    intro x1 x2 x3 fu s0 r
    refine loop_ind (P := fun s0 => ∀ (H : Heap) (locs : List Loc) (ls : Array Slot), IN (dC, dI) (WX6 a b cI cJ cZ s0.1) A s.heap H locs → lv_has ls 6 [(0, .ref (a 0)), (1, .int x1), (2, .int x2), (3, .int x3), (5, .int s0.2)] → W p l e (headSpec wsX6_use rX6_use).room s m args below meth c H locs 0 0 QQ (F0 m 136 ls [])) (Q := fun r => ∀ (H : Heap) (locs : List Loc) (ls : Array Slot), IN (dC, dI) (WX6 a b cI cJ cZ r.1) A s.heap H locs → lv_has ls 6 [(0, .ref (a 0)), (1, .int x1), (2, .int x2), (3, .int x3), (5, .int r.2)] → W p l e (headSpec wsX6_use rX6_use).room s m args below meth c H locs 0 0 QQ (F0 m 158 ls [])) ?_ fu s0 r
    clear fu s0 r
    rintro ⟨st, x5⟩ x hf kc ke
    replace hf : fX6_use_l136 x1 x2 x3 st x5 = some x := hf
    replace kc : (∀ s', x = .inl s' → (∀ (H : Heap) (locs : List Loc) (ls : Array Slot), IN (dC, dI) (WX6 a b cI cJ cZ s'.1) A s.heap H locs → lv_has ls 6 [(0, .ref (a 0)), (1, .int x1), (2, .int x2), (3, .int x3), (5, .int s'.2)] → W p l e (headSpec wsX6_use rX6_use).room s m args below meth c H locs 0 0 QQ (F0 m 136 ls []))) := kc
    replace ke : (∀ r, x = .inr r → (∀ (H : Heap) (locs : List Loc) (ls : Array Slot), IN (dC, dI) (WX6 a b cI cJ cZ r.1) A s.heap H locs → lv_has ls 6 [(0, .ref (a 0)), (1, .int x1), (2, .int x2), (3, .int x3), (5, .int r.2)] → W p l e (headSpec wsX6_use rX6_use).room s m args below meth c H locs 0 0 QQ (F0 m 158 ls []))) := ke
    intro H locs ls hin hl
    obtain ⟨hP, hD, hS⟩ := hin
    unfold fX6_use_l136 at hf
    refine lv_iload hx hb dX6_use_136 (lv_at hl 4 rfl) ?_
    refine lv_iload_n hx hb dX6_use_138 rfl (lv_at hl 1 rfl) ?_
    refine lv_iload_n hx hb dX6_use_139 rfl (lv_at hl 2 rfl) ?_
    refine lv_iadd hx hb dX6_use_140 ?_
    refine lv_icmp_ge (tgt := 158) hx hb dX6_use_141 (by decide) (fun c22 => ?_) (fun c22 => ?_)
    · replace hf := it_p c22 hf
      obtain rfl := Option.some.inj hf
      exact ke _ rfl H locs ls ⟨hP, hD, hS⟩ (lv_sub hl [0, 1, 2, 3, 4] rfl)
    · replace hf := it_n c22 hf
      refine lv_aload_n hx hb dX6_use_144 rfl (lv_at hl 0 rfl) ?_
      refine va_get (D := (dC, dI)) (ci := 6) (v := .ref (a 16)) (C := RX6) (T := TX6) (N := 26) hx hb hts kX6_use_X6 hown hK hP 0 rfl rfl 21 (by decide) (hts _ mX6_use_7) (fun _ h9 => h9) rfl dX6_use_145 ?_
      refine lv_iload hx hb dX6_use_148 (lv_at hl 4 rfl) ?_
      refine lv_iload_n hx hb dX6_use_150 rfl (lv_at hl 3 rfl) ?_
      obtain ⟨hi23, hf⟩ := it_s hf
      refine va_iast hx hb hK hP hD hS 16 0 rfl rfl (inb_in hi23) dX6_use_151 (fun H locs hP hD hS => ?_)
      obtain ⟨s24, hs25, hf⟩ := bnd_e hf
      replace hP := putP_used hs25 hP
      replace hD := putD_used hs25 hD
      refine lv_iinc (v := (x5 + (1 : Int32))) (lv' := [(5, .int (x5 + (1 : Int32))), (0, .ref (a 0)), (1, .int x1), (2, .int x2), (3, .int x3)]) hx hb dX6_use_152 hl (k := 4) rfl rfl (by decide) rfl (fun ls hl => ?_)
      refine lv_goto (tgt := 136) hx hb dX6_use_155 (by decide) ?_
      obtain rfl := Option.some.inj hf
      exact kc _ rfl H locs ls ⟨hP, hD, hS⟩ (lv_sub hl [1, 2, 3, 4, 0] rfl)
  have b58 : ∀ (st : MS) (x1 : Int32) (x2 : Int32) (x3 : Int32) (k0 : Int32), fX6_use_b58 st x1 x2 x3 k0 = some res → (∀ (H : Heap) (locs : List Loc) (ls : Array Slot), IN (dC, dI) (WX6 a b cI cJ cZ st) A s.heap H locs → lv_has ls 6 [(0, .ref (a 0)), (1, .int x1), (2, .int x2), (3, .int x3)] → W p l e (headSpec wsX6_use rX6_use).room s m args below meth c H locs 0 0 QQ (F0 m 58 ls [.int k0])) := by
    intro st x1 x2 x3 k0 hf
    intro H locs ls hin hl
    obtain ⟨hP, hD, hS⟩ := hin
    unfold fX6_use_b58 at hf
    refine lv_istore (lv' := [(4, .int k0), (0, .ref (a 0)), (1, .int x1), (2, .int x2), (3, .int x3)]) hx hb dX6_use_58 hl (by decide) rfl (fun ls hl => ?_)
    refine lv_iload_n hx hb dX6_use_60 rfl (lv_at hl 2 rfl) ?_
    refine lv_istore (lv' := [(5, .int x1), (4, .int k0), (0, .ref (a 0)), (1, .int x1), (2, .int x2), (3, .int x3)]) hx hb dX6_use_61 hl (by decide) rfl (fun ls hl => ?_)
    obtain ⟨y17, hlp, hf⟩ := bind_s hf
    refine l63 st x1 x2 x3 fuelN (k0, x1) y17 hlp ?_ H locs ls ⟨hP, hD, hS⟩ (lv_sub hl [2, 3, 4, 5, 1, 0] rfl)
    intro H locs ls hin hl
    obtain ⟨hP, hD, hS⟩ := hin
    refine lv_iload hx hb dX6_use_105 (lv_at hl 4 rfl) ?_
    refine lv_if_eq (tgt := 113) hx hb dX6_use_107 (by decide) (fun c18 => ?_) (fun c18 => ?_)
    · replace hf := it_p c18 hf
      refine lv_aload_n hx hb dX6_use_113 rfl (lv_at hl 0 rfl) ?_
      refine va_get (D := (dC, dI)) (ci := 6) (v := .ref (a 10)) (C := RX6) (T := TX6) (N := 26) hx hb hts kX6_use_X6 hown hK hP 0 rfl rfl 13 (by decide) (hts _ mX6_use_5) (fun _ h9 => h9) rfl dX6_use_114 ?_
      refine lv_iload_n hx hb dX6_use_117 rfl (lv_at hl 3 rfl) ?_
      obtain ⟨hi19, hf⟩ := it_s hf
      refine va_iald hx hb hK hP 10 0 rfl rfl (inb_in hi19) dX6_use_118 ?_
      refine lv_iload_n hx hb dX6_use_119 rfl (lv_at hl 2 rfl) ?_
      refine lv_iadd hx hb dX6_use_120 ?_
      refine lv_aload_n hx hb dX6_use_121 rfl (lv_at hl 0 rfl) ?_
      refine va_get (D := (dC, dI)) (ci := 6) (v := .ref (a 7)) (C := RX6) (T := TX6) (N := 26) hx hb hts kX6_use_X6 hown hK hP 0 rfl rfl 10 (by decide) (hts _ mX6_use_6) (fun _ h9 => h9) rfl dX6_use_122 ?_
      refine lv_iload_n hx hb dX6_use_125 rfl (lv_at hl 3 rfl) ?_
      obtain ⟨hi20, hf⟩ := it_s hf
      refine va_iald hx hb hK hP 7 0 rfl rfl (inb_in hi20) dX6_use_126 ?_
      refine lv_icmp_le (tgt := 133) hx hb dX6_use_127 (by decide) (fun c21 => ?_) (fun c21 => ?_)
      · replace hf := it_p c21 hf
        refine lv_iload_n hx hb dX6_use_133 rfl (lv_at hl 1 rfl) ?_
        refine lv_istore (lv' := [(5, .int x1), (0, .ref (a 0)), (1, .int x1), (2, .int x2), (3, .int x3), (4, .int y17.1)]) hx hb dX6_use_134 hl (by decide) rfl (fun ls hl => ?_)
        obtain ⟨y26, hlp, hf⟩ := bind_s hf
        refine l136 x1 x2 x3 fuelN (st, x1) y26 hlp ?_ H locs ls ⟨hP, hD, hS⟩ (lv_sub hl [1, 2, 3, 4, 0] rfl)
        intro H locs ls hin hl
        obtain ⟨hP, hD, hS⟩ := hin
        refine lv_aload_n hx hb dX6_use_158 rfl (lv_at hl 0 rfl) ?_
        refine va_get (D := (dC, dI)) (ci := 6) (v := .ref (a 10)) (C := RX6) (T := TX6) (N := 26) hx hb hts kX6_use_X6 hown hK hP 0 rfl rfl 13 (by decide) (hts _ mX6_use_5) (fun _ h9 => h9) rfl dX6_use_159 ?_
        refine lv_iload_n hx hb dX6_use_162 rfl (lv_at hl 3 rfl) ?_
        refine lv_dup2_11 hx hb dX6_use_163 rfl rfl ?_
        obtain ⟨hi27, hf⟩ := it_s hf
        refine va_iald hx hb hK hP 10 0 rfl rfl (inb_in hi27) dX6_use_164 ?_
        refine lv_iload_n hx hb dX6_use_165 rfl (lv_at hl 2 rfl) ?_
        refine lv_iadd hx hb dX6_use_166 ?_
        obtain ⟨hi28, hf⟩ := it_s hf
        refine va_iast hx hb hK hP hD hS 10 0 rfl rfl (inb_in hi28) dX6_use_167 (fun H locs hP hD hS => ?_)
        obtain ⟨s29, hs30, hf⟩ := bnd_e hf
        replace hP := putP_covered hs30 hP
        replace hD := putD_covered hs30 hD
        refine lv_aload_n hx hb dX6_use_168 rfl (lv_at hl 0 rfl) ?_
        refine va_get (D := (dC, dI)) (ci := 6) (v := .ref (a 10)) (C := RX6) (T := TX6) (N := 26) hx hb hts kX6_use_X6 hown hK hP 0 rfl rfl 13 (by decide) (hts _ mX6_use_5) (fun _ h9 => h9) rfl dX6_use_169 ?_
        refine lv_iload_n hx hb dX6_use_172 rfl (lv_at hl 3 rfl) ?_
        obtain ⟨hi31, hf⟩ := it_s hf
        refine va_iald hx hb hK hP 10 0 rfl rfl (inb_in hi31) dX6_use_173 ?_
        obtain rfl := Option.some.inj hf
        rw [hQ]
        exact W.iret hx hb hr (fun t ht hW => ⟨rfl, ⟨by rw [ht]; exact hP, hD⟩, hS.F ht⟩) hS.2.2 dX6_use_174
      · replace hf := it_n c21 hf
        refine lv_bipush (v := (-4 : Int32)) hx hb dX6_use_130 (by decide) ?_
        obtain rfl := Option.some.inj hf
        rw [hQ]
        exact W.iret hx hb hr (fun t ht hW => ⟨rfl, ⟨by rw [ht]; exact hP, hD⟩, hS.F ht⟩) hS.2.2 dX6_use_132
    · replace hf := it_n c18 hf
      refine lv_bipush (v := (-3 : Int32)) hx hb dX6_use_110 (by decide) ?_
      obtain rfl := Option.some.inj hf
      rw [hQ]
      exact W.iret hx hb hr (fun t ht hW => ⟨rfl, ⟨by rw [ht]; exact hP, hD⟩, hS.F ht⟩) hS.2.2 dX6_use_112
  have b53 : ∀ (st : MS) (x1 : Int32) (x2 : Int32) (x3 : Int32), fX6_use_b53 st x1 x2 x3 = some res → (∀ (H : Heap) (locs : List Loc) (ls : Array Slot), IN (dC, dI) (WX6 a b cI cJ cZ st) A s.heap H locs → lv_has ls 6 [(0, .ref (a 0)), (1, .int x1), (2, .int x2), (3, .int x3)] → W p l e (headSpec wsX6_use rX6_use).room s m args below meth c H locs 0 0 QQ (F0 m 53 ls [])) := by
    intro st x1 x2 x3 hf
    intro H locs ls hin hl
    obtain ⟨hP, hD, hS⟩ := hin
    unfold fX6_use_b53 at hf
    refine lv_iconst (v := (1 : Int32)) hx hb dX6_use_53 (by decide) ?_
    refine lv_goto (tgt := 58) hx hb dX6_use_54 (by decide) ?_
    exact b58 st x1 x2 x3 (1 : Int32) hf H locs ls ⟨hP, hD, hS⟩ (lv_sub hl [0, 1, 2, 3] rfl)
  have main : ∀ (H : Heap) (locs : List Loc) (ls : Array Slot), IN (dC, dI) (WX6 a b cI cJ cZ st) A s.heap H locs → lv_has ls 6 [(0, .ref (a 0)), (1, .int x1), (2, .int x2), (3, .int x3)] → W p l e (headSpec wsX6_use rX6_use).room s m args below meth c H locs 0 0 QQ (F0 m 0 ls []) := by
    intro H locs ls hin hl
    obtain ⟨hP, hD, hS⟩ := hin
    unfold fX6_use at hf
    refine lv_aload_n hx hb dX6_use_0 rfl (lv_at hl 0 rfl) ?_
    refine lv_iconst (v := (0 : Int32)) hx hb dX6_use_1 (by decide) ?_
    refine va_put (D := (dC, dI)) (ci := 6) (v := .int (0 : Int32)) (ty := .int) (C := RX6) (T := TX6) (N := 26) hx hb hts kX6_use_X6 tyX6 tyX6_ok nmX6 hown hK hP hD hS 0 rfl rfl 0 (by decide) (hts _ mX6_use_1) (fun _ h9 => h9) rfl (by decide +kernel) rfl rfl (Nat.le_of_ble_eq_true rfl) dX6_use_2 (fun H locs hP hD hS => ?_)
    obtain ⟨s1, hs2, hf⟩ := bnd_e hf
    replace hP := putP_thrown hs2 hP
    replace hD := putD_thrown hs2 hD
    refine lv_aload_n hx hb dX6_use_5 rfl (lv_at hl 0 rfl) ?_
    refine lv_iload_n hx hb dX6_use_6 rfl (lv_at hl 3 rfl) ?_
    obtain ⟨r3, hc4, hf⟩ := bind_s hf
    refine cpV (v := .int r3) ⟨hx, hb, hml, hown, hts⟩ (ct_X6_noRow l dC dI a b cI cJ cZ s1 x3 r3 hc4) (cwV 1 hts gX6_use_X6_noRow rfl rfl rfl (by decide +kernel) ⟨(Nat.le_of_ble_eq_true rfl), (Nat.le_of_ble_eq_true rfl)⟩) hK hP [0, 1, 2, 3, 4, 5, 6, 7, 8, 9, 10, 11, 12, 13, 14, 15, 16, 17, 18, 19, 20] rfl rfl rfl rfl hl.1 rfl (Nat.le_of_ble_eq_true rfl) (Nat.le_of_ble_eq_true rfl) (Nat.le_of_ble_eq_true rfl) dX6_use_7 ?_
    refine lv_if_eq (tgt := 15) hx hb dX6_use_10 (by decide) (fun c5 => ?_) (fun c5 => ?_)
    · replace hf := it_p c5 hf
      refine lv_iload_n hx hb dX6_use_15 rfl (lv_at hl 2 rfl) ?_
      refine lv_iconst (v := (1 : Int32)) hx hb dX6_use_16 (by decide) ?_
      refine lv_icmp_ge (tgt := 23) hx hb dX6_use_17 (by decide) (fun c6 => ?_) (fun c6 => ?_)
      · replace hf := it_p c6 hf
        refine lv_aload_n hx hb dX6_use_23 rfl (lv_at hl 0 rfl) ?_
        refine lv_iload_n hx hb dX6_use_24 rfl (lv_at hl 1 rfl) ?_
        refine lv_iload_n hx hb dX6_use_25 rfl (lv_at hl 2 rfl) ?_
        obtain ⟨r7, hc8, hf⟩ := bind_s hf
        refine cpV (v := .int r7) ⟨hx, hb, hml, hown, hts⟩ (ct_X6_noSerials l dC dI a b cI cJ cZ s1 x1 x2 r7 hc8) (cwV 2 hts gX6_use_X6_noSerials rfl rfl rfl (by decide +kernel) ⟨(Nat.le_of_ble_eq_true rfl), (Nat.le_of_ble_eq_true rfl)⟩) hK hP [0, 1, 2, 3, 4, 5, 6, 7, 8, 9, 10, 11, 12, 13, 14, 15, 16, 17, 18, 19, 20] rfl rfl rfl rfl hl.1 rfl (Nat.le_of_ble_eq_true rfl) (Nat.le_of_ble_eq_true rfl) (Nat.le_of_ble_eq_true rfl) dX6_use_26 ?_
        refine lv_if_eq (tgt := 34) hx hb dX6_use_29 (by decide) (fun c9 => ?_) (fun c9 => ?_)
        · replace hf := it_p c9 hf
          refine lv_aload_n hx hb dX6_use_34 rfl (lv_at hl 0 rfl) ?_
          refine va_get (D := (dC, dI)) (ci := 6) (v := .ref (a 6)) (C := RX6) (T := TX6) (N := 26) hx hb hts kX6_use_X6 hown hK hP 0 rfl rfl 9 (by decide) (hts _ mX6_use_2) (fun _ h9 => h9) rfl dX6_use_35 ?_
          refine lv_iload_n hx hb dX6_use_38 rfl (lv_at hl 3 rfl) ?_
          obtain ⟨hi10, hf⟩ := it_s hf
          refine va_iald hx hb hK hP 6 0 rfl rfl (inb_in hi10) dX6_use_39 ?_
          refine lv_iconst (v := (1 : Int32)) hx hb dX6_use_40 (by decide) ?_
          refine lv_icmp_ne (tgt := 53) hx hb dX6_use_41 (by decide) (fun c11 => ?_) (fun c11 => ?_)
          · replace hf := it_n c11 hf
            exact b53 s1 x1 x2 x3 hf H locs ls ⟨hP, hD, hS⟩ (lv_sub hl [0, 1, 2, 3] rfl)
          · replace hf := it_p c11 hf
            refine lv_aload_n hx hb dX6_use_44 rfl (lv_at hl 0 rfl) ?_
            refine lv_iload_n hx hb dX6_use_45 rfl (lv_at hl 1 rfl) ?_
            refine lv_iload_n hx hb dX6_use_46 rfl (lv_at hl 2 rfl) ?_
            obtain ⟨r32, hc33, hf⟩ := bind_s hf
            refine cpV (v := .int r32) ⟨hx, hb, hml, hown, hts⟩ (ct_X6_hasUsed l dC dI a b cI cJ cZ s1 x1 x2 r32 hc33) (cwV 2 hts gX6_use_X6_hasUsed rfl rfl rfl (by decide +kernel) ⟨(Nat.le_of_ble_eq_true rfl), (Nat.le_of_ble_eq_true rfl)⟩) hK hP [0, 1, 2, 3, 4, 5, 6, 7, 8, 9, 10, 11, 12, 13, 14, 15, 16, 17, 18, 19, 20] rfl rfl rfl rfl hl.1 rfl (Nat.le_of_ble_eq_true rfl) (Nat.le_of_ble_eq_true rfl) (Nat.le_of_ble_eq_true rfl) dX6_use_47 ?_
            refine lv_if_eq (tgt := 57) hx hb dX6_use_50 (by decide) (fun c34 => ?_) (fun c34 => ?_)
            · replace hf := it_p c34 hf
              refine lv_iconst (v := (0 : Int32)) hx hb dX6_use_57 (by decide) ?_
              exact b58 s1 x1 x2 x3 (0 : Int32) hf H locs ls ⟨hP, hD, hS⟩ (lv_sub hl [0, 1, 2, 3] rfl)
            · replace hf := it_n c34 hf
              exact b53 s1 x1 x2 x3 hf H locs ls ⟨hP, hD, hS⟩ (lv_sub hl [0, 1, 2, 3] rfl)
        · replace hf := it_n c9 hf
          refine lv_iconst (v := (-1 : Int32)) hx hb dX6_use_32 (by decide) ?_
          obtain rfl := Option.some.inj hf
          rw [hQ]
          exact W.iret hx hb hr (fun t ht hW => ⟨rfl, ⟨by rw [ht]; exact hP, hD⟩, hS.F ht⟩) hS.2.2 dX6_use_33
      · replace hf := it_n c6 hf
        refine lv_bipush (v := (-2 : Int32)) hx hb dX6_use_20 (by decide) ?_
        obtain rfl := Option.some.inj hf
        rw [hQ]
        exact W.iret hx hb hr (fun t ht hW => ⟨rfl, ⟨by rw [ht]; exact hP, hD⟩, hS.F ht⟩) hS.2.2 dX6_use_22
    · replace hf := it_n c5 hf
      refine lv_iconst (v := (-1 : Int32)) hx hb dX6_use_13 (by decide) ?_
      obtain rfl := Option.some.inj hf
      rw [hQ]
      exact W.iret hx hb hr (fun t ht hW => ⟨rfl, ⟨by rw [ht]; exact hP, hD⟩, hS.F ht⟩) hS.2.2 dX6_use_14
  exact main s.heap [] ls ⟨hP, hD, va_S.rf⟩ hl
def rX6_owner : Room := { frames := 1, cells := 0, slots := 0, locals := 25 }
theorem kX6_owner_X6 : ∀ w ∈ wsX60, w ∈ wsX6_owner := fun w h => (List.mem_cons_of_mem _ (List.mem_append_right _ h))
theorem mX6_owner_1 : Cond.fieldLink RX6 76 "SmokeLedgerModel" "thrown" "I" ∈ wsX6_owner := List.mem_of_getElem? (i := 1) rfl
theorem mX6_owner_2 : Cond.fieldLink RX6 164 "SmokeLedgerModel" "serials" "I" ∈ wsX6_owner := List.mem_of_getElem? (i := 2) rfl
theorem mX6_owner_3 : Cond.fieldLink RX6 56 "SmokeLedgerModel" "owner" "[I" ∈ wsX6_owner := List.mem_of_getElem? (i := 3) rfl
set_option maxHeartbeats 4000000 in
set_option maxRecDepth 100000 in
theorem ct_X6_owner (l : Launch) (dC : Nat → ClassId) (dI : Nat → Nat → Nat) (a b : Nat → Nat) (cI cJ cZ : ClassId) (sz : Nat) (st : MS) (x1 : Int32) (res : Int32 × MS) (hf : fX6_owner st x1 = some res) : Met l yX6_owner wsX6_owner rX6_owner (Pm (dC, dI) (tyT cI cJ cZ) (WX6 a b cI cJ cZ st) sz [.ref (a 0), .int x1]) (Qm (dC, dI) (some (.int res.1)) (WX6 a b cI cJ cZ res.2) (va_A (WX6 a b cI cJ cZ st) sz)) 0 0 (va_A (WX6 a b cI cJ cZ st) sz) := by
  refine Met.ofW (cc := cX6_owner) (maxL := 2) (ret := (some .int)) (by decide) rfl ?_
  intro p e s m args below meth c s₁ B hml hv
  obtain ⟨hargs, hsz, hP, hK, hD0⟩ := hv
  have hx := B.exec
  have hb := B.bytes
  have hr := B.returns
  have hts := atoms_spec (ws := wsX6_owner) B.pre
  have hown : s.vm.findClass RX6 = some m.cls := findClass_of_methodNamed B.named
  have hlocks := B.notSynchronized
  subst hsz
  have hD := hD0.self (sz := s.heap.size)
  generalize hAe : va_A (WX6 a b cI cJ cZ st) s.heap.size = A at hD ⊢
  have hA : ∀ q : Nat, s.heap.size ≤ q → A q := fun q h => by rw [← hAe]; exact Or.inr h
  have hl := lv_entry ([.ref (a 0), .int x1]) (n := 2) (Nat.le_of_ble_eq_true rfl)
  refine W.eq (hargs ▸ lg_entry_eq m [.ref (a 0), .int x1] 2) ?_
  generalize (lg_sl ([.ref (a 0), .int x1]) ++ List.replicate (2 - (lg_sl ([.ref (a 0), .int x1])).length) Slot.unset).toArray = ls at hl ⊢
  have hl : lv_has ls 2 [(0, .ref (a 0)), (1, .int x1)] := hl
  obtain ⟨QQ, hQ⟩ : ∃ QQ : State → Prop, QQ = MQ below (Qm (dC, dI) (some (.int res.1)) (WX6 a b cI cJ cZ res.2) A) args s 0 0 (A) := ⟨_, rfl⟩
  rw [← hQ]
  have main : ∀ (H : Heap) (locs : List Loc) (ls : Array Slot), IN (dC, dI) (WX6 a b cI cJ cZ st) A s.heap H locs → lv_has ls 2 [(0, .ref (a 0)), (1, .int x1)] → W p l e (headSpec wsX6_owner rX6_owner).room s m args below meth c H locs 0 0 QQ (F0 m 0 ls []) := by
    intro H locs ls hin hl
    obtain ⟨hP, hD, hS⟩ := hin
    unfold fX6_owner at hf
    refine lv_aload_n hx hb dX6_owner_0 rfl (lv_at hl 0 rfl) ?_
    refine lv_iconst (v := (0 : Int32)) hx hb dX6_owner_1 (by decide) ?_
    refine va_put (D := (dC, dI)) (ci := 6) (v := .int (0 : Int32)) (ty := .int) (C := RX6) (T := TX6) (N := 26) hx hb hts kX6_owner_X6 tyX6 tyX6_ok nmX6 hown hK hP hD hS 0 rfl rfl 0 (by decide) (hts _ mX6_owner_1) (fun _ h9 => h9) rfl (by decide +kernel) rfl rfl (Nat.le_of_ble_eq_true rfl) dX6_owner_2 (fun H locs hP hD hS => ?_)
    obtain ⟨s1, hs2, hf⟩ := bnd_e hf
    replace hP := putP_thrown hs2 hP
    replace hD := putD_thrown hs2 hD
    refine lv_iload_n hx hb dX6_owner_5 rfl (lv_at hl 1 rfl) ?_
    refine lv_i2l hx hb dX6_owner_6 rfl ?_
    refine lv_lconst (v := (1 : Int64)) hx hb dX6_owner_7 (by decide) ?_
    refine lv_aload_n hx hb dX6_owner_8 rfl (lv_at hl 0 rfl) ?_
    refine va_get (D := (dC, dI)) (ci := 6) (v := .int (MS_serials s1)) (C := RX6) (T := TX6) (N := 26) hx hb hts kX6_owner_X6 hown hK hP 0 rfl rfl 19 (by decide) (hts _ mX6_owner_2) (fun _ h9 => h9) rfl dX6_owner_9 ?_
    refine lv_i2l hx hb dX6_owner_12 rfl ?_
    obtain ⟨r3, hc4, hf⟩ := bind_s hf
    refine cpS (v := .int r3) ⟨hx, hb, hml, hown, hts⟩ (ct_X6_in l dC dI cI cJ cZ (Int32.toInt64 x1) (1 : Int64) (Int32.toInt64 (MS_serials s1)) r3 hc4) (va_cwS 3 hts gX6_owner_X6_in rfl rfl rfl (by decide +kernel) ⟨(Nat.le_of_ble_eq_true rfl), (Nat.le_of_ble_eq_true rfl)⟩) hK hP [] rfl rfl hl.1 rfl (Nat.le_of_ble_eq_true rfl) (Nat.le_of_ble_eq_true rfl) (Nat.le_of_ble_eq_true rfl) dX6_owner_13 ?_
    refine lv_if_eq (tgt := 28) hx hb dX6_owner_16 (by decide) (fun c5 => ?_) (fun c5 => ?_)
    · replace hf := it_p c5 hf
      refine lv_iconst (v := (-1 : Int32)) hx hb dX6_owner_28 (by decide) ?_
      obtain rfl := Option.some.inj hf
      rw [hQ]
      exact W.iret hx hb hr (fun t ht hW => ⟨rfl, ⟨by rw [ht]; exact hP, hD⟩, hS.F ht⟩) hS.2.2 dX6_owner_29
    · replace hf := it_n c5 hf
      refine lv_aload_n hx hb dX6_owner_19 rfl (lv_at hl 0 rfl) ?_
      refine va_get (D := (dC, dI)) (ci := 6) (v := .ref (a 15)) (C := RX6) (T := TX6) (N := 26) hx hb hts kX6_owner_X6 hown hK hP 0 rfl rfl 20 (by decide) (hts _ mX6_owner_3) (fun _ h9 => h9) rfl dX6_owner_20 ?_
      refine lv_iload_n hx hb dX6_owner_23 rfl (lv_at hl 1 rfl) ?_
      obtain ⟨hi6, hf⟩ := it_s hf
      refine va_iald hx hb hK hP 15 0 rfl rfl (inb_in hi6) dX6_owner_24 ?_
      refine lv_goto (tgt := 29) hx hb dX6_owner_25 (by decide) ?_
      obtain rfl := Option.some.inj hf
      rw [hQ]
      exact W.iret hx hb hr (fun t ht hW => ⟨rfl, ⟨by rw [ht]; exact hP, hD⟩, hS.F ht⟩) hS.2.2 dX6_owner_29
  exact main s.heap [] ls ⟨hP, hD, va_S.rf⟩ hl
def rX6_usedFor : Room := { frames := 1, cells := 0, slots := 0, locals := 25 }
theorem kX6_usedFor_X6 : ∀ w ∈ wsX60, w ∈ wsX6_usedFor := fun w h => (List.mem_cons_of_mem _ (List.mem_append_right _ h))
theorem mX6_usedFor_1 : Cond.fieldLink RX6 76 "SmokeLedgerModel" "thrown" "I" ∈ wsX6_usedFor := List.mem_of_getElem? (i := 1) rfl
theorem mX6_usedFor_2 : Cond.fieldLink RX6 164 "SmokeLedgerModel" "serials" "I" ∈ wsX6_usedFor := List.mem_of_getElem? (i := 2) rfl
theorem mX6_usedFor_3 : Cond.fieldLink RX6 59 "SmokeLedgerModel" "used" "[I" ∈ wsX6_usedFor := List.mem_of_getElem? (i := 3) rfl
set_option maxHeartbeats 4000000 in
set_option maxRecDepth 100000 in
theorem ct_X6_usedFor (l : Launch) (dC : Nat → ClassId) (dI : Nat → Nat → Nat) (a b : Nat → Nat) (cI cJ cZ : ClassId) (sz : Nat) (st : MS) (x1 : Int32) (res : Int32 × MS) (hf : fX6_usedFor st x1 = some res) : Met l yX6_usedFor wsX6_usedFor rX6_usedFor (Pm (dC, dI) (tyT cI cJ cZ) (WX6 a b cI cJ cZ st) sz [.ref (a 0), .int x1]) (Qm (dC, dI) (some (.int res.1)) (WX6 a b cI cJ cZ res.2) (va_A (WX6 a b cI cJ cZ st) sz)) 0 0 (va_A (WX6 a b cI cJ cZ st) sz) := by
  refine Met.ofW (cc := cX6_usedFor) (maxL := 2) (ret := (some .int)) (by decide) rfl ?_
  intro p e s m args below meth c s₁ B hml hv
  obtain ⟨hargs, hsz, hP, hK, hD0⟩ := hv
  have hx := B.exec
  have hb := B.bytes
  have hr := B.returns
  have hts := atoms_spec (ws := wsX6_usedFor) B.pre
  have hown : s.vm.findClass RX6 = some m.cls := findClass_of_methodNamed B.named
  have hlocks := B.notSynchronized
  subst hsz
  have hD := hD0.self (sz := s.heap.size)
  generalize hAe : va_A (WX6 a b cI cJ cZ st) s.heap.size = A at hD ⊢
  have hA : ∀ q : Nat, s.heap.size ≤ q → A q := fun q h => by rw [← hAe]; exact Or.inr h
  have hl := lv_entry ([.ref (a 0), .int x1]) (n := 2) (Nat.le_of_ble_eq_true rfl)
  refine W.eq (hargs ▸ lg_entry_eq m [.ref (a 0), .int x1] 2) ?_
  generalize (lg_sl ([.ref (a 0), .int x1]) ++ List.replicate (2 - (lg_sl ([.ref (a 0), .int x1])).length) Slot.unset).toArray = ls at hl ⊢
  have hl : lv_has ls 2 [(0, .ref (a 0)), (1, .int x1)] := hl
  obtain ⟨QQ, hQ⟩ : ∃ QQ : State → Prop, QQ = MQ below (Qm (dC, dI) (some (.int res.1)) (WX6 a b cI cJ cZ res.2) A) args s 0 0 (A) := ⟨_, rfl⟩
  rw [← hQ]
  have main : ∀ (H : Heap) (locs : List Loc) (ls : Array Slot), IN (dC, dI) (WX6 a b cI cJ cZ st) A s.heap H locs → lv_has ls 2 [(0, .ref (a 0)), (1, .int x1)] → W p l e (headSpec wsX6_usedFor rX6_usedFor).room s m args below meth c H locs 0 0 QQ (F0 m 0 ls []) := by
    intro H locs ls hin hl
    obtain ⟨hP, hD, hS⟩ := hin
    unfold fX6_usedFor at hf
    refine lv_aload_n hx hb dX6_usedFor_0 rfl (lv_at hl 0 rfl) ?_
    refine lv_iconst (v := (0 : Int32)) hx hb dX6_usedFor_1 (by decide) ?_
    refine va_put (D := (dC, dI)) (ci := 6) (v := .int (0 : Int32)) (ty := .int) (C := RX6) (T := TX6) (N := 26) hx hb hts kX6_usedFor_X6 tyX6 tyX6_ok nmX6 hown hK hP hD hS 0 rfl rfl 0 (by decide) (hts _ mX6_usedFor_1) (fun _ h9 => h9) rfl (by decide +kernel) rfl rfl (Nat.le_of_ble_eq_true rfl) dX6_usedFor_2 (fun H locs hP hD hS => ?_)
    obtain ⟨s1, hs2, hf⟩ := bnd_e hf
    replace hP := putP_thrown hs2 hP
    replace hD := putD_thrown hs2 hD
    refine lv_iload_n hx hb dX6_usedFor_5 rfl (lv_at hl 1 rfl) ?_
    refine lv_i2l hx hb dX6_usedFor_6 rfl ?_
    refine lv_lconst (v := (1 : Int64)) hx hb dX6_usedFor_7 (by decide) ?_
    refine lv_aload_n hx hb dX6_usedFor_8 rfl (lv_at hl 0 rfl) ?_
    refine va_get (D := (dC, dI)) (ci := 6) (v := .int (MS_serials s1)) (C := RX6) (T := TX6) (N := 26) hx hb hts kX6_usedFor_X6 hown hK hP 0 rfl rfl 19 (by decide) (hts _ mX6_usedFor_2) (fun _ h9 => h9) rfl dX6_usedFor_9 ?_
    refine lv_i2l hx hb dX6_usedFor_12 rfl ?_
    obtain ⟨r3, hc4, hf⟩ := bind_s hf
    refine cpS (v := .int r3) ⟨hx, hb, hml, hown, hts⟩ (ct_X6_in l dC dI cI cJ cZ (Int32.toInt64 x1) (1 : Int64) (Int32.toInt64 (MS_serials s1)) r3 hc4) (va_cwS 3 hts gX6_usedFor_X6_in rfl rfl rfl (by decide +kernel) ⟨(Nat.le_of_ble_eq_true rfl), (Nat.le_of_ble_eq_true rfl)⟩) hK hP [] rfl rfl hl.1 rfl (Nat.le_of_ble_eq_true rfl) (Nat.le_of_ble_eq_true rfl) (Nat.le_of_ble_eq_true rfl) dX6_usedFor_13 ?_
    refine lv_if_eq (tgt := 28) hx hb dX6_usedFor_16 (by decide) (fun c5 => ?_) (fun c5 => ?_)
    · replace hf := it_p c5 hf
      refine lv_iconst (v := (-1 : Int32)) hx hb dX6_usedFor_28 (by decide) ?_
      obtain rfl := Option.some.inj hf
      rw [hQ]
      exact W.iret hx hb hr (fun t ht hW => ⟨rfl, ⟨by rw [ht]; exact hP, hD⟩, hS.F ht⟩) hS.2.2 dX6_usedFor_29
    · replace hf := it_n c5 hf
      refine lv_aload_n hx hb dX6_usedFor_19 rfl (lv_at hl 0 rfl) ?_
      refine va_get (D := (dC, dI)) (ci := 6) (v := .ref (a 16)) (C := RX6) (T := TX6) (N := 26) hx hb hts kX6_usedFor_X6 hown hK hP 0 rfl rfl 21 (by decide) (hts _ mX6_usedFor_3) (fun _ h9 => h9) rfl dX6_usedFor_20 ?_
      refine lv_iload_n hx hb dX6_usedFor_23 rfl (lv_at hl 1 rfl) ?_
      obtain ⟨hi6, hf⟩ := it_s hf
      refine va_iald hx hb hK hP 16 0 rfl rfl (inb_in hi6) dX6_usedFor_24 ?_
      refine lv_goto (tgt := 29) hx hb dX6_usedFor_25 (by decide) ?_
      obtain rfl := Option.some.inj hf
      rw [hQ]
      exact W.iret hx hb hr (fun t ht hW => ⟨rfl, ⟨by rw [ht]; exact hP, hD⟩, hS.F ht⟩) hS.2.2 dX6_usedFor_29
  exact main s.heap [] ls ⟨hP, hD, va_S.rf⟩ hl
def rX6_free : Room := { frames := 2, cells := 0, slots := 0, locals := 46 }
theorem kX6_free_X6 : ∀ w ∈ wsX60, w ∈ wsX6_free := fun w h => (List.mem_cons_of_mem _ (List.mem_append_right _ h))
theorem mX6_free_1 : Cond.fieldLink RX6 76 "SmokeLedgerModel" "thrown" "I" ∈ wsX6_free := List.mem_of_getElem? (i := 1) rfl
theorem mX6_free_2 : Cond.fieldLink RX6 164 "SmokeLedgerModel" "serials" "I" ∈ wsX6_free := List.mem_of_getElem? (i := 2) rfl
theorem mX6_free_3 : Cond.fieldLink RX6 56 "SmokeLedgerModel" "owner" "[I" ∈ wsX6_free := List.mem_of_getElem? (i := 3) rfl
theorem mX6_free_4 : Cond.fieldLink RX6 59 "SmokeLedgerModel" "used" "[I" ∈ wsX6_free := List.mem_of_getElem? (i := 4) rfl
set_option maxHeartbeats 4000000 in
set_option maxRecDepth 100000 in
theorem ct_X6_free (l : Launch) (dC : Nat → ClassId) (dI : Nat → Nat → Nat) (a b : Nat → Nat) (cI cJ cZ : ClassId) (sz : Nat) (st : MS) (x1 : Int32) (res : Int32 × MS) (hf : fX6_free st x1 = some res) : Met l yX6_free wsX6_free rX6_free (Pm (dC, dI) (tyT cI cJ cZ) (WX6 a b cI cJ cZ st) sz [.ref (a 0), .int x1]) (Qm (dC, dI) (some (.int res.1)) (WX6 a b cI cJ cZ res.2) (va_A (WX6 a b cI cJ cZ st) sz)) 0 0 (va_A (WX6 a b cI cJ cZ st) sz) := by
  refine Met.ofW (cc := cX6_free) (maxL := 4) (ret := (some .int)) (by decide) rfl ?_
  intro p e s m args below meth c s₁ B hml hv
  obtain ⟨hargs, hsz, hP, hK, hD0⟩ := hv
  have hx := B.exec
  have hb := B.bytes
  have hr := B.returns
  have hts := atoms_spec (ws := wsX6_free) B.pre
  have hown : s.vm.findClass RX6 = some m.cls := findClass_of_methodNamed B.named
  have hlocks := B.notSynchronized
  subst hsz
  have hD := hD0.self (sz := s.heap.size)
  generalize hAe : va_A (WX6 a b cI cJ cZ st) s.heap.size = A at hD ⊢
  have hA : ∀ q : Nat, s.heap.size ≤ q → A q := fun q h => by rw [← hAe]; exact Or.inr h
  have hl := lv_entry ([.ref (a 0), .int x1]) (n := 4) (Nat.le_of_ble_eq_true rfl)
  refine W.eq (hargs ▸ lg_entry_eq m [.ref (a 0), .int x1] 4) ?_
  generalize (lg_sl ([.ref (a 0), .int x1]) ++ List.replicate (4 - (lg_sl ([.ref (a 0), .int x1])).length) Slot.unset).toArray = ls at hl ⊢
  have hl : lv_has ls 4 [(0, .ref (a 0)), (1, .int x1)] := hl
  obtain ⟨QQ, hQ⟩ : ∃ QQ : State → Prop, QQ = MQ below (Qm (dC, dI) (some (.int res.1)) (WX6 a b cI cJ cZ res.2) A) args s 0 0 (A) := ⟨_, rfl⟩
  rw [← hQ]
  have l19 : ∀ (st : MS) (x1 : Int32) (fu : Nat) (s0 : Int32 × Int32) (r : Int32 × Int32), loopN (fun (s : Int32 × Int32) => fX6_free_l19 st x1 s.1 s.2) fu s0 = some r → (∀ (H : Heap) (locs : List Loc) (ls : Array Slot), IN (dC, dI) (WX6 a b cI cJ cZ st) A s.heap H locs → lv_has ls 4 [(0, .ref (a 0)), (1, .int x1), (2, .int r.1), (3, .int r.2)] → W p l e (headSpec wsX6_free rX6_free).room s m args below meth c H locs 0 0 QQ (F0 m 62 ls [])) → (∀ (H : Heap) (locs : List Loc) (ls : Array Slot), IN (dC, dI) (WX6 a b cI cJ cZ st) A s.heap H locs → lv_has ls 4 [(0, .ref (a 0)), (1, .int x1), (2, .int s0.1), (3, .int s0.2)] → W p l e (headSpec wsX6_free rX6_free).room s m args below meth c H locs 0 0 QQ (F0 m 19 ls [])) := by
    intro st x1 fu s0 r
    have b54 : ∀ (st : MS) (x1 : Int32) (x3 : Int32) (k0 : Int32) (k1 : Int32) (x : (Int32 × Int32) ⊕ (Int32 × Int32)), fX6_free_b54 st x1 x3 k0 k1 = some x → (∀ s', x = .inl s' → (∀ (H : Heap) (locs : List Loc) (ls : Array Slot), IN (dC, dI) (WX6 a b cI cJ cZ st) A s.heap H locs → lv_has ls 4 [(0, .ref (a 0)), (1, .int x1), (2, .int s'.1), (3, .int s'.2)] → W p l e (headSpec wsX6_free rX6_free).room s m args below meth c H locs 0 0 QQ (F0 m 19 ls []))) → (∀ r, x = .inr r → (∀ (H : Heap) (locs : List Loc) (ls : Array Slot), IN (dC, dI) (WX6 a b cI cJ cZ st) A s.heap H locs → lv_has ls 4 [(0, .ref (a 0)), (1, .int x1), (2, .int r.1), (3, .int r.2)] → W p l e (headSpec wsX6_free rX6_free).room s m args below meth c H locs 0 0 QQ (F0 m 62 ls []))) → (∀ (H : Heap) (locs : List Loc) (ls : Array Slot), IN (dC, dI) (WX6 a b cI cJ cZ st) A s.heap H locs → lv_has ls 4 [(0, .ref (a 0)), (1, .int x1), (3, .int x3)] → W p l e (headSpec wsX6_free rX6_free).room s m args below meth c H locs 0 0 QQ (F0 m 54 ls [.int k1, .int k0])) := by
      intro st x1 x3 k0 k1 x hf kc ke
      intro H locs ls hin hl
      obtain ⟨hP, hD, hS⟩ := hin
      unfold fX6_free_b54 at hf
      refine lv_iadd hx hb dX6_free_54 ?_
      refine lv_istore_n (lv' := [(2, .int (k0 + k1)), (0, .ref (a 0)), (1, .int x1), (3, .int x3)]) hx hb dX6_free_55 rfl hl (by decide) rfl (fun ls hl => ?_)
      refine lv_iinc (v := (x3 + (1 : Int32))) (lv' := [(3, .int (x3 + (1 : Int32))), (2, .int (k0 + k1)), (0, .ref (a 0)), (1, .int x1)]) hx hb dX6_free_56 hl (k := 3) rfl rfl (by decide) rfl (fun ls hl => ?_)
      refine lv_goto (tgt := 19) hx hb dX6_free_59 (by decide) ?_
      obtain rfl := Option.some.inj hf
      exact kc _ rfl H locs ls ⟨hP, hD, hS⟩ (lv_sub hl [2, 3, 1, 0] rfl)
    have b53 : ∀ (st : MS) (x1 : Int32) (x3 : Int32) (k0 : Int32) (x : (Int32 × Int32) ⊕ (Int32 × Int32)), fX6_free_b53 st x1 x3 k0 = some x → (∀ s', x = .inl s' → (∀ (H : Heap) (locs : List Loc) (ls : Array Slot), IN (dC, dI) (WX6 a b cI cJ cZ st) A s.heap H locs → lv_has ls 4 [(0, .ref (a 0)), (1, .int x1), (2, .int s'.1), (3, .int s'.2)] → W p l e (headSpec wsX6_free rX6_free).room s m args below meth c H locs 0 0 QQ (F0 m 19 ls []))) → (∀ r, x = .inr r → (∀ (H : Heap) (locs : List Loc) (ls : Array Slot), IN (dC, dI) (WX6 a b cI cJ cZ st) A s.heap H locs → lv_has ls 4 [(0, .ref (a 0)), (1, .int x1), (2, .int r.1), (3, .int r.2)] → W p l e (headSpec wsX6_free rX6_free).room s m args below meth c H locs 0 0 QQ (F0 m 62 ls []))) → (∀ (H : Heap) (locs : List Loc) (ls : Array Slot), IN (dC, dI) (WX6 a b cI cJ cZ st) A s.heap H locs → lv_has ls 4 [(0, .ref (a 0)), (1, .int x1), (3, .int x3)] → W p l e (headSpec wsX6_free rX6_free).room s m args below meth c H locs 0 0 QQ (F0 m 53 ls [.int k0])) := by
      intro st x1 x3 k0 x hf kc ke
      intro H locs ls hin hl
      obtain ⟨hP, hD, hS⟩ := hin
      unfold fX6_free_b53 at hf
      refine lv_iconst (v := (0 : Int32)) hx hb dX6_free_53 (by decide) ?_
      exact b54 st x1 x3 k0 (0 : Int32) _ hf kc ke H locs ls ⟨hP, hD, hS⟩ (lv_sub hl [0, 1, 2] rfl)
    refine loop_ind (P := fun s0 => ∀ (H : Heap) (locs : List Loc) (ls : Array Slot), IN (dC, dI) (WX6 a b cI cJ cZ st) A s.heap H locs → lv_has ls 4 [(0, .ref (a 0)), (1, .int x1), (2, .int s0.1), (3, .int s0.2)] → W p l e (headSpec wsX6_free rX6_free).room s m args below meth c H locs 0 0 QQ (F0 m 19 ls [])) (Q := fun r => ∀ (H : Heap) (locs : List Loc) (ls : Array Slot), IN (dC, dI) (WX6 a b cI cJ cZ st) A s.heap H locs → lv_has ls 4 [(0, .ref (a 0)), (1, .int x1), (2, .int r.1), (3, .int r.2)] → W p l e (headSpec wsX6_free rX6_free).room s m args below meth c H locs 0 0 QQ (F0 m 62 ls [])) ?_ fu s0 r
    clear fu s0 r
    rintro ⟨x2, x3⟩ x hf kc ke
    replace hf : fX6_free_l19 st x1 x2 x3 = some x := hf
    replace kc : (∀ s', x = .inl s' → (∀ (H : Heap) (locs : List Loc) (ls : Array Slot), IN (dC, dI) (WX6 a b cI cJ cZ st) A s.heap H locs → lv_has ls 4 [(0, .ref (a 0)), (1, .int x1), (2, .int s'.1), (3, .int s'.2)] → W p l e (headSpec wsX6_free rX6_free).room s m args below meth c H locs 0 0 QQ (F0 m 19 ls []))) := kc
    replace ke : (∀ r, x = .inr r → (∀ (H : Heap) (locs : List Loc) (ls : Array Slot), IN (dC, dI) (WX6 a b cI cJ cZ st) A s.heap H locs → lv_has ls 4 [(0, .ref (a 0)), (1, .int x1), (2, .int r.1), (3, .int r.2)] → W p l e (headSpec wsX6_free rX6_free).room s m args below meth c H locs 0 0 QQ (F0 m 62 ls []))) := ke
    intro H locs ls hin hl
    obtain ⟨hP, hD, hS⟩ := hin
    unfold fX6_free_l19 at hf
    refine lv_iload_n hx hb dX6_free_19 rfl (lv_at hl 3 rfl) ?_
    refine lv_aload_n hx hb dX6_free_20 rfl (lv_at hl 0 rfl) ?_
    refine va_get (D := (dC, dI)) (ci := 6) (v := .int (MS_serials st)) (C := RX6) (T := TX6) (N := 26) hx hb hts kX6_free_X6 hown hK hP 0 rfl rfl 19 (by decide) (hts _ mX6_free_2) (fun _ h9 => h9) rfl dX6_free_21 ?_
    refine lv_icmp_gt (tgt := 62) hx hb dX6_free_24 (by decide) (fun c6 => ?_) (fun c6 => ?_)
    · replace hf := it_p c6 hf
      obtain rfl := Option.some.inj hf
      exact ke _ rfl H locs ls ⟨hP, hD, hS⟩ (lv_sub hl [0, 1, 2, 3] rfl)
    · replace hf := it_n c6 hf
      refine lv_iload_n hx hb dX6_free_27 rfl (lv_at hl 2 rfl) ?_
      refine lv_aload_n hx hb dX6_free_28 rfl (lv_at hl 0 rfl) ?_
      refine va_get (D := (dC, dI)) (ci := 6) (v := .ref (a 15)) (C := RX6) (T := TX6) (N := 26) hx hb hts kX6_free_X6 hown hK hP 0 rfl rfl 20 (by decide) (hts _ mX6_free_3) (fun _ h9 => h9) rfl dX6_free_29 ?_
      refine lv_iload_n hx hb dX6_free_32 rfl (lv_at hl 3 rfl) ?_
      obtain ⟨hi7, hf⟩ := it_s hf
      refine va_iald hx hb hK hP 15 0 rfl rfl (inb_in hi7) dX6_free_33 ?_
      refine lv_iload_n hx hb dX6_free_34 rfl (lv_at hl 1 rfl) ?_
      refine lv_icmp_ne (tgt := 53) hx hb dX6_free_35 (by decide) (fun c8 => ?_) (fun c8 => ?_)
      · replace hf := it_n c8 hf
        exact b53 st x1 x3 x2 _ hf kc ke H locs ls ⟨hP, hD, hS⟩ (lv_sub hl [0, 1, 3] rfl)
      · replace hf := it_p c8 hf
        refine lv_aload_n hx hb dX6_free_38 rfl (lv_at hl 0 rfl) ?_
        refine va_get (D := (dC, dI)) (ci := 6) (v := .ref (a 16)) (C := RX6) (T := TX6) (N := 26) hx hb hts kX6_free_X6 hown hK hP 0 rfl rfl 21 (by decide) (hts _ mX6_free_4) (fun _ h9 => h9) rfl dX6_free_39 ?_
        refine lv_iload_n hx hb dX6_free_42 rfl (lv_at hl 3 rfl) ?_
        obtain ⟨hi9, hf⟩ := it_s hf
        refine va_iald hx hb hK hP 16 0 rfl rfl (inb_in hi9) dX6_free_43 ?_
        refine lv_bipush (v := (-9 : Int32)) hx hb dX6_free_44 (by decide) ?_
        refine lv_icmp_ne (tgt := 53) hx hb dX6_free_46 (by decide) (fun c10 => ?_) (fun c10 => ?_)
        · replace hf := it_n c10 hf
          exact b53 st x1 x3 x2 _ hf kc ke H locs ls ⟨hP, hD, hS⟩ (lv_sub hl [0, 1, 3] rfl)
        · replace hf := it_p c10 hf
          refine lv_iconst (v := (1 : Int32)) hx hb dX6_free_49 (by decide) ?_
          refine lv_goto (tgt := 54) hx hb dX6_free_50 (by decide) ?_
          exact b54 st x1 x3 x2 (1 : Int32) _ hf kc ke H locs ls ⟨hP, hD, hS⟩ (lv_sub hl [0, 1, 3] rfl)
  have main : ∀ (H : Heap) (locs : List Loc) (ls : Array Slot), IN (dC, dI) (WX6 a b cI cJ cZ st) A s.heap H locs → lv_has ls 4 [(0, .ref (a 0)), (1, .int x1)] → W p l e (headSpec wsX6_free rX6_free).room s m args below meth c H locs 0 0 QQ (F0 m 0 ls []) := by
    intro H locs ls hin hl
    obtain ⟨hP, hD, hS⟩ := hin
    unfold fX6_free at hf
    refine lv_aload_n hx hb dX6_free_0 rfl (lv_at hl 0 rfl) ?_
    refine lv_iconst (v := (0 : Int32)) hx hb dX6_free_1 (by decide) ?_
    refine va_put (D := (dC, dI)) (ci := 6) (v := .int (0 : Int32)) (ty := .int) (C := RX6) (T := TX6) (N := 26) hx hb hts kX6_free_X6 tyX6 tyX6_ok nmX6 hown hK hP hD hS 0 rfl rfl 0 (by decide) (hts _ mX6_free_1) (fun _ h9 => h9) rfl (by decide +kernel) rfl rfl (Nat.le_of_ble_eq_true rfl) dX6_free_2 (fun H locs hP hD hS => ?_)
    obtain ⟨s1, hs2, hf⟩ := bnd_e hf
    replace hP := putP_thrown hs2 hP
    replace hD := putD_thrown hs2 hD
    refine lv_aload_n hx hb dX6_free_5 rfl (lv_at hl 0 rfl) ?_
    refine lv_iload_n hx hb dX6_free_6 rfl (lv_at hl 1 rfl) ?_
    obtain ⟨r3, hc4, hf⟩ := bind_s hf
    refine cpV (v := .int r3) ⟨hx, hb, hml, hown, hts⟩ (ct_X6_noUnit l dC dI a b cI cJ cZ s1 x1 r3 hc4) (cwV 1 hts gX6_free_X6_noUnit rfl rfl rfl (by decide +kernel) ⟨(Nat.le_of_ble_eq_true rfl), (Nat.le_of_ble_eq_true rfl)⟩) hK hP [0, 1, 2, 3, 4, 5, 6, 7, 8, 9, 10, 11, 12, 13, 14, 15, 16, 17, 18, 19, 20] rfl rfl rfl rfl hl.1 rfl (Nat.le_of_ble_eq_true rfl) (Nat.le_of_ble_eq_true rfl) (Nat.le_of_ble_eq_true rfl) dX6_free_7 ?_
    refine lv_if_eq (tgt := 15) hx hb dX6_free_10 (by decide) (fun c5 => ?_) (fun c5 => ?_)
    · replace hf := it_p c5 hf
      refine lv_iconst (v := (0 : Int32)) hx hb dX6_free_15 (by decide) ?_
      refine lv_istore_n (lv' := [(2, .int (0 : Int32)), (0, .ref (a 0)), (1, .int x1)]) hx hb dX6_free_16 rfl hl (by decide) rfl (fun ls hl => ?_)
      refine lv_iconst (v := (1 : Int32)) hx hb dX6_free_17 (by decide) ?_
      refine lv_istore_n (lv' := [(3, .int (1 : Int32)), (2, .int (0 : Int32)), (0, .ref (a 0)), (1, .int x1)]) hx hb dX6_free_18 rfl hl (by decide) rfl (fun ls hl => ?_)
      obtain ⟨y11, hlp, hf⟩ := bind_s hf
      refine l19 s1 x1 fuelN ((0 : Int32), (1 : Int32)) y11 hlp ?_ H locs ls ⟨hP, hD, hS⟩ (lv_sub hl [2, 3, 1, 0] rfl)
      intro H locs ls hin hl
      obtain ⟨hP, hD, hS⟩ := hin
      refine lv_iload_n hx hb dX6_free_62 rfl (lv_at hl 2 rfl) ?_
      obtain rfl := Option.some.inj hf
      rw [hQ]
      exact W.iret hx hb hr (fun t ht hW => ⟨rfl, ⟨by rw [ht]; exact hP, hD⟩, hS.F ht⟩) hS.2.2 dX6_free_63
    · replace hf := it_n c5 hf
      refine lv_iconst (v := (-1 : Int32)) hx hb dX6_free_13 (by decide) ?_
      obtain rfl := Option.some.inj hf
      rw [hQ]
      exact W.iret hx hb hr (fun t ht hW => ⟨rfl, ⟨by rw [ht]; exact hP, hD⟩, hS.F ht⟩) hS.2.2 dX6_free_14
  exact main s.heap [] ls ⟨hP, hD, va_S.rf⟩ hl
def rX6_begins : Room := { frames := 0, cells := 0, slots := 0, locals := 0 }
theorem kX6_begins_X6 : ∀ w ∈ wsX60, w ∈ wsX6_begins := fun w h => (List.mem_cons_of_mem _ (List.mem_append_right _ h))
theorem mX6_begins_1 : Cond.fieldLink RX6 56 "SmokeLedgerModel" "owner" "[I" ∈ wsX6_begins := List.mem_of_getElem? (i := 1) rfl
theorem mX6_begins_2 : Cond.fieldLink RX6 59 "SmokeLedgerModel" "used" "[I" ∈ wsX6_begins := List.mem_of_getElem? (i := 2) rfl
set_option maxHeartbeats 4000000 in
set_option maxRecDepth 100000 in
theorem ct_X6_begins (l : Launch) (dC : Nat → ClassId) (dI : Nat → Nat → Nat) (a b : Nat → Nat) (cI cJ cZ : ClassId) (st : MS) (x1 : Int32) (res : Int32) (hf : fX6_begins st x1 = some res) : Met l yX6_begins wsX6_begins rX6_begins (Pp (dC, dI) (tyT cI cJ cZ) (WX6 a b cI cJ cZ st) [.ref (a 0), .int x1]) (Qp (.int res)) 0 0 (fun _ => False) := by
  refine Met.ofW (cc := cX6_begins) (maxL := 2) (ret := (some .boolean)) (by decide) rfl ?_
  intro p e s m args below meth c s₁ B hml hv
  obtain ⟨hargs, hP, hK⟩ := hv
  have hx := B.exec
  have hb := B.bytes
  have hr := B.returns
  have hts := atoms_spec (ws := wsX6_begins) B.pre
  have hown : s.vm.findClass RX6 = some m.cls := findClass_of_methodNamed B.named
  have hlocks := B.notSynchronized
  have hP : va_P (dC, dI) vwCl (WX6 a b cI cJ cZ st) s.heap := hP
  have hl := lv_entry ([.ref (a 0), .int x1]) (n := 2) (Nat.le_of_ble_eq_true rfl)
  refine W.eq (hargs ▸ lg_entry_eq m [.ref (a 0), .int x1] 2) ?_
  generalize (lg_sl ([.ref (a 0), .int x1]) ++ List.replicate (2 - (lg_sl ([.ref (a 0), .int x1])).length) Slot.unset).toArray = ls at hl ⊢
  have hl : lv_has ls 2 [(0, .ref (a 0)), (1, .int x1)] := hl
  obtain ⟨QQ, hQ⟩ : ∃ QQ : State → Prop, QQ = MQ below (Qp (.int res)) args s 0 0 (fun _ => False) := ⟨_, rfl⟩
  rw [← hQ]
  have b39 : fX6_begins_b39 st = some res → (∀ (ls : Array Slot), lv_has ls 2 [] → W p l e (headSpec wsX6_begins rX6_begins).room s m args below meth c s.heap [] 0 0 QQ (F0 m 39 ls [])) := by
    intro hf
    intro ls hl
    unfold fX6_begins_b39 at hf
    refine lv_iconst (v := (1 : Int32)) hx hb dX6_begins_39 (by decide) ?_
    refine lv_goto (tgt := 44) hx hb dX6_begins_40 (by decide) ?_
    obtain rfl := Option.some.inj hf
    rw [hQ]
    exact W.zret hx hb hr rfl (fun t ht hW => ⟨rfl, ht⟩) (fun q hq => absurd hq List.not_mem_nil) dX6_begins_44
  unfold fX6_begins at hf
  refine lv_iload_n hx hb dX6_begins_0 rfl (lv_at hl 1 rfl) ?_
  refine lv_iconst (v := (1 : Int32)) hx hb dX6_begins_1 (by decide) ?_
  refine lv_icmp_eq (tgt := 39) hx hb dX6_begins_2 (by decide) (fun c1 => ?_) (fun c1 => ?_)
  · replace hf := it_p c1 hf
    exact b39  hf ls (lv_sub hl [] rfl)
  · replace hf := it_n c1 hf
    refine lv_aload_n hx hb dX6_begins_5 rfl (lv_at hl 0 rfl) ?_
    refine va_get (D := (dC, dI)) (ci := 6) (v := .ref (a 15)) (C := RX6) (T := TX6) (N := 26) hx hb hts kX6_begins_X6 hown hK hP 0 rfl rfl 20 (by decide) (hts _ mX6_begins_1) (fun _ h9 => h9) rfl dX6_begins_6 ?_
    refine lv_iload_n hx hb dX6_begins_9 rfl (lv_at hl 1 rfl) ?_
    obtain ⟨hi2, hf⟩ := it_s hf
    refine va_iald hx hb hK hP 15 0 rfl rfl (inb_in hi2) dX6_begins_10 ?_
    refine lv_aload_n hx hb dX6_begins_11 rfl (lv_at hl 0 rfl) ?_
    refine va_get (D := (dC, dI)) (ci := 6) (v := .ref (a 15)) (C := RX6) (T := TX6) (N := 26) hx hb hts kX6_begins_X6 hown hK hP 0 rfl rfl 20 (by decide) (hts _ mX6_begins_1) (fun _ h9 => h9) rfl dX6_begins_12 ?_
    refine lv_iload_n hx hb dX6_begins_15 rfl (lv_at hl 1 rfl) ?_
    refine lv_iconst (v := (1 : Int32)) hx hb dX6_begins_16 (by decide) ?_
    refine lv_isub hx hb dX6_begins_17 ?_
    obtain ⟨hi3, hf⟩ := it_s hf
    refine va_iald hx hb hK hP 15 0 rfl rfl (inb_in hi3) dX6_begins_18 ?_
    refine lv_icmp_ne (tgt := 39) hx hb dX6_begins_19 (by decide) (fun c4 => ?_) (fun c4 => ?_)
    · replace hf := it_n c4 hf
      exact b39  hf ls (lv_sub hl [] rfl)
    · replace hf := it_p c4 hf
      refine lv_aload_n hx hb dX6_begins_22 rfl (lv_at hl 0 rfl) ?_
      refine va_get (D := (dC, dI)) (ci := 6) (v := .ref (a 16)) (C := RX6) (T := TX6) (N := 26) hx hb hts kX6_begins_X6 hown hK hP 0 rfl rfl 21 (by decide) (hts _ mX6_begins_2) (fun _ h9 => h9) rfl dX6_begins_23 ?_
      refine lv_iload_n hx hb dX6_begins_26 rfl (lv_at hl 1 rfl) ?_
      obtain ⟨hi5, hf⟩ := it_s hf
      refine va_iald hx hb hK hP 16 0 rfl rfl (inb_in hi5) dX6_begins_27 ?_
      refine lv_aload_n hx hb dX6_begins_28 rfl (lv_at hl 0 rfl) ?_
      refine va_get (D := (dC, dI)) (ci := 6) (v := .ref (a 16)) (C := RX6) (T := TX6) (N := 26) hx hb hts kX6_begins_X6 hown hK hP 0 rfl rfl 21 (by decide) (hts _ mX6_begins_2) (fun _ h9 => h9) rfl dX6_begins_29 ?_
      refine lv_iload_n hx hb dX6_begins_32 rfl (lv_at hl 1 rfl) ?_
      refine lv_iconst (v := (1 : Int32)) hx hb dX6_begins_33 (by decide) ?_
      refine lv_isub hx hb dX6_begins_34 ?_
      obtain ⟨hi6, hf⟩ := it_s hf
      refine va_iald hx hb hK hP 16 0 rfl rfl (inb_in hi6) dX6_begins_35 ?_
      refine lv_icmp_eq (tgt := 43) hx hb dX6_begins_36 (by decide) (fun c7 => ?_) (fun c7 => ?_)
      · replace hf := it_p c7 hf
        refine lv_iconst (v := (0 : Int32)) hx hb dX6_begins_43 (by decide) ?_
        obtain rfl := Option.some.inj hf
        rw [hQ]
        exact W.zret hx hb hr rfl (fun t ht hW => ⟨rfl, ht⟩) (fun q hq => absurd hq List.not_mem_nil) dX6_begins_44
      · replace hf := it_n c7 hf
        exact b39  hf ls (lv_sub hl [] rfl)
def rX6_runs : Room := { frames := 1, cells := 0, slots := 0, locals := 21 }
theorem kX6_runs_X6 : ∀ w ∈ wsX60, w ∈ wsX6_runs := fun w h => (List.mem_cons_of_mem _ (List.mem_append_right _ h))
theorem mX6_runs_1 : Cond.fieldLink RX6 76 "SmokeLedgerModel" "thrown" "I" ∈ wsX6_runs := List.mem_of_getElem? (i := 1) rfl
theorem mX6_runs_2 : Cond.fieldLink RX6 164 "SmokeLedgerModel" "serials" "I" ∈ wsX6_runs := List.mem_of_getElem? (i := 2) rfl
set_option maxHeartbeats 4000000 in
set_option maxRecDepth 100000 in
theorem ct_X6_runs (l : Launch) (dC : Nat → ClassId) (dI : Nat → Nat → Nat) (a b : Nat → Nat) (cI cJ cZ : ClassId) (sz : Nat) (st : MS) (res : Int32 × MS) (hf : fX6_runs st = some res) : Met l yX6_runs wsX6_runs rX6_runs (Pm (dC, dI) (tyT cI cJ cZ) (WX6 a b cI cJ cZ st) sz [.ref (a 0)]) (Qm (dC, dI) (some (.int res.1)) (WX6 a b cI cJ cZ res.2) (va_A (WX6 a b cI cJ cZ st) sz)) 0 0 (va_A (WX6 a b cI cJ cZ st) sz) := by
  refine Met.ofW (cc := cX6_runs) (maxL := 3) (ret := (some .int)) (by decide) rfl ?_
  intro p e s m args below meth c s₁ B hml hv
  obtain ⟨hargs, hsz, hP, hK, hD0⟩ := hv
  have hx := B.exec
  have hb := B.bytes
  have hr := B.returns
  have hts := atoms_spec (ws := wsX6_runs) B.pre
  have hown : s.vm.findClass RX6 = some m.cls := findClass_of_methodNamed B.named
  have hlocks := B.notSynchronized
  subst hsz
  have hD := hD0.self (sz := s.heap.size)
  generalize hAe : va_A (WX6 a b cI cJ cZ st) s.heap.size = A at hD ⊢
  have hA : ∀ q : Nat, s.heap.size ≤ q → A q := fun q h => by rw [← hAe]; exact Or.inr h
  have hl := lv_entry ([.ref (a 0)]) (n := 3) (Nat.le_of_ble_eq_true rfl)
  refine W.eq (hargs ▸ lg_entry_eq m [.ref (a 0)] 3) ?_
  generalize (lg_sl ([.ref (a 0)]) ++ List.replicate (3 - (lg_sl ([.ref (a 0)])).length) Slot.unset).toArray = ls at hl ⊢
  have hl : lv_has ls 3 [(0, .ref (a 0))] := hl
  obtain ⟨QQ, hQ⟩ : ∃ QQ : State → Prop, QQ = MQ below (Qm (dC, dI) (some (.int res.1)) (WX6 a b cI cJ cZ res.2) A) args s 0 0 (A) := ⟨_, rfl⟩
  rw [← hQ]
  have l9 : ∀ (st : MS) (fu : Nat) (s0 : Int32 × Int32) (r : Int32 × Int32), loopN (fun (s : Int32 × Int32) => fX6_runs_l9 st s.1 s.2) fu s0 = some r → (∀ (H : Heap) (locs : List Loc) (ls : Array Slot), IN (dC, dI) (WX6 a b cI cJ cZ st) A s.heap H locs → lv_has ls 3 [(0, .ref (a 0)), (1, .int r.1), (2, .int r.2)] → W p l e (headSpec wsX6_runs rX6_runs).room s m args below meth c H locs 0 0 QQ (F0 m 39 ls [])) → (∀ (H : Heap) (locs : List Loc) (ls : Array Slot), IN (dC, dI) (WX6 a b cI cJ cZ st) A s.heap H locs → lv_has ls 3 [(0, .ref (a 0)), (1, .int s0.1), (2, .int s0.2)] → W p l e (headSpec wsX6_runs rX6_runs).room s m args below meth c H locs 0 0 QQ (F0 m 9 ls [])) := by
    intro st fu s0 r
    have b31 : ∀ (st : MS) (x2 : Int32) (k0 : Int32) (k1 : Int32) (x : (Int32 × Int32) ⊕ (Int32 × Int32)), fX6_runs_b31 st x2 k0 k1 = some x → (∀ s', x = .inl s' → (∀ (H : Heap) (locs : List Loc) (ls : Array Slot), IN (dC, dI) (WX6 a b cI cJ cZ st) A s.heap H locs → lv_has ls 3 [(0, .ref (a 0)), (1, .int s'.1), (2, .int s'.2)] → W p l e (headSpec wsX6_runs rX6_runs).room s m args below meth c H locs 0 0 QQ (F0 m 9 ls []))) → (∀ r, x = .inr r → (∀ (H : Heap) (locs : List Loc) (ls : Array Slot), IN (dC, dI) (WX6 a b cI cJ cZ st) A s.heap H locs → lv_has ls 3 [(0, .ref (a 0)), (1, .int r.1), (2, .int r.2)] → W p l e (headSpec wsX6_runs rX6_runs).room s m args below meth c H locs 0 0 QQ (F0 m 39 ls []))) → (∀ (H : Heap) (locs : List Loc) (ls : Array Slot), IN (dC, dI) (WX6 a b cI cJ cZ st) A s.heap H locs → lv_has ls 3 [(0, .ref (a 0)), (2, .int x2)] → W p l e (headSpec wsX6_runs rX6_runs).room s m args below meth c H locs 0 0 QQ (F0 m 31 ls [.int k1, .int k0])) := by
      intro st x2 k0 k1 x hf kc ke
      intro H locs ls hin hl
      obtain ⟨hP, hD, hS⟩ := hin
      unfold fX6_runs_b31 at hf
      refine lv_iadd hx hb dX6_runs_31 ?_
      refine lv_istore_n (lv' := [(1, .int (k0 + k1)), (0, .ref (a 0)), (2, .int x2)]) hx hb dX6_runs_32 rfl hl (by decide) rfl (fun ls hl => ?_)
      refine lv_iinc (v := (x2 + (1 : Int32))) (lv' := [(2, .int (x2 + (1 : Int32))), (1, .int (k0 + k1)), (0, .ref (a 0))]) hx hb dX6_runs_33 hl (k := 2) rfl rfl (by decide) rfl (fun ls hl => ?_)
      refine lv_goto (tgt := 9) hx hb dX6_runs_36 (by decide) ?_
      obtain rfl := Option.some.inj hf
      exact kc _ rfl H locs ls ⟨hP, hD, hS⟩ (lv_sub hl [2, 1, 0] rfl)
    refine loop_ind (P := fun s0 => ∀ (H : Heap) (locs : List Loc) (ls : Array Slot), IN (dC, dI) (WX6 a b cI cJ cZ st) A s.heap H locs → lv_has ls 3 [(0, .ref (a 0)), (1, .int s0.1), (2, .int s0.2)] → W p l e (headSpec wsX6_runs rX6_runs).room s m args below meth c H locs 0 0 QQ (F0 m 9 ls [])) (Q := fun r => ∀ (H : Heap) (locs : List Loc) (ls : Array Slot), IN (dC, dI) (WX6 a b cI cJ cZ st) A s.heap H locs → lv_has ls 3 [(0, .ref (a 0)), (1, .int r.1), (2, .int r.2)] → W p l e (headSpec wsX6_runs rX6_runs).room s m args below meth c H locs 0 0 QQ (F0 m 39 ls [])) ?_ fu s0 r
    clear fu s0 r
    rintro ⟨x1, x2⟩ x hf kc ke
    replace hf : fX6_runs_l9 st x1 x2 = some x := hf
    replace kc : (∀ s', x = .inl s' → (∀ (H : Heap) (locs : List Loc) (ls : Array Slot), IN (dC, dI) (WX6 a b cI cJ cZ st) A s.heap H locs → lv_has ls 3 [(0, .ref (a 0)), (1, .int s'.1), (2, .int s'.2)] → W p l e (headSpec wsX6_runs rX6_runs).room s m args below meth c H locs 0 0 QQ (F0 m 9 ls []))) := kc
    replace ke : (∀ r, x = .inr r → (∀ (H : Heap) (locs : List Loc) (ls : Array Slot), IN (dC, dI) (WX6 a b cI cJ cZ st) A s.heap H locs → lv_has ls 3 [(0, .ref (a 0)), (1, .int r.1), (2, .int r.2)] → W p l e (headSpec wsX6_runs rX6_runs).room s m args below meth c H locs 0 0 QQ (F0 m 39 ls []))) := ke
    intro H locs ls hin hl
    obtain ⟨hP, hD, hS⟩ := hin
    unfold fX6_runs_l9 at hf
    refine lv_iload_n hx hb dX6_runs_9 rfl (lv_at hl 2 rfl) ?_
    refine lv_aload_n hx hb dX6_runs_10 rfl (lv_at hl 0 rfl) ?_
    refine va_get (D := (dC, dI)) (ci := 6) (v := .int (MS_serials st)) (C := RX6) (T := TX6) (N := 26) hx hb hts kX6_runs_X6 hown hK hP 0 rfl rfl 19 (by decide) (hts _ mX6_runs_2) (fun _ h9 => h9) rfl dX6_runs_11 ?_
    refine lv_icmp_gt (tgt := 39) hx hb dX6_runs_14 (by decide) (fun c3 => ?_) (fun c3 => ?_)
    · replace hf := it_p c3 hf
      obtain rfl := Option.some.inj hf
      exact ke _ rfl H locs ls ⟨hP, hD, hS⟩ (lv_sub hl [0, 1, 2] rfl)
    · replace hf := it_n c3 hf
      refine lv_iload_n hx hb dX6_runs_17 rfl (lv_at hl 1 rfl) ?_
      refine lv_aload_n hx hb dX6_runs_18 rfl (lv_at hl 0 rfl) ?_
      refine lv_iload_n hx hb dX6_runs_19 rfl (lv_at hl 2 rfl) ?_
      obtain ⟨r4, hc5, hf⟩ := bind_s hf
      refine cpV (v := .int r4) ⟨hx, hb, hml, hown, hts⟩ (ct_X6_begins l dC dI a b cI cJ cZ st x2 r4 hc5) (cwV 1 hts gX6_runs_X6_begins rfl rfl rfl (by decide +kernel) ⟨(Nat.le_of_ble_eq_true rfl), (Nat.le_of_ble_eq_true rfl)⟩) hK hP [0, 1, 2, 3, 4, 5, 6, 7, 8, 9, 10, 11, 12, 13, 14, 15, 16, 17, 18, 19, 20] rfl rfl rfl rfl hl.1 rfl (Nat.le_of_ble_eq_true rfl) (Nat.le_of_ble_eq_true rfl) (Nat.le_of_ble_eq_true rfl) dX6_runs_20 ?_
      refine lv_if_eq (tgt := 30) hx hb dX6_runs_23 (by decide) (fun c6 => ?_) (fun c6 => ?_)
      · replace hf := it_p c6 hf
        refine lv_iconst (v := (0 : Int32)) hx hb dX6_runs_30 (by decide) ?_
        exact b31 st x2 x1 (0 : Int32) _ hf kc ke H locs ls ⟨hP, hD, hS⟩ (lv_sub hl [0, 2] rfl)
      · replace hf := it_n c6 hf
        refine lv_iconst (v := (1 : Int32)) hx hb dX6_runs_26 (by decide) ?_
        refine lv_goto (tgt := 31) hx hb dX6_runs_27 (by decide) ?_
        exact b31 st x2 x1 (1 : Int32) _ hf kc ke H locs ls ⟨hP, hD, hS⟩ (lv_sub hl [0, 2] rfl)
  have main : ∀ (H : Heap) (locs : List Loc) (ls : Array Slot), IN (dC, dI) (WX6 a b cI cJ cZ st) A s.heap H locs → lv_has ls 3 [(0, .ref (a 0))] → W p l e (headSpec wsX6_runs rX6_runs).room s m args below meth c H locs 0 0 QQ (F0 m 0 ls []) := by
    intro H locs ls hin hl
    obtain ⟨hP, hD, hS⟩ := hin
    unfold fX6_runs at hf
    refine lv_aload_n hx hb dX6_runs_0 rfl (lv_at hl 0 rfl) ?_
    refine lv_iconst (v := (0 : Int32)) hx hb dX6_runs_1 (by decide) ?_
    refine va_put (D := (dC, dI)) (ci := 6) (v := .int (0 : Int32)) (ty := .int) (C := RX6) (T := TX6) (N := 26) hx hb hts kX6_runs_X6 tyX6 tyX6_ok nmX6 hown hK hP hD hS 0 rfl rfl 0 (by decide) (hts _ mX6_runs_1) (fun _ h9 => h9) rfl (by decide +kernel) rfl rfl (Nat.le_of_ble_eq_true rfl) dX6_runs_2 (fun H locs hP hD hS => ?_)
    obtain ⟨s1, hs2, hf⟩ := bnd_e hf
    replace hP := putP_thrown hs2 hP
    replace hD := putD_thrown hs2 hD
    refine lv_iconst (v := (0 : Int32)) hx hb dX6_runs_5 (by decide) ?_
    refine lv_istore_n (lv' := [(1, .int (0 : Int32)), (0, .ref (a 0))]) hx hb dX6_runs_6 rfl hl (by decide) rfl (fun ls hl => ?_)
    refine lv_iconst (v := (1 : Int32)) hx hb dX6_runs_7 (by decide) ?_
    refine lv_istore_n (lv' := [(2, .int (1 : Int32)), (1, .int (0 : Int32)), (0, .ref (a 0))]) hx hb dX6_runs_8 rfl hl (by decide) rfl (fun ls hl => ?_)
    obtain ⟨y7, hlp, hf⟩ := bind_s hf
    refine l9 s1 fuelN ((0 : Int32), (1 : Int32)) y7 hlp ?_ H locs ls ⟨hP, hD, hS⟩ (lv_sub hl [2, 1, 0] rfl)
    intro H locs ls hin hl
    obtain ⟨hP, hD, hS⟩ := hin
    refine lv_iload_n hx hb dX6_runs_39 rfl (lv_at hl 1 rfl) ?_
    obtain rfl := Option.some.inj hf
    rw [hQ]
    exact W.iret hx hb hr (fun t ht hW => ⟨rfl, ⟨by rw [ht]; exact hP, hD⟩, hS.F ht⟩) hS.2.2 dX6_runs_40
  exact main s.heap [] ls ⟨hP, hD, va_S.rf⟩ hl
def rX6_run : Room := { frames := 1, cells := 0, slots := 0, locals := 21 }
theorem kX6_run_X6 : ∀ w ∈ wsX60, w ∈ wsX6_run := fun w h => (List.mem_cons_of_mem _ (List.mem_append_right _ h))
theorem mX6_run_1 : Cond.fieldLink RX6 76 "SmokeLedgerModel" "thrown" "I" ∈ wsX6_run := List.mem_of_getElem? (i := 1) rfl
theorem mX6_run_2 : Cond.fieldLink RX6 164 "SmokeLedgerModel" "serials" "I" ∈ wsX6_run := List.mem_of_getElem? (i := 2) rfl
theorem mX6_run_4 : Cond.fieldLink RX6 59 "SmokeLedgerModel" "used" "[I" ∈ wsX6_run := List.mem_of_getElem? (i := 4) rfl
theorem mX6_run_3 : Cond.fieldLink RX6 56 "SmokeLedgerModel" "owner" "[I" ∈ wsX6_run := List.mem_of_getElem? (i := 3) rfl
set_option maxHeartbeats 4000000 in
set_option maxRecDepth 100000 in
theorem ct_X6_run (l : Launch) (dC : Nat → ClassId) (dI : Nat → Nat → Nat) (a b : Nat → Nat) (cI cJ cZ : ClassId) (sz : Nat) (st : MS) (x1 : Int32) (x2 : Int32) (res : Int32 × MS) (hf : fX6_run st x1 x2 = some res) : Met l yX6_run wsX6_run rX6_run (Pm (dC, dI) (tyT cI cJ cZ) (WX6 a b cI cJ cZ st) sz [.ref (a 0), .int x1, .int x2]) (Qm (dC, dI) (some (.int res.1)) (WX6 a b cI cJ cZ res.2) (va_A (WX6 a b cI cJ cZ st) sz)) 0 0 (va_A (WX6 a b cI cJ cZ st) sz) := by
  refine Met.ofW (cc := cX6_run) (maxL := 7) (ret := (some .int)) (by decide) rfl ?_
  intro p e s m args below meth c s₁ B hml hv
  obtain ⟨hargs, hsz, hP, hK, hD0⟩ := hv
  have hx := B.exec
  have hb := B.bytes
  have hr := B.returns
  have hts := atoms_spec (ws := wsX6_run) B.pre
  have hown : s.vm.findClass RX6 = some m.cls := findClass_of_methodNamed B.named
  have hlocks := B.notSynchronized
  subst hsz
  have hD := hD0.self (sz := s.heap.size)
  generalize hAe : va_A (WX6 a b cI cJ cZ st) s.heap.size = A at hD ⊢
  have hA : ∀ q : Nat, s.heap.size ≤ q → A q := fun q h => by rw [← hAe]; exact Or.inr h
  have hl := lv_entry ([.ref (a 0), .int x1, .int x2]) (n := 7) (Nat.le_of_ble_eq_true rfl)
  refine W.eq (hargs ▸ lg_entry_eq m [.ref (a 0), .int x1, .int x2] 7) ?_
  generalize (lg_sl ([.ref (a 0), .int x1, .int x2]) ++ List.replicate (7 - (lg_sl ([.ref (a 0), .int x1, .int x2])).length) Slot.unset).toArray = ls at hl ⊢
  have hl : lv_has ls 7 [(0, .ref (a 0)), (1, .int x1), (2, .int x2)] := hl
  obtain ⟨QQ, hQ⟩ : ∃ QQ : State → Prop, QQ = MQ below (Qm (dC, dI) (some (.int res.1)) (WX6 a b cI cJ cZ res.2) A) args s 0 0 (A) := ⟨_, rfl⟩
  rw [← hQ]
  have l16 : ∀ (st : MS) (x1 : Int32) (x2 : Int32) (fu : Nat) (s0 : Int32 × Int32 × Int32 × Int32) (r : Int32 × Int32 × Int32 × Int32), loopN (fun (s : Int32 × Int32 × Int32 × Int32) => fX6_run_l16 st x1 x2 s.1 s.2.1 s.2.2.1 s.2.2.2) fu s0 = some r → (∀ (H : Heap) (locs : List Loc) (ls : Array Slot), IN (dC, dI) (WX6 a b cI cJ cZ st) A s.heap H locs → lv_has ls 7 [(0, .ref (a 0)), (1, .int x1), (2, .int x2), (3, .int r.1), (4, .int r.2.1), (5, .int r.2.2.1), (6, .int r.2.2.2)] → W p l e (headSpec wsX6_run rX6_run).room s m args below meth c H locs 0 0 QQ (F0 m 82 ls [])) → (∀ (H : Heap) (locs : List Loc) (ls : Array Slot), IN (dC, dI) (WX6 a b cI cJ cZ st) A s.heap H locs → lv_has ls 7 [(0, .ref (a 0)), (1, .int x1), (2, .int x2), (3, .int s0.1), (4, .int s0.2.1), (5, .int s0.2.2.1), (6, .int s0.2.2.2)] → W p l e (headSpec wsX6_run rX6_run).room s m args below meth c H locs 0 0 QQ (F0 m 16 ls [])) := by
    intro st x1 x2 fu s0 r
    have b73 : ∀ (st : MS) (x1 : Int32) (x2 : Int32) (x3 : Int32) (x4 : Int32) (x6 : Int32) (k0 : Int32) (k1 : Int32) (x : (Int32 × Int32 × Int32 × Int32) ⊕ (Int32 × Int32 × Int32 × Int32)), fX6_run_b73 st x1 x2 x3 x4 x6 k0 k1 = some x → (∀ s', x = .inl s' → (∀ (H : Heap) (locs : List Loc) (ls : Array Slot), IN (dC, dI) (WX6 a b cI cJ cZ st) A s.heap H locs → lv_has ls 7 [(0, .ref (a 0)), (1, .int x1), (2, .int x2), (3, .int s'.1), (4, .int s'.2.1), (5, .int s'.2.2.1), (6, .int s'.2.2.2)] → W p l e (headSpec wsX6_run rX6_run).room s m args below meth c H locs 0 0 QQ (F0 m 16 ls []))) → (∀ r, x = .inr r → (∀ (H : Heap) (locs : List Loc) (ls : Array Slot), IN (dC, dI) (WX6 a b cI cJ cZ st) A s.heap H locs → lv_has ls 7 [(0, .ref (a 0)), (1, .int x1), (2, .int x2), (3, .int r.1), (4, .int r.2.1), (5, .int r.2.2.1), (6, .int r.2.2.2)] → W p l e (headSpec wsX6_run rX6_run).room s m args below meth c H locs 0 0 QQ (F0 m 82 ls []))) → (∀ (H : Heap) (locs : List Loc) (ls : Array Slot), IN (dC, dI) (WX6 a b cI cJ cZ st) A s.heap H locs → lv_has ls 7 [(0, .ref (a 0)), (1, .int x1), (2, .int x2), (3, .int x3), (4, .int x4), (6, .int x6)] → W p l e (headSpec wsX6_run rX6_run).room s m args below meth c H locs 0 0 QQ (F0 m 73 ls [.int k1, .int k0])) := by
      intro st x1 x2 x3 x4 x6 k0 k1 x hf kc ke
      intro H locs ls hin hl
      obtain ⟨hP, hD, hS⟩ := hin
      unfold fX6_run_b73 at hf
      refine lv_iadd hx hb dX6_run_73 ?_
      refine lv_istore (lv' := [(5, .int (k0 + k1)), (0, .ref (a 0)), (1, .int x1), (2, .int x2), (3, .int x3), (4, .int x4), (6, .int x6)]) hx hb dX6_run_74 hl (by decide) rfl (fun ls hl => ?_)
      refine lv_iinc (v := (x6 + (1 : Int32))) (lv' := [(6, .int (x6 + (1 : Int32))), (5, .int (k0 + k1)), (0, .ref (a 0)), (1, .int x1), (2, .int x2), (3, .int x3), (4, .int x4)]) hx hb dX6_run_76 hl (k := 6) rfl rfl (by decide) rfl (fun ls hl => ?_)
      refine lv_goto (tgt := 16) hx hb dX6_run_79 (by decide) ?_
      obtain rfl := Option.some.inj hf
      exact kc _ rfl H locs ls ⟨hP, hD, hS⟩ (lv_sub hl [2, 3, 4, 5, 6, 1, 0] rfl)
    have b59 : ∀ (st : MS) (x1 : Int32) (x2 : Int32) (x3 : Int32) (x5 : Int32) (x6 : Int32) (k0 : Int32) (x : (Int32 × Int32 × Int32 × Int32) ⊕ (Int32 × Int32 × Int32 × Int32)), fX6_run_b59 st x1 x2 x3 x5 x6 k0 = some x → (∀ s', x = .inl s' → (∀ (H : Heap) (locs : List Loc) (ls : Array Slot), IN (dC, dI) (WX6 a b cI cJ cZ st) A s.heap H locs → lv_has ls 7 [(0, .ref (a 0)), (1, .int x1), (2, .int x2), (3, .int s'.1), (4, .int s'.2.1), (5, .int s'.2.2.1), (6, .int s'.2.2.2)] → W p l e (headSpec wsX6_run rX6_run).room s m args below meth c H locs 0 0 QQ (F0 m 16 ls []))) → (∀ r, x = .inr r → (∀ (H : Heap) (locs : List Loc) (ls : Array Slot), IN (dC, dI) (WX6 a b cI cJ cZ st) A s.heap H locs → lv_has ls 7 [(0, .ref (a 0)), (1, .int x1), (2, .int x2), (3, .int r.1), (4, .int r.2.1), (5, .int r.2.2.1), (6, .int r.2.2.2)] → W p l e (headSpec wsX6_run rX6_run).room s m args below meth c H locs 0 0 QQ (F0 m 82 ls []))) → (∀ (H : Heap) (locs : List Loc) (ls : Array Slot), IN (dC, dI) (WX6 a b cI cJ cZ st) A s.heap H locs → lv_has ls 7 [(0, .ref (a 0)), (1, .int x1), (2, .int x2), (3, .int x3), (5, .int x5), (6, .int x6)] → W p l e (headSpec wsX6_run rX6_run).room s m args below meth c H locs 0 0 QQ (F0 m 59 ls [.int k0])) := by
      intro st x1 x2 x3 x5 x6 k0 x hf kc ke
      intro H locs ls hin hl
      obtain ⟨hP, hD, hS⟩ := hin
      unfold fX6_run_b59 at hf
      refine lv_istore (lv' := [(4, .int k0), (0, .ref (a 0)), (1, .int x1), (2, .int x2), (3, .int x3), (5, .int x5), (6, .int x6)]) hx hb dX6_run_59 hl (by decide) rfl (fun ls hl => ?_)
      refine lv_iload hx hb dX6_run_61 (lv_at hl 5 rfl) ?_
      refine lv_iload_n hx hb dX6_run_63 rfl (lv_at hl 4 rfl) ?_
      refine lv_iload_n hx hb dX6_run_64 rfl (lv_at hl 2 rfl) ?_
      refine lv_icmp_ne (tgt := 72) hx hb dX6_run_65 (by decide) (fun c8 => ?_) (fun c8 => ?_)
      · replace hf := it_n c8 hf
        refine lv_iconst (v := (0 : Int32)) hx hb dX6_run_72 (by decide) ?_
        exact b73 st x1 x2 x3 k0 x6 x5 (0 : Int32) _ hf kc ke H locs ls ⟨hP, hD, hS⟩ (lv_sub hl [1, 2, 3, 4, 0, 6] rfl)
      · replace hf := it_p c8 hf
        refine lv_iconst (v := (1 : Int32)) hx hb dX6_run_68 (by decide) ?_
        refine lv_goto (tgt := 73) hx hb dX6_run_69 (by decide) ?_
        exact b73 st x1 x2 x3 k0 x6 x5 (1 : Int32) _ hf kc ke H locs ls ⟨hP, hD, hS⟩ (lv_sub hl [1, 2, 3, 4, 0, 6] rfl)
    have b57 : ∀ (st : MS) (x1 : Int32) (x2 : Int32) (x3 : Int32) (x4 : Int32) (x5 : Int32) (x6 : Int32) (x : (Int32 × Int32 × Int32 × Int32) ⊕ (Int32 × Int32 × Int32 × Int32)), fX6_run_b57 st x1 x2 x3 x4 x5 x6 = some x → (∀ s', x = .inl s' → (∀ (H : Heap) (locs : List Loc) (ls : Array Slot), IN (dC, dI) (WX6 a b cI cJ cZ st) A s.heap H locs → lv_has ls 7 [(0, .ref (a 0)), (1, .int x1), (2, .int x2), (3, .int s'.1), (4, .int s'.2.1), (5, .int s'.2.2.1), (6, .int s'.2.2.2)] → W p l e (headSpec wsX6_run rX6_run).room s m args below meth c H locs 0 0 QQ (F0 m 16 ls []))) → (∀ r, x = .inr r → (∀ (H : Heap) (locs : List Loc) (ls : Array Slot), IN (dC, dI) (WX6 a b cI cJ cZ st) A s.heap H locs → lv_has ls 7 [(0, .ref (a 0)), (1, .int x1), (2, .int x2), (3, .int r.1), (4, .int r.2.1), (5, .int r.2.2.1), (6, .int r.2.2.2)] → W p l e (headSpec wsX6_run rX6_run).room s m args below meth c H locs 0 0 QQ (F0 m 82 ls []))) → (∀ (H : Heap) (locs : List Loc) (ls : Array Slot), IN (dC, dI) (WX6 a b cI cJ cZ st) A s.heap H locs → lv_has ls 7 [(0, .ref (a 0)), (1, .int x1), (2, .int x2), (3, .int x3), (4, .int x4), (5, .int x5), (6, .int x6)] → W p l e (headSpec wsX6_run rX6_run).room s m args below meth c H locs 0 0 QQ (F0 m 57 ls [])) := by
      intro st x1 x2 x3 x4 x5 x6 x hf kc ke
      intro H locs ls hin hl
      obtain ⟨hP, hD, hS⟩ := hin
      unfold fX6_run_b57 at hf
      refine lv_iload hx hb dX6_run_57 (lv_at hl 4 rfl) ?_
      exact b59 st x1 x2 x3 x5 x6 x4 _ hf kc ke H locs ls ⟨hP, hD, hS⟩ (lv_sub hl [0, 1, 2, 3, 5, 6] rfl)
    have b40 : ∀ (st : MS) (x1 : Int32) (x2 : Int32) (x4 : Int32) (x5 : Int32) (x6 : Int32) (k0 : Int32) (k1 : Int32) (x : (Int32 × Int32 × Int32 × Int32) ⊕ (Int32 × Int32 × Int32 × Int32)), fX6_run_b40 st x1 x2 x4 x5 x6 k0 k1 = some x → (∀ s', x = .inl s' → (∀ (H : Heap) (locs : List Loc) (ls : Array Slot), IN (dC, dI) (WX6 a b cI cJ cZ st) A s.heap H locs → lv_has ls 7 [(0, .ref (a 0)), (1, .int x1), (2, .int x2), (3, .int s'.1), (4, .int s'.2.1), (5, .int s'.2.2.1), (6, .int s'.2.2.2)] → W p l e (headSpec wsX6_run rX6_run).room s m args below meth c H locs 0 0 QQ (F0 m 16 ls []))) → (∀ r, x = .inr r → (∀ (H : Heap) (locs : List Loc) (ls : Array Slot), IN (dC, dI) (WX6 a b cI cJ cZ st) A s.heap H locs → lv_has ls 7 [(0, .ref (a 0)), (1, .int x1), (2, .int x2), (3, .int r.1), (4, .int r.2.1), (5, .int r.2.2.1), (6, .int r.2.2.2)] → W p l e (headSpec wsX6_run rX6_run).room s m args below meth c H locs 0 0 QQ (F0 m 82 ls []))) → (∀ (H : Heap) (locs : List Loc) (ls : Array Slot), IN (dC, dI) (WX6 a b cI cJ cZ st) A s.heap H locs → lv_has ls 7 [(0, .ref (a 0)), (1, .int x1), (2, .int x2), (4, .int x4), (5, .int x5), (6, .int x6)] → W p l e (headSpec wsX6_run rX6_run).room s m args below meth c H locs 0 0 QQ (F0 m 40 ls [.int k1, .int k0])) := by
      intro st x1 x2 x4 x5 x6 k0 k1 x hf kc ke
      intro H locs ls hin hl
      obtain ⟨hP, hD, hS⟩ := hin
      unfold fX6_run_b40 at hf
      refine lv_iadd hx hb dX6_run_40 ?_
      refine lv_istore_n (lv' := [(3, .int (k0 + k1)), (0, .ref (a 0)), (1, .int x1), (2, .int x2), (4, .int x4), (5, .int x5), (6, .int x6)]) hx hb dX6_run_41 rfl hl (by decide) rfl (fun ls hl => ?_)
      refine lv_iload_n hx hb dX6_run_42 rfl (lv_at hl 0 rfl) ?_
      refine lv_iload_n hx hb dX6_run_43 rfl (lv_at hl 2 rfl) ?_
      refine lv_icmp_ne (tgt := 57) hx hb dX6_run_44 (by decide) (fun c7 => ?_) (fun c7 => ?_)
      · replace hf := it_n c7 hf
        exact b57 st x1 x2 (k0 + k1) x4 x5 x6 _ hf kc ke H locs ls ⟨hP, hD, hS⟩ (lv_sub hl [1, 2, 3, 0, 4, 5, 6] rfl)
      · replace hf := it_p c7 hf
        refine lv_iload hx hb dX6_run_47 (lv_at hl 4 rfl) ?_
        refine lv_if_ne (tgt := 57) hx hb dX6_run_49 (by decide) (fun c9 => ?_) (fun c9 => ?_)
        · replace hf := it_n c9 hf
          exact b57 st x1 x2 (k0 + k1) x4 x5 x6 _ hf kc ke H locs ls ⟨hP, hD, hS⟩ (lv_sub hl [1, 2, 3, 0, 4, 5, 6] rfl)
        · replace hf := it_p c9 hf
          refine lv_iload hx hb dX6_run_52 (lv_at hl 6 rfl) ?_
          refine lv_goto (tgt := 59) hx hb dX6_run_54 (by decide) ?_
          exact b59 st x1 x2 (k0 + k1) x5 x6 x6 _ hf kc ke H locs ls ⟨hP, hD, hS⟩ (lv_sub hl [1, 2, 3, 0, 5, 6] rfl)
    refine loop_ind (P := fun s0 => ∀ (H : Heap) (locs : List Loc) (ls : Array Slot), IN (dC, dI) (WX6 a b cI cJ cZ st) A s.heap H locs → lv_has ls 7 [(0, .ref (a 0)), (1, .int x1), (2, .int x2), (3, .int s0.1), (4, .int s0.2.1), (5, .int s0.2.2.1), (6, .int s0.2.2.2)] → W p l e (headSpec wsX6_run rX6_run).room s m args below meth c H locs 0 0 QQ (F0 m 16 ls [])) (Q := fun r => ∀ (H : Heap) (locs : List Loc) (ls : Array Slot), IN (dC, dI) (WX6 a b cI cJ cZ st) A s.heap H locs → lv_has ls 7 [(0, .ref (a 0)), (1, .int x1), (2, .int x2), (3, .int r.1), (4, .int r.2.1), (5, .int r.2.2.1), (6, .int r.2.2.2)] → W p l e (headSpec wsX6_run rX6_run).room s m args below meth c H locs 0 0 QQ (F0 m 82 ls [])) ?_ fu s0 r
    clear fu s0 r
    rintro ⟨x3, x4, x5, x6⟩ x hf kc ke
    replace hf : fX6_run_l16 st x1 x2 x3 x4 x5 x6 = some x := hf
    replace kc : (∀ s', x = .inl s' → (∀ (H : Heap) (locs : List Loc) (ls : Array Slot), IN (dC, dI) (WX6 a b cI cJ cZ st) A s.heap H locs → lv_has ls 7 [(0, .ref (a 0)), (1, .int x1), (2, .int x2), (3, .int s'.1), (4, .int s'.2.1), (5, .int s'.2.2.1), (6, .int s'.2.2.2)] → W p l e (headSpec wsX6_run rX6_run).room s m args below meth c H locs 0 0 QQ (F0 m 16 ls []))) := kc
    replace ke : (∀ r, x = .inr r → (∀ (H : Heap) (locs : List Loc) (ls : Array Slot), IN (dC, dI) (WX6 a b cI cJ cZ st) A s.heap H locs → lv_has ls 7 [(0, .ref (a 0)), (1, .int x1), (2, .int x2), (3, .int r.1), (4, .int r.2.1), (5, .int r.2.2.1), (6, .int r.2.2.2)] → W p l e (headSpec wsX6_run rX6_run).room s m args below meth c H locs 0 0 QQ (F0 m 82 ls []))) := ke
    intro H locs ls hin hl
    obtain ⟨hP, hD, hS⟩ := hin
    unfold fX6_run_l16 at hf
    refine lv_iload hx hb dX6_run_16 (lv_at hl 6 rfl) ?_
    refine lv_aload_n hx hb dX6_run_18 rfl (lv_at hl 0 rfl) ?_
    refine va_get (D := (dC, dI)) (ci := 6) (v := .int (MS_serials st)) (C := RX6) (T := TX6) (N := 26) hx hb hts kX6_run_X6 hown hK hP 0 rfl rfl 19 (by decide) (hts _ mX6_run_2) (fun _ h9 => h9) rfl dX6_run_19 ?_
    refine lv_icmp_gt (tgt := 82) hx hb dX6_run_22 (by decide) (fun c3 => ?_) (fun c3 => ?_)
    · replace hf := it_p c3 hf
      obtain rfl := Option.some.inj hf
      exact ke _ rfl H locs ls ⟨hP, hD, hS⟩ (lv_sub hl [0, 1, 2, 3, 4, 5, 6] rfl)
    · replace hf := it_n c3 hf
      refine lv_iload_n hx hb dX6_run_25 rfl (lv_at hl 3 rfl) ?_
      refine lv_aload_n hx hb dX6_run_26 rfl (lv_at hl 0 rfl) ?_
      refine lv_iload hx hb dX6_run_27 (lv_at hl 6 rfl) ?_
      obtain ⟨r4, hc5, hf⟩ := bind_s hf
      refine cpV (v := .int r4) ⟨hx, hb, hml, hown, hts⟩ (ct_X6_begins l dC dI a b cI cJ cZ st x6 r4 hc5) (cwV 1 hts gX6_run_X6_begins rfl rfl rfl (by decide +kernel) ⟨(Nat.le_of_ble_eq_true rfl), (Nat.le_of_ble_eq_true rfl)⟩) hK hP [0, 1, 2, 3, 4, 5, 6, 7, 8, 9, 10, 11, 12, 13, 14, 15, 16, 17, 18, 19, 20] rfl rfl rfl rfl hl.1 rfl (Nat.le_of_ble_eq_true rfl) (Nat.le_of_ble_eq_true rfl) (Nat.le_of_ble_eq_true rfl) dX6_run_29 ?_
      refine lv_if_eq (tgt := 39) hx hb dX6_run_32 (by decide) (fun c6 => ?_) (fun c6 => ?_)
      · replace hf := it_p c6 hf
        refine lv_iconst (v := (0 : Int32)) hx hb dX6_run_39 (by decide) ?_
        exact b40 st x1 x2 x4 x5 x6 x3 (0 : Int32) _ hf kc ke H locs ls ⟨hP, hD, hS⟩ (lv_sub hl [0, 1, 2, 4, 5, 6] rfl)
      · replace hf := it_n c6 hf
        refine lv_iconst (v := (1 : Int32)) hx hb dX6_run_35 (by decide) ?_
        refine lv_goto (tgt := 40) hx hb dX6_run_36 (by decide) ?_
        exact b40 st x1 x2 x4 x5 x6 x3 (1 : Int32) _ hf kc ke H locs ls ⟨hP, hD, hS⟩ (lv_sub hl [0, 1, 2, 4, 5, 6] rfl)
  have main : ∀ (H : Heap) (locs : List Loc) (ls : Array Slot), IN (dC, dI) (WX6 a b cI cJ cZ st) A s.heap H locs → lv_has ls 7 [(0, .ref (a 0)), (1, .int x1), (2, .int x2)] → W p l e (headSpec wsX6_run rX6_run).room s m args below meth c H locs 0 0 QQ (F0 m 0 ls []) := by
    intro H locs ls hin hl
    obtain ⟨hP, hD, hS⟩ := hin
    unfold fX6_run at hf
    refine lv_aload_n hx hb dX6_run_0 rfl (lv_at hl 0 rfl) ?_
    refine lv_iconst (v := (0 : Int32)) hx hb dX6_run_1 (by decide) ?_
    refine va_put (D := (dC, dI)) (ci := 6) (v := .int (0 : Int32)) (ty := .int) (C := RX6) (T := TX6) (N := 26) hx hb hts kX6_run_X6 tyX6 tyX6_ok nmX6 hown hK hP hD hS 0 rfl rfl 0 (by decide) (hts _ mX6_run_1) (fun _ h9 => h9) rfl (by decide +kernel) rfl rfl (Nat.le_of_ble_eq_true rfl) dX6_run_2 (fun H locs hP hD hS => ?_)
    obtain ⟨s1, hs2, hf⟩ := bnd_e hf
    replace hP := putP_thrown hs2 hP
    replace hD := putD_thrown hs2 hD
    refine lv_iconst (v := (-1 : Int32)) hx hb dX6_run_5 (by decide) ?_
    refine lv_istore_n (lv' := [(3, .int (-1 : Int32)), (0, .ref (a 0)), (1, .int x1), (2, .int x2)]) hx hb dX6_run_6 rfl hl (by decide) rfl (fun ls hl => ?_)
    refine lv_iconst (v := (0 : Int32)) hx hb dX6_run_7 (by decide) ?_
    refine lv_istore (lv' := [(4, .int (0 : Int32)), (3, .int (-1 : Int32)), (0, .ref (a 0)), (1, .int x1), (2, .int x2)]) hx hb dX6_run_8 hl (by decide) rfl (fun ls hl => ?_)
    refine lv_iconst (v := (0 : Int32)) hx hb dX6_run_10 (by decide) ?_
    refine lv_istore (lv' := [(5, .int (0 : Int32)), (4, .int (0 : Int32)), (3, .int (-1 : Int32)), (0, .ref (a 0)), (1, .int x1), (2, .int x2)]) hx hb dX6_run_11 hl (by decide) rfl (fun ls hl => ?_)
    refine lv_iconst (v := (1 : Int32)) hx hb dX6_run_13 (by decide) ?_
    refine lv_istore (lv' := [(6, .int (1 : Int32)), (5, .int (0 : Int32)), (4, .int (0 : Int32)), (3, .int (-1 : Int32)), (0, .ref (a 0)), (1, .int x1), (2, .int x2)]) hx hb dX6_run_14 hl (by decide) rfl (fun ls hl => ?_)
    obtain ⟨y10, hlp, hf⟩ := bind_s hf
    refine l16 s1 x1 x2 fuelN ((-1 : Int32), (0 : Int32), (0 : Int32), (1 : Int32)) y10 hlp ?_ H locs ls ⟨hP, hD, hS⟩ (lv_sub hl [4, 5, 6, 3, 2, 1, 0] rfl)
    intro H locs ls hin hl
    obtain ⟨hP, hD, hS⟩ := hin
    refine lv_iload_n hx hb dX6_run_82 rfl (lv_at hl 1 rfl) ?_
    refine lv_if_lt (tgt := 91) hx hb dX6_run_83 (by decide) (fun c11 => ?_) (fun c11 => ?_)
    · replace hf := it_p c11 hf
      refine lv_iconst (v := (-1 : Int32)) hx hb dX6_run_91 (by decide) ?_
      obtain rfl := Option.some.inj hf
      rw [hQ]
      exact W.iret hx hb hr (fun t ht hW => ⟨rfl, ⟨by rw [ht]; exact hP, hD⟩, hS.F ht⟩) hS.2.2 dX6_run_92
    · replace hf := it_n c11 hf
      refine lv_iload hx hb dX6_run_86 (lv_at hl 5 rfl) ?_
      refine lv_if_ne (tgt := 93) hx hb dX6_run_88 (by decide) (fun c12 => ?_) (fun c12 => ?_)
      · replace hf := it_n c12 hf
        refine lv_iload_n hx hb dX6_run_93 rfl (lv_at hl 2 rfl) ?_
        refine lv_if_ne (tgt := 102) hx hb dX6_run_94 (by decide) (fun c13 => ?_) (fun c13 => ?_)
        · replace hf := it_n c13 hf
          refine lv_iload_n hx hb dX6_run_102 rfl (lv_at hl 2 rfl) ?_
          refine lv_iconst (v := (1 : Int32)) hx hb dX6_run_103 (by decide) ?_
          refine lv_icmp_ne (tgt := 112) hx hb dX6_run_104 (by decide) (fun c14 => ?_) (fun c14 => ?_)
          · replace hf := it_n c14 hf
            refine lv_iload_n hx hb dX6_run_112 rfl (lv_at hl 2 rfl) ?_
            refine lv_iconst (v := (2 : Int32)) hx hb dX6_run_113 (by decide) ?_
            refine lv_icmp_ne (tgt := 127) hx hb dX6_run_114 (by decide) (fun c15 => ?_) (fun c15 => ?_)
            · replace hf := it_n c15 hf
              refine lv_iload_n hx hb dX6_run_127 rfl (lv_at hl 2 rfl) ?_
              refine lv_iconst (v := (3 : Int32)) hx hb dX6_run_128 (by decide) ?_
              refine lv_icmp_ne (tgt := 142) hx hb dX6_run_129 (by decide) (fun c16 => ?_) (fun c16 => ?_)
              · replace hf := it_n c16 hf
                refine lv_bipush (v := (-2 : Int32)) hx hb dX6_run_142 (by decide) ?_
                obtain rfl := Option.some.inj hf
                rw [hQ]
                exact W.iret hx hb hr (fun t ht hW => ⟨rfl, ⟨by rw [ht]; exact hP, hD⟩, hS.F ht⟩) hS.2.2 dX6_run_144
              · replace hf := it_p c16 hf
                refine lv_aload_n hx hb dX6_run_132 rfl (lv_at hl 0 rfl) ?_
                refine va_get (D := (dC, dI)) (ci := 6) (v := .ref (a 16)) (C := RX6) (T := TX6) (N := 26) hx hb hts kX6_run_X6 hown hK hP 0 rfl rfl 21 (by decide) (hts _ mX6_run_4) (fun _ h9 => h9) rfl dX6_run_133 ?_
                refine lv_iload hx hb dX6_run_136 (lv_at hl 4 rfl) ?_
                obtain ⟨hi17, hf⟩ := it_s hf
                refine va_iald hx hb hK hP 16 0 rfl rfl (inb_in hi17) dX6_run_138 ?_
                refine lv_goto (tgt := 144) hx hb dX6_run_139 (by decide) ?_
                obtain rfl := Option.some.inj hf
                rw [hQ]
                exact W.iret hx hb hr (fun t ht hW => ⟨rfl, ⟨by rw [ht]; exact hP, hD⟩, hS.F ht⟩) hS.2.2 dX6_run_144
            · replace hf := it_p c15 hf
              refine lv_aload_n hx hb dX6_run_117 rfl (lv_at hl 0 rfl) ?_
              refine va_get (D := (dC, dI)) (ci := 6) (v := .ref (a 15)) (C := RX6) (T := TX6) (N := 26) hx hb hts kX6_run_X6 hown hK hP 0 rfl rfl 20 (by decide) (hts _ mX6_run_3) (fun _ h9 => h9) rfl dX6_run_118 ?_
              refine lv_iload hx hb dX6_run_121 (lv_at hl 4 rfl) ?_
              obtain ⟨hi18, hf⟩ := it_s hf
              refine va_iald hx hb hK hP 15 0 rfl rfl (inb_in hi18) dX6_run_123 ?_
              refine lv_goto (tgt := 144) hx hb dX6_run_124 (by decide) ?_
              obtain rfl := Option.some.inj hf
              rw [hQ]
              exact W.iret hx hb hr (fun t ht hW => ⟨rfl, ⟨by rw [ht]; exact hP, hD⟩, hS.F ht⟩) hS.2.2 dX6_run_144
          · replace hf := it_p c14 hf
            refine lv_iload hx hb dX6_run_107 (lv_at hl 5 rfl) ?_
            refine lv_goto (tgt := 144) hx hb dX6_run_109 (by decide) ?_
            obtain rfl := Option.some.inj hf
            rw [hQ]
            exact W.iret hx hb hr (fun t ht hW => ⟨rfl, ⟨by rw [ht]; exact hP, hD⟩, hS.F ht⟩) hS.2.2 dX6_run_144
        · replace hf := it_p c13 hf
          refine lv_iload hx hb dX6_run_97 (lv_at hl 4 rfl) ?_
          refine lv_goto (tgt := 144) hx hb dX6_run_99 (by decide) ?_
          obtain rfl := Option.some.inj hf
          rw [hQ]
          exact W.iret hx hb hr (fun t ht hW => ⟨rfl, ⟨by rw [ht]; exact hP, hD⟩, hS.F ht⟩) hS.2.2 dX6_run_144
      · replace hf := it_p c12 hf
        refine lv_iconst (v := (-1 : Int32)) hx hb dX6_run_91 (by decide) ?_
        obtain rfl := Option.some.inj hf
        rw [hQ]
        exact W.iret hx hb hr (fun t ht hW => ⟨rfl, ⟨by rw [ht]; exact hP, hD⟩, hS.F ht⟩) hS.2.2 dX6_run_92
  exact main s.heap [] ls ⟨hP, hD, va_S.rf⟩ hl
def rX6_count : Room := { frames := 0, cells := 0, slots := 0, locals := 0 }
theorem kX6_count_X6 : ∀ w ∈ wsX60, w ∈ wsX6_count := fun w h => (List.mem_cons_of_mem _ (List.mem_append_right _ h))
theorem mX6_count_1 : Cond.fieldLink RX6 76 "SmokeLedgerModel" "thrown" "I" ∈ wsX6_count := List.mem_of_getElem? (i := 1) rfl
theorem mX6_count_2 : Cond.fieldLink RX6 7 "SmokeLedgerModel" "units" "I" ∈ wsX6_count := List.mem_of_getElem? (i := 2) rfl
theorem mX6_count_3 : Cond.fieldLink RX6 90 "SmokeLedgerModel" "rows" "I" ∈ wsX6_count := List.mem_of_getElem? (i := 3) rfl
theorem mX6_count_4 : Cond.fieldLink RX6 87 "SmokeLedgerModel" "versions" "I" ∈ wsX6_count := List.mem_of_getElem? (i := 4) rfl
theorem mX6_count_5 : Cond.fieldLink RX6 164 "SmokeLedgerModel" "serials" "I" ∈ wsX6_count := List.mem_of_getElem? (i := 5) rfl
theorem mX6_count_6 : Cond.fieldLink RX6 93 "SmokeLedgerModel" "holdings" "I" ∈ wsX6_count := List.mem_of_getElem? (i := 6) rfl
set_option maxHeartbeats 4000000 in
set_option maxRecDepth 100000 in
theorem ct_X6_count (l : Launch) (dC : Nat → ClassId) (dI : Nat → Nat → Nat) (a b : Nat → Nat) (cI cJ cZ : ClassId) (sz : Nat) (st : MS) (x1 : Int32) (res : Int32 × MS) (hf : fX6_count st x1 = some res) : Met l yX6_count wsX6_count rX6_count (Pm (dC, dI) (tyT cI cJ cZ) (WX6 a b cI cJ cZ st) sz [.ref (a 0), .int x1]) (Qm (dC, dI) (some (.int res.1)) (WX6 a b cI cJ cZ res.2) (va_A (WX6 a b cI cJ cZ st) sz)) 0 0 (va_A (WX6 a b cI cJ cZ st) sz) := by
  refine Met.ofW (cc := cX6_count) (maxL := 2) (ret := (some .int)) (by decide) rfl ?_
  intro p e s m args below meth c s₁ B hml hv
  obtain ⟨hargs, hsz, hP, hK, hD0⟩ := hv
  have hx := B.exec
  have hb := B.bytes
  have hr := B.returns
  have hts := atoms_spec (ws := wsX6_count) B.pre
  have hown : s.vm.findClass RX6 = some m.cls := findClass_of_methodNamed B.named
  have hlocks := B.notSynchronized
  subst hsz
  have hD := hD0.self (sz := s.heap.size)
  generalize hAe : va_A (WX6 a b cI cJ cZ st) s.heap.size = A at hD ⊢
  have hA : ∀ q : Nat, s.heap.size ≤ q → A q := fun q h => by rw [← hAe]; exact Or.inr h
  have hl := lv_entry ([.ref (a 0), .int x1]) (n := 2) (Nat.le_of_ble_eq_true rfl)
  refine W.eq (hargs ▸ lg_entry_eq m [.ref (a 0), .int x1] 2) ?_
  generalize (lg_sl ([.ref (a 0), .int x1]) ++ List.replicate (2 - (lg_sl ([.ref (a 0), .int x1])).length) Slot.unset).toArray = ls at hl ⊢
  have hl : lv_has ls 2 [(0, .ref (a 0)), (1, .int x1)] := hl
  obtain ⟨QQ, hQ⟩ : ∃ QQ : State → Prop, QQ = MQ below (Qm (dC, dI) (some (.int res.1)) (WX6 a b cI cJ cZ res.2) A) args s 0 0 (A) := ⟨_, rfl⟩
  rw [← hQ]
  have main : ∀ (H : Heap) (locs : List Loc) (ls : Array Slot), IN (dC, dI) (WX6 a b cI cJ cZ st) A s.heap H locs → lv_has ls 2 [(0, .ref (a 0)), (1, .int x1)] → W p l e (headSpec wsX6_count rX6_count).room s m args below meth c H locs 0 0 QQ (F0 m 0 ls []) := by
    intro H locs ls hin hl
    obtain ⟨hP, hD, hS⟩ := hin
    unfold fX6_count at hf
    refine lv_aload_n hx hb dX6_count_0 rfl (lv_at hl 0 rfl) ?_
    refine lv_iconst (v := (0 : Int32)) hx hb dX6_count_1 (by decide) ?_
    refine va_put (D := (dC, dI)) (ci := 6) (v := .int (0 : Int32)) (ty := .int) (C := RX6) (T := TX6) (N := 26) hx hb hts kX6_count_X6 tyX6 tyX6_ok nmX6 hown hK hP hD hS 0 rfl rfl 0 (by decide) (hts _ mX6_count_1) (fun _ h9 => h9) rfl (by decide +kernel) rfl rfl (Nat.le_of_ble_eq_true rfl) dX6_count_2 (fun H locs hP hD hS => ?_)
    obtain ⟨s1, hs2, hf⟩ := bnd_e hf
    replace hP := putP_thrown hs2 hP
    replace hD := putD_thrown hs2 hD
    refine lv_iload_n hx hb dX6_count_5 rfl (lv_at hl 1 rfl) ?_
    by_cases c3 : x1 = 0
    · replace hf := it_p c3 hf
      refine lv_tableIn (off := 34) (tgt := 40) hx hb dX6_count_6 (by rw [c3]; decide) (by rw [c3]; decide) (by rw [c3]; rfl) (by decide) ?_
      refine lv_aload_n hx hb dX6_count_40 rfl (lv_at hl 0 rfl) ?_
      refine va_get (D := (dC, dI)) (ci := 6) (v := .int (MS_units s1)) (C := RX6) (T := TX6) (N := 26) hx hb hts kX6_count_X6 hown hK hP 0 rfl rfl 1 (by decide) (hts _ mX6_count_2) (fun _ h9 => h9) rfl dX6_count_41 ?_
      obtain rfl := Option.some.inj hf
      rw [hQ]
      exact W.iret hx hb hr (fun t ht hW => ⟨rfl, ⟨by rw [ht]; exact hP, hD⟩, hS.F ht⟩) hS.2.2 dX6_count_44
    · replace hf := it_n c3 hf
      by_cases c4 : x1 = 1
      · replace hf := it_p c4 hf
        refine lv_tableIn (off := 39) (tgt := 45) hx hb dX6_count_6 (by rw [c4]; decide) (by rw [c4]; decide) (by rw [c4]; rfl) (by decide) ?_
        refine lv_aload_n hx hb dX6_count_45 rfl (lv_at hl 0 rfl) ?_
        refine va_get (D := (dC, dI)) (ci := 6) (v := .int (MS_rows s1)) (C := RX6) (T := TX6) (N := 26) hx hb hts kX6_count_X6 hown hK hP 0 rfl rfl 7 (by decide) (hts _ mX6_count_3) (fun _ h9 => h9) rfl dX6_count_46 ?_
        obtain rfl := Option.some.inj hf
        rw [hQ]
        exact W.iret hx hb hr (fun t ht hW => ⟨rfl, ⟨by rw [ht]; exact hP, hD⟩, hS.F ht⟩) hS.2.2 dX6_count_49
      · replace hf := it_n c4 hf
        by_cases c5 : x1 = 2
        · replace hf := it_p c5 hf
          refine lv_tableIn (off := 44) (tgt := 50) hx hb dX6_count_6 (by rw [c5]; decide) (by rw [c5]; decide) (by rw [c5]; rfl) (by decide) ?_
          refine lv_aload_n hx hb dX6_count_50 rfl (lv_at hl 0 rfl) ?_
          refine va_get (D := (dC, dI)) (ci := 6) (v := .int (MS_versions s1)) (C := RX6) (T := TX6) (N := 26) hx hb hts kX6_count_X6 hown hK hP 0 rfl rfl 14 (by decide) (hts _ mX6_count_4) (fun _ h9 => h9) rfl dX6_count_51 ?_
          obtain rfl := Option.some.inj hf
          rw [hQ]
          exact W.iret hx hb hr (fun t ht hW => ⟨rfl, ⟨by rw [ht]; exact hP, hD⟩, hS.F ht⟩) hS.2.2 dX6_count_54
        · replace hf := it_n c5 hf
          by_cases c6 : x1 = 3
          · replace hf := it_p c6 hf
            refine lv_tableIn (off := 49) (tgt := 55) hx hb dX6_count_6 (by rw [c6]; decide) (by rw [c6]; decide) (by rw [c6]; rfl) (by decide) ?_
            refine lv_aload_n hx hb dX6_count_55 rfl (lv_at hl 0 rfl) ?_
            refine va_get (D := (dC, dI)) (ci := 6) (v := .int (MS_serials s1)) (C := RX6) (T := TX6) (N := 26) hx hb hts kX6_count_X6 hown hK hP 0 rfl rfl 19 (by decide) (hts _ mX6_count_5) (fun _ h9 => h9) rfl dX6_count_56 ?_
            obtain rfl := Option.some.inj hf
            rw [hQ]
            exact W.iret hx hb hr (fun t ht hW => ⟨rfl, ⟨by rw [ht]; exact hP, hD⟩, hS.F ht⟩) hS.2.2 dX6_count_59
          · replace hf := it_n c6 hf
            by_cases c7 : x1 = 4
            · replace hf := it_p c7 hf
              refine lv_tableIn (off := 54) (tgt := 60) hx hb dX6_count_6 (by rw [c7]; decide) (by rw [c7]; decide) (by rw [c7]; rfl) (by decide) ?_
              refine lv_aload_n hx hb dX6_count_60 rfl (lv_at hl 0 rfl) ?_
              refine va_get (D := (dC, dI)) (ci := 6) (v := .int (MS_holdings s1)) (C := RX6) (T := TX6) (N := 26) hx hb hts kX6_count_X6 hown hK hP 0 rfl rfl 2 (by decide) (hts _ mX6_count_6) (fun _ h9 => h9) rfl dX6_count_61 ?_
              obtain rfl := Option.some.inj hf
              rw [hQ]
              exact W.iret hx hb hr (fun t ht hW => ⟨rfl, ⟨by rw [ht]; exact hP, hD⟩, hS.F ht⟩) hS.2.2 dX6_count_64
            · replace hf := it_n c7 hf
              refine lv_tableOut (tgt := 65) hx hb dX6_count_6 (by have := lv_neT (a := 0) c3 rfl; have := lv_neT (a := 1) c4 rfl; have := lv_neT (a := 2) c5 rfl; have := lv_neT (a := 3) c6 rfl; have := lv_neT (a := 4) c7 rfl; omega) (by decide) ?_
              refine lv_bipush (v := (-2 : Int32)) hx hb dX6_count_65 (by decide) ?_
              obtain rfl := Option.some.inj hf
              rw [hQ]
              exact W.iret hx hb hr (fun t ht hW => ⟨rfl, ⟨by rw [ht]; exact hP, hD⟩, hS.F ht⟩) hS.2.2 dX6_count_67
  exact main s.heap [] ls ⟨hP, hD, va_S.rf⟩ hl
