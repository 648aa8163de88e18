def rX6_mayHold : Room := { frames := 0, cells := 0, slots := 0, locals := 0 }
theorem kX6_mayHold_X6 : ∀ w ∈ wsX60, w ∈ wsX6_mayHold := fun w h => (List.mem_cons_of_mem _ (List.mem_append_right _ h))
theorem mX6_mayHold_1 : Cond.fieldLink RX6 69 "SmokeLedgerModel" "edge" "[Z" ∈ wsX6_mayHold := List.mem_of_getElem? (i := 1) rfl
theorem mX6_mayHold_2 : Cond.fieldLink RX6 93 "SmokeLedgerModel" "holdings" "I" ∈ wsX6_mayHold := List.mem_of_getElem? (i := 2) rfl
theorem mX6_mayHold_3 : Cond.fieldLink RX6 13 "SmokeLedgerModel" "who" "[I" ∈ wsX6_mayHold := List.mem_of_getElem? (i := 3) rfl
theorem mX6_mayHold_4 : Cond.fieldLink RX6 17 "SmokeLedgerModel" "whom" "[I" ∈ wsX6_mayHold := List.mem_of_getElem? (i := 4) rfl
theorem mX6_mayHold_5 : Cond.fieldLink RX6 20 "SmokeLedgerModel" "part" "[I" ∈ wsX6_mayHold := List.mem_of_getElem? (i := 5) rfl
theorem mX6_mayHold_6 : Cond.fieldLink RX6 73 "SmokeLedgerModel" "deep" "[I" ∈ wsX6_mayHold := List.mem_of_getElem? (i := 6) rfl
set_option maxHeartbeats 4000000 in
set_option maxRecDepth 100000 in
theorem ct_X6_mayHold (l : Launch) (dC : Nat → ClassId) (dI : Nat → Nat → Nat) (a b : Nat → Nat) (cI cJ cZ : ClassId) (sz : Nat) (st : MS) (x1 : Int32) (x2 : Int32) (res : Int32 × MS) (hf : fX6_mayHold st x1 x2 = some res) : Met l yX6_mayHold wsX6_mayHold rX6_mayHold (Pm (dC, dI) (tyT cI cJ cZ) (WX6 a b cI cJ cZ st) sz [.ref (a 0), .int x1, .int x2]) (Qm (dC, dI) (some (.int res.1)) (WX6 a b cI cJ cZ res.2) (va_A (WX6 a b cI cJ cZ st) sz)) 0 0 (va_A (WX6 a b cI cJ cZ st) sz) := by
  refine Met.ofW (cc := cX6_mayHold) (maxL := 7) (ret := (some .boolean)) (by decide) rfl ?_
  intro p e s m args below meth c s₁ B hml hv
  obtain ⟨hargs, hsz, hP, hK, hD0⟩ := hv
  have hx := B.exec
  have hb := B.bytes
  have hr := B.returns
  have hts := atoms_spec (ws := wsX6_mayHold) B.pre
  have hown : s.vm.findClass RX6 = some m.cls := findClass_of_methodNamed B.named
  have hlocks := B.notSynchronized
  subst hsz
  have hD := hD0.self (sz := s.heap.size)
  generalize hAe : va_A (WX6 a b cI cJ cZ st) s.heap.size = A at hD ⊢
  have hA : ∀ q : Nat, s.heap.size ≤ q → A q := fun q h => by rw [← hAe]; exact Or.inr h
  have hl := lv_entry ([.ref (a 0), .int x1, .int x2]) (n := 7) (Nat.le_of_ble_eq_true rfl)
  refine W.eq (hargs ▸ lg_entry_eq m [.ref (a 0), .int x1, .int x2] 7) ?_
  generalize (lg_sl ([.ref (a 0), .int x1, .int x2]) ++ List.replicate (7 - (lg_sl ([.ref (a 0), .int x1, .int x2])).length) Slot.unset).toArray = ls at hl ⊢
  have hl : lv_has ls 7 [(0, .ref (a 0)), (1, .int x1), (2, .int x2)] := hl
  obtain ⟨QQ, hQ⟩ : ∃ QQ : State → Prop, QQ = MQ below (Qm (dC, dI) (some (.int res.1)) (WX6 a b cI cJ cZ res.2) A) args s 0 0 (A) := ⟨_, rfl⟩
  rw [← hQ]
  have l2 : ∀ (x1 : Int32) (x2 : Int32) (fu : Nat) (s0 : MS × Int32) (r : MS × Int32), loopN (fun (s : MS × Int32) => fX6_mayHold_l2 x1 x2 s.1 s.2) fu s0 = some r → (∀ (H : Heap) (locs : List Loc) (ls : Array Slot), IN (dC, dI) (WX6 a b cI cJ cZ r.1) A s.heap H locs → lv_has ls 7 [(0, .ref (a 0)), (1, .int x1), (2, .int x2), (3, .int r.2)] → W p l e (headSpec wsX6_mayHold rX6_mayHold).room s m args below meth c H locs 0 0 QQ (F0 m 35 ls [])) → (∀ (H : Heap) (locs : List Loc) (ls : Array Slot), IN (dC, dI) (WX6 a b cI cJ cZ s0.1) A s.heap H locs → lv_has ls 7 [(0, .ref (a 0)), (1, .int x1), (2, .int x2), (3, .int s0.2)] → W p l e (headSpec wsX6_mayHold rX6_mayHold).room s m args below meth c H locs 0 0 QQ (F0 m 2 ls [])) := by
    intro x1 x2 fu s0 r
    have b28 : ∀ (st : MS) (x1 : Int32) (x2 : Int32) (x3 : Int32) (k1 : Int32) (k2 : Int32) (x : (MS × Int32) ⊕ (MS × Int32)), fX6_mayHold_b28 st x1 x2 x3 k1 k2 = some x → (∀ s', x = .inl s' → (∀ (H : Heap) (locs : List Loc) (ls : Array Slot), IN (dC, dI) (WX6 a b cI cJ cZ s'.1) A s.heap H locs → lv_has ls 7 [(0, .ref (a 0)), (1, .int x1), (2, .int x2), (3, .int s'.2)] → W p l e (headSpec wsX6_mayHold rX6_mayHold).room s m args below meth c H locs 0 0 QQ (F0 m 2 ls []))) → (∀ r, x = .inr r → (∀ (H : Heap) (locs : List Loc) (ls : Array Slot), IN (dC, dI) (WX6 a b cI cJ cZ r.1) A s.heap H locs → lv_has ls 7 [(0, .ref (a 0)), (1, .int x1), (2, .int x2), (3, .int r.2)] → W p l e (headSpec wsX6_mayHold rX6_mayHold).room s m args below meth c H locs 0 0 QQ (F0 m 35 ls []))) → (∀ (H : Heap) (locs : List Loc) (ls : Array Slot), IN (dC, dI) (WX6 a b cI cJ cZ st) A s.heap H locs → lv_has ls 7 [(0, .ref (a 0)), (1, .int x1), (2, .int x2), (3, .int x3)] → W p l e (headSpec wsX6_mayHold rX6_mayHold).room s m args below meth c H locs 0 0 QQ (F0 m 28 ls [.int k2, .int k1, .ref (a 19)])) := by
      intro st x1 x2 x3 k1 k2 x hf kc ke
      intro H locs ls hin hl
      obtain ⟨hP, hD, hS⟩ := hin
      unfold fX6_mayHold_b28 at hf
      obtain ⟨hi3, hf⟩ := it_s hf
      refine va_zast hx hb hK hP hD hS 19 2 rfl rfl (inb_in hi3) dX6_mayHold_28 (fun H locs hP hD hS => ?_)
      obtain ⟨s4, hs5, hf⟩ := bnd_e hf
      replace hP := putP_edge hs5 hP
      replace hD := putD_edge hs5 hD
      refine lv_iinc (v := (x3 + (1 : Int32))) (lv' := [(3, .int (x3 + (1 : Int32))), (0, .ref (a 0)), (1, .int x1), (2, .int x2)]) hx hb dX6_mayHold_29 hl (k := 3) rfl rfl (by decide) rfl (fun ls hl => ?_)
      refine lv_goto (tgt := 2) hx hb dX6_mayHold_32 (by decide) ?_
      obtain rfl := Option.some.inj hf
      exact kc _ rfl H locs ls ⟨hP, hD, hS⟩ (lv_sub hl [1, 2, 3, 0] rfl)
    refine loop_ind (P := fun s0 => ∀ (H : Heap) (locs : List Loc) (ls : Array Slot), IN (dC, dI) (WX6 a b cI cJ cZ s0.1) A s.heap H locs → lv_has ls 7 [(0, .ref (a 0)), (1, .int x1), (2, .int x2), (3, .int s0.2)] → W p l e (headSpec wsX6_mayHold rX6_mayHold).room s m args below meth c H locs 0 0 QQ (F0 m 2 ls [])) (Q := fun r => ∀ (H : Heap) (locs : List Loc) (ls : Array Slot), IN (dC, dI) (WX6 a b cI cJ cZ r.1) A s.heap H locs → lv_has ls 7 [(0, .ref (a 0)), (1, .int x1), (2, .int x2), (3, .int r.2)] → W p l e (headSpec wsX6_mayHold rX6_mayHold).room s m args below meth c H locs 0 0 QQ (F0 m 35 ls [])) ?_ fu s0 r
    clear fu s0 r
    rintro ⟨st, x3⟩ x hf kc ke
    replace hf : fX6_mayHold_l2 x1 x2 st x3 = some x := hf
    replace kc : (∀ s', x = .inl s' → (∀ (H : Heap) (locs : List Loc) (ls : Array Slot), IN (dC, dI) (WX6 a b cI cJ cZ s'.1) A s.heap H locs → lv_has ls 7 [(0, .ref (a 0)), (1, .int x1), (2, .int x2), (3, .int s'.2)] → W p l e (headSpec wsX6_mayHold rX6_mayHold).room s m args below meth c H locs 0 0 QQ (F0 m 2 ls []))) := kc
    replace ke : (∀ r, x = .inr r → (∀ (H : Heap) (locs : List Loc) (ls : Array Slot), IN (dC, dI) (WX6 a b cI cJ cZ r.1) A s.heap H locs → lv_has ls 7 [(0, .ref (a 0)), (1, .int x1), (2, .int x2), (3, .int r.2)] → W p l e (headSpec wsX6_mayHold rX6_mayHold).room s m args below meth c H locs 0 0 QQ (F0 m 35 ls []))) := ke
    intro H locs ls hin hl
    obtain ⟨hP, hD, hS⟩ := hin
    unfold fX6_mayHold_l2 at hf
    refine lv_iload_n hx hb dX6_mayHold_2 rfl (lv_at hl 3 rfl) ?_
    refine lv_bipush (v := (100 : Int32)) hx hb dX6_mayHold_3 (by decide) ?_
    refine lv_icmp_ge (tgt := 35) hx hb dX6_mayHold_5 (by decide) (fun c1 => ?_) (fun c1 => ?_)
    · replace hf := it_p c1 hf
      obtain rfl := Option.some.inj hf
      exact ke _ rfl H locs ls ⟨hP, hD, hS⟩ (lv_sub hl [0, 1, 2, 3] rfl)
    · replace hf := it_n c1 hf
      refine lv_aload_n hx hb dX6_mayHold_8 rfl (lv_at hl 0 rfl) ?_
      refine va_get (D := (dC, dI)) (ci := 6) (v := .ref (a 19)) (C := RX6) (T := TX6) (N := 26) hx hb hts kX6_mayHold_X6 hown hK hP 0 rfl rfl 24 (by decide) (hts _ mX6_mayHold_1) (fun _ h9 => h9) rfl dX6_mayHold_9 ?_
      refine lv_iload_n hx hb dX6_mayHold_12 rfl (lv_at hl 3 rfl) ?_
      refine lv_iload_n hx hb dX6_mayHold_13 rfl (lv_at hl 3 rfl) ?_
      refine lv_bipush (v := (10 : Int32)) hx hb dX6_mayHold_14 (by decide) ?_
      refine lv_iload_n hx hb dX6_mayHold_16 rfl (lv_at hl 1 rfl) ?_
      refine lv_imul hx hb dX6_mayHold_17 ?_
      refine lv_iload_n hx hb dX6_mayHold_18 rfl (lv_at hl 2 rfl) ?_
      refine lv_iadd hx hb dX6_mayHold_19 ?_
      refine lv_icmp_ne (tgt := 27) hx hb dX6_mayHold_20 (by decide) (fun c2 => ?_) (fun c2 => ?_)
      · replace hf := it_n c2 hf
        refine lv_iconst (v := (0 : Int32)) hx hb dX6_mayHold_27 (by decide) ?_
        exact b28 st x1 x2 x3 x3 (0 : Int32) _ hf kc ke H locs ls ⟨hP, hD, hS⟩ (lv_sub hl [0, 1, 2, 3] rfl)
      · replace hf := it_p c2 hf
        refine lv_iconst (v := (1 : Int32)) hx hb dX6_mayHold_23 (by decide) ?_
        refine lv_goto (tgt := 28) hx hb dX6_mayHold_24 (by decide) ?_
        exact b28 st x1 x2 x3 x3 (1 : Int32) _ hf kc ke H locs ls ⟨hP, hD, hS⟩ (lv_sub hl [0, 1, 2, 3] rfl)
  have l37 : ∀ (fu : Nat) (s0 : MS × Int32) (r : MS × Int32), loopN (fun (s : MS × Int32) => fX6_mayHold_l37 s.1 s.2) fu s0 = some r → (∀ (H : Heap) (locs : List Loc) (ls : Array Slot), IN (dC, dI) (WX6 a b cI cJ cZ r.1) A s.heap H locs → lv_has ls 7 [(0, .ref (a 0)), (3, .int r.2)] → W p l e (headSpec wsX6_mayHold rX6_mayHold).room s m args below meth c H locs 0 0 QQ (F0 m 89 ls [])) → (∀ (H : Heap) (locs : List Loc) (ls : Array Slot), IN (dC, dI) (WX6 a b cI cJ cZ s0.1) A s.heap H locs → lv_has ls 7 [(0, .ref (a 0)), (3, .int s0.2)] → W p l e (headSpec wsX6_mayHold rX6_mayHold).room s m args below meth c H locs 0 0 QQ (F0 m 37 ls [])) := by
    intro fu s0 r
    have b81 : ∀ (st : MS) (x3 : Int32) (k1 : Int32) (k2 : Int32) (k3 : Int32) (x : (MS × Int32) ⊕ (MS × Int32)), fX6_mayHold_b81 st x3 k1 k2 k3 = some x → (∀ s', x = .inl s' → (∀ (H : Heap) (locs : List Loc) (ls : Array Slot), IN (dC, dI) (WX6 a b cI cJ cZ s'.1) A s.heap H locs → lv_has ls 7 [(0, .ref (a 0)), (3, .int s'.2)] → W p l e (headSpec wsX6_mayHold rX6_mayHold).room s m args below meth c H locs 0 0 QQ (F0 m 37 ls []))) → (∀ r, x = .inr r → (∀ (H : Heap) (locs : List Loc) (ls : Array Slot), IN (dC, dI) (WX6 a b cI cJ cZ r.1) A s.heap H locs → lv_has ls 7 [(0, .ref (a 0)), (3, .int r.2)] → W p l e (headSpec wsX6_mayHold rX6_mayHold).room s m args below meth c H locs 0 0 QQ (F0 m 89 ls []))) → (∀ (H : Heap) (locs : List Loc) (ls : Array Slot), IN (dC, dI) (WX6 a b cI cJ cZ st) A s.heap H locs → lv_has ls 7 [(0, .ref (a 0)), (3, .int x3)] → W p l e (headSpec wsX6_mayHold rX6_mayHold).room s m args below meth c H locs 0 0 QQ (F0 m 81 ls [.int k3, .int k2, .int k1, .ref (a 19)])) := by
      intro st x3 k1 k2 k3 x hf kc ke
      intro H locs ls hin hl
      obtain ⟨hP, hD, hS⟩ := hin
      unfold fX6_mayHold_b81 at hf
      refine lv_ior hx hb dX6_mayHold_81 ?_
      obtain ⟨hi13, hf⟩ := it_s hf
      refine va_zast hx hb hK hP hD hS 19 2 rfl rfl (inb_in hi13) dX6_mayHold_82 (fun H locs hP hD hS => ?_)
      obtain ⟨s14, hs15, hf⟩ := bnd_e hf
      replace hP := putP_edge hs15 hP
      replace hD := putD_edge hs15 hD
      refine lv_iinc (v := (x3 + (1 : Int32))) (lv' := [(3, .int (x3 + (1 : Int32))), (0, .ref (a 0))]) hx hb dX6_mayHold_83 hl (k := 1) rfl rfl (by decide) rfl (fun ls hl => ?_)
      refine lv_goto (tgt := 37) hx hb dX6_mayHold_86 (by decide) ?_
      obtain rfl := Option.some.inj hf
      exact kc _ rfl H locs ls ⟨hP, hD, hS⟩ (lv_sub hl [1, 0] rfl)
    refine loop_ind (P := fun s0 => ∀ (H : Heap) (locs : List Loc) (ls : Array Slot), IN (dC, dI) (WX6 a b cI cJ cZ s0.1) A s.heap H locs → lv_has ls 7 [(0, .ref (a 0)), (3, .int s0.2)] → W p l e (headSpec wsX6_mayHold rX6_mayHold).room s m args below meth c H locs 0 0 QQ (F0 m 37 ls [])) (Q := fun r => ∀ (H : Heap) (locs : List Loc) (ls : Array Slot), IN (dC, dI) (WX6 a b cI cJ cZ r.1) A s.heap H locs → lv_has ls 7 [(0, .ref (a 0)), (3, .int r.2)] → W p l e (headSpec wsX6_mayHold rX6_mayHold).room s m args below meth c H locs 0 0 QQ (F0 m 89 ls [])) ?_ fu s0 r
    clear fu s0 r
    rintro ⟨st, x3⟩ x hf kc ke
    replace hf : fX6_mayHold_l37 st x3 = some x := hf
    replace kc : (∀ s', x = .inl s' → (∀ (H : Heap) (locs : List Loc) (ls : Array Slot), IN (dC, dI) (WX6 a b cI cJ cZ s'.1) A s.heap H locs → lv_has ls 7 [(0, .ref (a 0)), (3, .int s'.2)] → W p l e (headSpec wsX6_mayHold rX6_mayHold).room s m args below meth c H locs 0 0 QQ (F0 m 37 ls []))) := kc
    replace ke : (∀ r, x = .inr r → (∀ (H : Heap) (locs : List Loc) (ls : Array Slot), IN (dC, dI) (WX6 a b cI cJ cZ r.1) A s.heap H locs → lv_has ls 7 [(0, .ref (a 0)), (3, .int r.2)] → W p l e (headSpec wsX6_mayHold rX6_mayHold).room s m args below meth c H locs 0 0 QQ (F0 m 89 ls []))) := ke
    intro H locs ls hin hl
    obtain ⟨hP, hD, hS⟩ := hin
    unfold fX6_mayHold_l37 at hf
    refine lv_iload_n hx hb dX6_mayHold_37 rfl (lv_at hl 1 rfl) ?_
    refine lv_aload_n hx hb dX6_mayHold_38 rfl (lv_at hl 0 rfl) ?_
    refine va_get (D := (dC, dI)) (ci := 6) (v := .int (MS_holdings st)) (C := RX6) (T := TX6) (N := 26) hx hb hts kX6_mayHold_X6 hown hK hP 0 rfl rfl 2 (by decide) (hts _ mX6_mayHold_2) (fun _ h9 => h9) rfl dX6_mayHold_39 ?_
    refine lv_icmp_ge (tgt := 89) hx hb dX6_mayHold_42 (by decide) (fun c7 => ?_) (fun c7 => ?_)
    · replace hf := it_p c7 hf
      obtain rfl := Option.some.inj hf
      exact ke _ rfl H locs ls ⟨hP, hD, hS⟩ (lv_sub hl [0, 1] rfl)
    · replace hf := it_n c7 hf
      refine lv_aload_n hx hb dX6_mayHold_45 rfl (lv_at hl 0 rfl) ?_
      refine va_get (D := (dC, dI)) (ci := 6) (v := .ref (a 19)) (C := RX6) (T := TX6) (N := 26) hx hb hts kX6_mayHold_X6 hown hK hP 0 rfl rfl 24 (by decide) (hts _ mX6_mayHold_1) (fun _ h9 => h9) rfl dX6_mayHold_46 ?_
      refine lv_bipush (v := (10 : Int32)) hx hb dX6_mayHold_49 (by decide) ?_
      refine lv_aload_n hx hb dX6_mayHold_51 rfl (lv_at hl 0 rfl) ?_
      refine va_get (D := (dC, dI)) (ci := 6) (v := .ref (a 1)) (C := RX6) (T := TX6) (N := 26) hx hb hts kX6_mayHold_X6 hown hK hP 0 rfl rfl 3 (by decide) (hts _ mX6_mayHold_3) (fun _ h9 => h9) rfl dX6_mayHold_52 ?_
      refine lv_iload_n hx hb dX6_mayHold_55 rfl (lv_at hl 1 rfl) ?_
      obtain ⟨hi8, hf⟩ := it_s hf
      refine va_iald hx hb hK hP 1 0 rfl rfl (inb_in hi8) dX6_mayHold_56 ?_
      refine lv_imul hx hb dX6_mayHold_57 ?_
      refine lv_aload_n hx hb dX6_mayHold_58 rfl (lv_at hl 0 rfl) ?_
      refine va_get (D := (dC, dI)) (ci := 6) (v := .ref (a 2)) (C := RX6) (T := TX6) (N := 26) hx hb hts kX6_mayHold_X6 hown hK hP 0 rfl rfl 4 (by decide) (hts _ mX6_mayHold_4) (fun _ h9 => h9) rfl dX6_mayHold_59 ?_
      refine lv_iload_n hx hb dX6_mayHold_62 rfl (lv_at hl 1 rfl) ?_
      obtain ⟨hi9, hf⟩ := it_s hf
      refine va_iald hx hb hK hP 2 0 rfl rfl (inb_in hi9) dX6_mayHold_63 ?_
      refine lv_iadd hx hb dX6_mayHold_64 ?_
      refine lv_dup2_11 hx hb dX6_mayHold_65 rfl rfl ?_
      obtain ⟨hi10, hf⟩ := it_s hf
      refine va_zald hx hb hK hP 19 2 rfl rfl (inb_in hi10) dX6_mayHold_66 ?_
      refine lv_aload_n hx hb dX6_mayHold_67 rfl (lv_at hl 0 rfl) ?_
      refine va_get (D := (dC, dI)) (ci := 6) (v := .ref (a 3)) (C := RX6) (T := TX6) (N := 26) hx hb hts kX6_mayHold_X6 hown hK hP 0 rfl rfl 5 (by decide) (hts _ mX6_mayHold_5) (fun _ h9 => h9) rfl dX6_mayHold_68 ?_
      refine lv_iload_n hx hb dX6_mayHold_71 rfl (lv_at hl 1 rfl) ?_
      obtain ⟨hi11, hf⟩ := it_s hf
      refine va_iald hx hb hK hP 3 0 rfl rfl (inb_in hi11) dX6_mayHold_72 ?_
      refine lv_if_le (tgt := 80) hx hb dX6_mayHold_73 (by decide) (fun c12 => ?_) (fun c12 => ?_)
      · replace hf := it_p c12 hf
        refine lv_iconst (v := (0 : Int32)) hx hb dX6_mayHold_80 (by decide) ?_
        exact b81 st x3 (((10 : Int32) * ((MS_who st) (x3).toNatClampNeg)) + ((MS_whom st) (x3).toNatClampNeg)) ((MS_edge st) ((((10 : Int32) * ((MS_who st) (x3).toNatClampNeg)) + ((MS_whom st) (x3).toNatClampNeg))).toNatClampNeg) (0 : Int32) _ hf kc ke H locs ls ⟨hP, hD, hS⟩ (lv_sub hl [0, 1] rfl)
      · replace hf := it_n c12 hf
        refine lv_iconst (v := (1 : Int32)) hx hb dX6_mayHold_76 (by decide) ?_
        refine lv_goto (tgt := 81) hx hb dX6_mayHold_77 (by decide) ?_
        exact b81 st x3 (((10 : Int32) * ((MS_who st) (x3).toNatClampNeg)) + ((MS_whom st) (x3).toNatClampNeg)) ((MS_edge st) ((((10 : Int32) * ((MS_who st) (x3).toNatClampNeg)) + ((MS_whom st) (x3).toNatClampNeg))).toNatClampNeg) (1 : Int32) _ hf kc ke H locs ls ⟨hP, hD, hS⟩ (lv_sub hl [0, 1] rfl)
  have l94 : ∀ (fu : Nat) (s0 : MS × Int32 × Int32) (r : MS × Int32 × Int32), loopN (fun (s : MS × Int32 × Int32) => fX6_mayHold_l94 s.1 s.2.1 s.2.2) fu s0 = some r → (∀ (H : Heap) (locs : List Loc) (ls : Array Slot), IN (dC, dI) (WX6 a b cI cJ cZ r.1) A s.heap H locs → lv_has ls 7 [(0, .ref (a 0)), (3, .int r.2.1), (4, .int r.2.2)] → W p l e (headSpec wsX6_mayHold rX6_mayHold).room s m args below meth c H locs 0 0 QQ (F0 m 294 ls [])) → (∀ (H : Heap) (locs : List Loc) (ls : Array Slot), IN (dC, dI) (WX6 a b cI cJ cZ s0.1) A s.heap H locs → lv_has ls 7 [(0, .ref (a 0)), (3, .int s0.2.1), (4, .int s0.2.2)] → W p l e (headSpec wsX6_mayHold rX6_mayHold).room s m args below meth c H locs 0 0 QQ (F0 m 94 ls [])) := by
    intro fu s0 r
    have l103 : ∀ (x3 : Int32) (x4 : Int32) (fu : Nat) (s0 : MS × Int32) (r : MS × Int32), loopN (fun (s : MS × Int32) => fX6_mayHold_l103 x3 x4 s.1 s.2) fu s0 = some r → (∀ (H : Heap) (locs : List Loc) (ls : Array Slot), IN (dC, dI) (WX6 a b cI cJ cZ r.1) A s.heap H locs → lv_has ls 7 [(0, .ref (a 0)), (3, .int x3), (4, .int x4), (5, .int r.2)] → W p l e (headSpec wsX6_mayHold rX6_mayHold).room s m args below meth c H locs 0 0 QQ (F0 m 139 ls [])) → (∀ (H : Heap) (locs : List Loc) (ls : Array Slot), IN (dC, dI) (WX6 a b cI cJ cZ s0.1) A s.heap H locs → lv_has ls 7 [(0, .ref (a 0)), (3, .int x3), (4, .int x4), (5, .int s0.2)] → W p l e (headSpec wsX6_mayHold rX6_mayHold).room s m args below meth c H locs 0 0 QQ (F0 m 103 ls [])) := by
      intro x3 x4 fu s0 r
      have b132 : ∀ (st : MS) (x3 : Int32) (x4 : Int32) (x5 : Int32) (k1 : Int32) (k2 : Int32) (x : (MS × Int32) ⊕ (MS × Int32)), fX6_mayHold_b132 st x3 x4 x5 k1 k2 = some x → (∀ s', x = .inl s' → (∀ (H : Heap) (locs : List Loc) (ls : Array Slot), IN (dC, dI) (WX6 a b cI cJ cZ s'.1) A s.heap H locs → lv_has ls 7 [(0, .ref (a 0)), (3, .int x3), (4, .int x4), (5, .int s'.2)] → W p l e (headSpec wsX6_mayHold rX6_mayHold).room s m args below meth c H locs 0 0 QQ (F0 m 103 ls []))) → (∀ r, x = .inr r → (∀ (H : Heap) (locs : List Loc) (ls : Array Slot), IN (dC, dI) (WX6 a b cI cJ cZ r.1) A s.heap H locs → lv_has ls 7 [(0, .ref (a 0)), (3, .int x3), (4, .int x4), (5, .int r.2)] → W p l e (headSpec wsX6_mayHold rX6_mayHold).room s m args below meth c H locs 0 0 QQ (F0 m 139 ls []))) → (∀ (H : Heap) (locs : List Loc) (ls : Array Slot), IN (dC, dI) (WX6 a b cI cJ cZ st) A s.heap H locs → lv_has ls 7 [(0, .ref (a 0)), (3, .int x3), (4, .int x4), (5, .int x5)] → W p l e (headSpec wsX6_mayHold rX6_mayHold).room s m args below meth c H locs 0 0 QQ (F0 m 132 ls [.int k2, .int k1, .ref (a 20)])) := by
        intro st x3 x4 x5 k1 k2 x hf kc ke
        intro H locs ls hin hl
        obtain ⟨hP, hD, hS⟩ := hin
        unfold fX6_mayHold_b132 at hf
        obtain ⟨hi20, hf⟩ := it_s hf
        refine va_iast hx hb hK hP hD hS 20 0 rfl rfl (inb_in hi20) dX6_mayHold_132 (fun H locs hP hD hS => ?_)
        obtain ⟨s21, hs22, hf⟩ := bnd_e hf
        replace hP := putP_deep hs22 hP
        replace hD := putD_deep hs22 hD
        refine lv_iinc (v := (x5 + (1 : Int32))) (lv' := [(5, .int (x5 + (1 : Int32))), (0, .ref (a 0)), (3, .int x3), (4, .int x4)]) hx hb dX6_mayHold_133 hl (k := 3) rfl rfl (by decide) rfl (fun ls hl => ?_)
        refine lv_goto (tgt := 103) hx hb dX6_mayHold_136 (by decide) ?_
        obtain rfl := Option.some.inj hf
        exact kc _ rfl H locs ls ⟨hP, hD, hS⟩ (lv_sub hl [1, 2, 3, 0] rfl)
      have b126 : ∀ (st : MS) (x3 : Int32) (x4 : Int32) (x5 : Int32) (k1 : Int32) (x : (MS × Int32) ⊕ (MS × Int32)), fX6_mayHold_b126 st x3 x4 x5 k1 = some x → (∀ s', x = .inl s' → (∀ (H : Heap) (locs : List Loc) (ls : Array Slot), IN (dC, dI) (WX6 a b cI cJ cZ s'.1) A s.heap H locs → lv_has ls 7 [(0, .ref (a 0)), (3, .int x3), (4, .int x4), (5, .int s'.2)] → W p l e (headSpec wsX6_mayHold rX6_mayHold).room s m args below meth c H locs 0 0 QQ (F0 m 103 ls []))) → (∀ r, x = .inr r → (∀ (H : Heap) (locs : List Loc) (ls : Array Slot), IN (dC, dI) (WX6 a b cI cJ cZ r.1) A s.heap H locs → lv_has ls 7 [(0, .ref (a 0)), (3, .int x3), (4, .int x4), (5, .int r.2)] → W p l e (headSpec wsX6_mayHold rX6_mayHold).room s m args below meth c H locs 0 0 QQ (F0 m 139 ls []))) → (∀ (H : Heap) (locs : List Loc) (ls : Array Slot), IN (dC, dI) (WX6 a b cI cJ cZ st) A s.heap H locs → lv_has ls 7 [(0, .ref (a 0)), (3, .int x3), (4, .int x4), (5, .int x5)] → W p l e (headSpec wsX6_mayHold rX6_mayHold).room s m args below meth c H locs 0 0 QQ (F0 m 126 ls [.int k1, .ref (a 20)])) := by
        intro st x3 x4 x5 k1 x hf kc ke
        intro H locs ls hin hl
        obtain ⟨hP, hD, hS⟩ := hin
        unfold fX6_mayHold_b126 at hf
        refine lv_iconst (v := (0 : Int32)) hx hb dX6_mayHold_126 (by decide) ?_
        refine lv_goto (tgt := 132) hx hb dX6_mayHold_127 (by decide) ?_
        exact b132 st x3 x4 x5 k1 (0 : Int32) _ hf kc ke H locs ls ⟨hP, hD, hS⟩ (lv_sub hl [0, 1, 2, 3] rfl)
      refine loop_ind (P := fun s0 => ∀ (H : Heap) (locs : List Loc) (ls : Array Slot), IN (dC, dI) (WX6 a b cI cJ cZ s0.1) A s.heap H locs → lv_has ls 7 [(0, .ref (a 0)), (3, .int x3), (4, .int x4), (5, .int s0.2)] → W p l e (headSpec wsX6_mayHold rX6_mayHold).room s m args below meth c H locs 0 0 QQ (F0 m 103 ls [])) (Q := fun r => ∀ (H : Heap) (locs : List Loc) (ls : Array Slot), IN (dC, dI) (WX6 a b cI cJ cZ r.1) A s.heap H locs → lv_has ls 7 [(0, .ref (a 0)), (3, .int x3), (4, .int x4), (5, .int r.2)] → W p l e (headSpec wsX6_mayHold rX6_mayHold).room s m args below meth c H locs 0 0 QQ (F0 m 139 ls [])) ?_ fu s0 r
      clear fu s0 r
      rintro ⟨st, x5⟩ x hf kc ke
      replace hf : fX6_mayHold_l103 x3 x4 st x5 = some x := hf
      replace kc : (∀ s', x = .inl s' → (∀ (H : Heap) (locs : List Loc) (ls : Array Slot), IN (dC, dI) (WX6 a b cI cJ cZ s'.1) A s.heap H locs → lv_has ls 7 [(0, .ref (a 0)), (3, .int x3), (4, .int x4), (5, .int s'.2)] → W p l e (headSpec wsX6_mayHold rX6_mayHold).room s m args below meth c H locs 0 0 QQ (F0 m 103 ls []))) := kc
      replace ke : (∀ r, x = .inr r → (∀ (H : Heap) (locs : List Loc) (ls : Array Slot), IN (dC, dI) (WX6 a b cI cJ cZ r.1) A s.heap H locs → lv_has ls 7 [(0, .ref (a 0)), (3, .int x3), (4, .int x4), (5, .int r.2)] → W p l e (headSpec wsX6_mayHold rX6_mayHold).room s m args below meth c H locs 0 0 QQ (F0 m 139 ls []))) := ke
      intro H locs ls hin hl
      obtain ⟨hP, hD, hS⟩ := hin
      unfold fX6_mayHold_l103 at hf
      refine lv_iload hx hb dX6_mayHold_103 (lv_at hl 3 rfl) ?_
      refine lv_bipush (v := (10 : Int32)) hx hb dX6_mayHold_105 (by decide) ?_
      refine lv_icmp_ge (tgt := 139) hx hb dX6_mayHold_107 (by decide) (fun c18 => ?_) (fun c18 => ?_)
      · replace hf := it_p c18 hf
        obtain rfl := Option.some.inj hf
        exact ke _ rfl H locs ls ⟨hP, hD, hS⟩ (lv_sub hl [0, 1, 2, 3] rfl)
      · replace hf := it_n c18 hf
        refine lv_aload_n hx hb dX6_mayHold_110 rfl (lv_at hl 0 rfl) ?_
        refine va_get (D := (dC, dI)) (ci := 6) (v := .ref (a 20)) (C := RX6) (T := TX6) (N := 26) hx hb hts kX6_mayHold_X6 hown hK hP 0 rfl rfl 25 (by decide) (hts _ mX6_mayHold_6) (fun _ h9 => h9) rfl dX6_mayHold_111 ?_
        refine lv_iload hx hb dX6_mayHold_114 (lv_at hl 3 rfl) ?_
        refine lv_iload hx hb dX6_mayHold_116 (lv_at hl 2 rfl) ?_
        refine lv_if_eq (tgt := 126) hx hb dX6_mayHold_118 (by decide) (fun c19 => ?_) (fun c19 => ?_)
        · replace hf := it_p c19 hf
          exact b126 st x3 x4 x5 x5 _ hf kc ke H locs ls ⟨hP, hD, hS⟩ (lv_sub hl [0, 1, 2, 3] rfl)
        · replace hf := it_n c19 hf
          refine lv_iload hx hb dX6_mayHold_121 (lv_at hl 3 rfl) ?_
          refine lv_if_ne (tgt := 130) hx hb dX6_mayHold_123 (by decide) (fun c23 => ?_) (fun c23 => ?_)
          · replace hf := it_n c23 hf
            refine lv_bipush (v := (-9 : Int32)) hx hb dX6_mayHold_130 (by decide) ?_
            exact b132 st x3 x4 x5 x5 (-9 : Int32) _ hf kc ke H locs ls ⟨hP, hD, hS⟩ (lv_sub hl [0, 1, 2, 3] rfl)
          · replace hf := it_p c23 hf
            exact b126 st x3 x4 x5 x5 _ hf kc ke H locs ls ⟨hP, hD, hS⟩ (lv_sub hl [0, 1, 2, 3] rfl)
    have l142 : ∀ (x3 : Int32) (x4 : Int32) (fu : Nat) (s0 : MS × Int32) (r : MS × Int32), loopN (fun (s : MS × Int32) => fX6_mayHold_l142 x3 x4 s.1 s.2) fu s0 = some r → (∀ (H : Heap) (locs : List Loc) (ls : Array Slot), IN (dC, dI) (WX6 a b cI cJ cZ r.1) A s.heap H locs → lv_has ls 7 [(0, .ref (a 0)), (3, .int x3), (4, .int x4), (5, .int r.2)] → W p l e (headSpec wsX6_mayHold rX6_mayHold).room s m args below meth c H locs 0 0 QQ (F0 m 241 ls [])) → (∀ (H : Heap) (locs : List Loc) (ls : Array Slot), IN (dC, dI) (WX6 a b cI cJ cZ s0.1) A s.heap H locs → lv_has ls 7 [(0, .ref (a 0)), (3, .int x3), (4, .int x4), (5, .int s0.2)] → W p l e (headSpec wsX6_mayHold rX6_mayHold).room s m args below meth c H locs 0 0 QQ (F0 m 142 ls [])) := by
      intro x3 x4 fu s0 r
      have l152 : ∀ (x3 : Int32) (x4 : Int32) (x5 : Int32) (fu : Nat) (s0 : MS × Int32) (r : MS × Int32), loopN (fun (s : MS × Int32) => fX6_mayHold_l152 x3 x4 x5 s.1 s.2) fu s0 = some r → (∀ (H : Heap) (locs : List Loc) (ls : Array Slot), IN (dC, dI) (WX6 a b cI cJ cZ r.1) A s.heap H locs → lv_has ls 7 [(0, .ref (a 0)), (3, .int x3), (4, .int x4), (5, .int x5), (6, .int r.2)] → W p l e (headSpec wsX6_mayHold rX6_mayHold).room s m args below meth c H locs 0 0 QQ (F0 m 235 ls [])) → (∀ (H : Heap) (locs : List Loc) (ls : Array Slot), IN (dC, dI) (WX6 a b cI cJ cZ s0.1) A s.heap H locs → lv_has ls 7 [(0, .ref (a 0)), (3, .int x3), (4, .int x4), (5, .int x5), (6, .int s0.2)] → W p l e (headSpec wsX6_mayHold rX6_mayHold).room s m args below meth c H locs 0 0 QQ (F0 m 152 ls [])) := by
        intro x3 x4 x5 fu s0 r
        have b229 : ∀ (st : MS) (x3 : Int32) (x4 : Int32) (x5 : Int32) (x6 : Int32) (x : (MS × Int32) ⊕ (MS × Int32)), fX6_mayHold_b229 st x3 x4 x5 x6 = some x → (∀ s', x = .inl s' → (∀ (H : Heap) (locs : List Loc) (ls : Array Slot), IN (dC, dI) (WX6 a b cI cJ cZ s'.1) A s.heap H locs → lv_has ls 7 [(0, .ref (a 0)), (3, .int x3), (4, .int x4), (5, .int x5), (6, .int s'.2)] → W p l e (headSpec wsX6_mayHold rX6_mayHold).room s m args below meth c H locs 0 0 QQ (F0 m 152 ls []))) → (∀ r, x = .inr r → (∀ (H : Heap) (locs : List Loc) (ls : Array Slot), IN (dC, dI) (WX6 a b cI cJ cZ r.1) A s.heap H locs → lv_has ls 7 [(0, .ref (a 0)), (3, .int x3), (4, .int x4), (5, .int x5), (6, .int r.2)] → W p l e (headSpec wsX6_mayHold rX6_mayHold).room s m args below meth c H locs 0 0 QQ (F0 m 235 ls []))) → (∀ (H : Heap) (locs : List Loc) (ls : Array Slot), IN (dC, dI) (WX6 a b cI cJ cZ st) A s.heap H locs → lv_has ls 7 [(0, .ref (a 0)), (3, .int x3), (4, .int x4), (5, .int x5), (6, .int x6)] → W p l e (headSpec wsX6_mayHold rX6_mayHold).room s m args below meth c H locs 0 0 QQ (F0 m 229 ls [])) := by
          intro st x3 x4 x5 x6 x hf kc ke
          intro H locs ls hin hl
          obtain ⟨hP, hD, hS⟩ := hin
          unfold fX6_mayHold_b229 at hf
          refine lv_iinc (v := (x6 + (1 : Int32))) (lv' := [(6, .int (x6 + (1 : Int32))), (0, .ref (a 0)), (3, .int x3), (4, .int x4), (5, .int x5)]) hx hb dX6_mayHold_229 hl (k := 4) rfl rfl (by decide) rfl (fun ls hl => ?_)
          refine lv_goto (tgt := 152) hx hb dX6_mayHold_232 (by decide) ?_
          obtain rfl := Option.some.inj hf
          exact kc _ rfl H locs ls ⟨hP, hD, hS⟩ (lv_sub hl [1, 2, 3, 4, 0] rfl)
        refine loop_ind (P := fun s0 => ∀ (H : Heap) (locs : List Loc) (ls : Array Slot), IN (dC, dI) (WX6 a b cI cJ cZ s0.1) A s.heap H locs → lv_has ls 7 [(0, .ref (a 0)), (3, .int x3), (4, .int x4), (5, .int x5), (6, .int s0.2)] → W p l e (headSpec wsX6_mayHold rX6_mayHold).room s m args below meth c H locs 0 0 QQ (F0 m 152 ls [])) (Q := fun r => ∀ (H : Heap) (locs : List Loc) (ls : Array Slot), IN (dC, dI) (WX6 a b cI cJ cZ r.1) A s.heap H locs → lv_has ls 7 [(0, .ref (a 0)), (3, .int x3), (4, .int x4), (5, .int x5), (6, .int r.2)] → W p l e (headSpec wsX6_mayHold rX6_mayHold).room s m args below meth c H locs 0 0 QQ (F0 m 235 ls [])) ?_ fu s0 r
        clear fu s0 r
        rintro ⟨st, x6⟩ x hf kc ke
        replace hf : fX6_mayHold_l152 x3 x4 x5 st x6 = some x := hf
        replace kc : (∀ s', x = .inl s' → (∀ (H : Heap) (locs : List Loc) (ls : Array Slot), IN (dC, dI) (WX6 a b cI cJ cZ s'.1) A s.heap H locs → lv_has ls 7 [(0, .ref (a 0)), (3, .int x3), (4, .int x4), (5, .int x5), (6, .int s'.2)] → W p l e (headSpec wsX6_mayHold rX6_mayHold).room s m args below meth c H locs 0 0 QQ (F0 m 152 ls []))) := kc
        replace ke : (∀ r, x = .inr r → (∀ (H : Heap) (locs : List Loc) (ls : Array Slot), IN (dC, dI) (WX6 a b cI cJ cZ r.1) A s.heap H locs → lv_has ls 7 [(0, .ref (a 0)), (3, .int x3), (4, .int x4), (5, .int x5), (6, .int r.2)] → W p l e (headSpec wsX6_mayHold rX6_mayHold).room s m args below meth c H locs 0 0 QQ (F0 m 235 ls []))) := ke
        intro H locs ls hin hl
        obtain ⟨hP, hD, hS⟩ := hin
        unfold fX6_mayHold_l152 at hf
        refine lv_iload hx hb dX6_mayHold_152 (lv_at hl 4 rfl) ?_
        refine lv_bipush (v := (100 : Int32)) hx hb dX6_mayHold_154 (by decide) ?_
        refine lv_icmp_ge (tgt := 235) hx hb dX6_mayHold_156 (by decide) (fun c26 => ?_) (fun c26 => ?_)
        · replace hf := it_p c26 hf
          obtain rfl := Option.some.inj hf
          exact ke _ rfl H locs ls ⟨hP, hD, hS⟩ (lv_sub hl [0, 1, 2, 3, 4] rfl)
        · replace hf := it_n c26 hf
          refine lv_aload_n hx hb dX6_mayHold_159 rfl (lv_at hl 0 rfl) ?_
          refine va_get (D := (dC, dI)) (ci := 6) (v := .ref (a 19)) (C := RX6) (T := TX6) (N := 26) hx hb hts kX6_mayHold_X6 hown hK hP 0 rfl rfl 24 (by decide) (hts _ mX6_mayHold_1) (fun _ h9 => h9) rfl dX6_mayHold_160 ?_
          refine lv_iload hx hb dX6_mayHold_163 (lv_at hl 4 rfl) ?_
          obtain ⟨hi27, hf⟩ := it_s hf
          refine va_zald hx hb hK hP 19 2 rfl rfl (inb_in hi27) dX6_mayHold_165 ?_
          refine lv_if_eq (tgt := 229) hx hb dX6_mayHold_166 (by decide) (fun c28 => ?_) (fun c28 => ?_)
          · replace hf := it_p c28 hf
            exact b229 st x3 x4 x5 x6 _ hf kc ke H locs ls ⟨hP, hD, hS⟩ (lv_sub hl [0, 1, 2, 3, 4] rfl)
          · replace hf := it_n c28 hf
            refine lv_aload_n hx hb dX6_mayHold_169 rfl (lv_at hl 0 rfl) ?_
            refine va_get (D := (dC, dI)) (ci := 6) (v := .ref (a 20)) (C := RX6) (T := TX6) (N := 26) hx hb hts kX6_mayHold_X6 hown hK hP 0 rfl rfl 25 (by decide) (hts _ mX6_mayHold_6) (fun _ h9 => h9) rfl dX6_mayHold_170 ?_
            refine lv_iload hx hb dX6_mayHold_173 (lv_at hl 4 rfl) ?_
            refine lv_bipush (v := (10 : Int32)) hx hb dX6_mayHold_175 (by decide) ?_
            refine lv_idiv hx hb dX6_mayHold_177 (by decide) ?_
            obtain ⟨hi29, hf⟩ := it_s hf
            refine va_iald hx hb hK hP 20 0 rfl rfl (inb_in hi29) dX6_mayHold_178 ?_
            refine lv_if_lt (tgt := 229) hx hb dX6_mayHold_179 (by decide) (fun c30 => ?_) (fun c30 => ?_)
            · replace hf := it_p c30 hf
              exact b229 st x3 x4 x5 x6 _ hf kc ke H locs ls ⟨hP, hD, hS⟩ (lv_sub hl [0, 1, 2, 3, 4] rfl)
            · replace hf := it_n c30 hf
              refine lv_aload_n hx hb dX6_mayHold_182 rfl (lv_at hl 0 rfl) ?_
              refine va_get (D := (dC, dI)) (ci := 6) (v := .ref (a 20)) (C := RX6) (T := TX6) (N := 26) hx hb hts kX6_mayHold_X6 hown hK hP 0 rfl rfl 25 (by decide) (hts _ mX6_mayHold_6) (fun _ h9 => h9) rfl dX6_mayHold_183 ?_
              refine lv_iload hx hb dX6_mayHold_186 (lv_at hl 4 rfl) ?_
              refine lv_bipush (v := (10 : Int32)) hx hb dX6_mayHold_188 (by decide) ?_
              refine lv_irem hx hb dX6_mayHold_190 (by decide) ?_
              obtain ⟨hi31, hf⟩ := it_s hf
              refine va_iald hx hb hK hP 20 0 rfl rfl (inb_in hi31) dX6_mayHold_191 ?_
              refine lv_aload_n hx hb dX6_mayHold_192 rfl (lv_at hl 0 rfl) ?_
              refine va_get (D := (dC, dI)) (ci := 6) (v := .ref (a 20)) (C := RX6) (T := TX6) (N := 26) hx hb hts kX6_mayHold_X6 hown hK hP 0 rfl rfl 25 (by decide) (hts _ mX6_mayHold_6) (fun _ h9 => h9) rfl dX6_mayHold_193 ?_
              refine lv_iload hx hb dX6_mayHold_196 (lv_at hl 4 rfl) ?_
              refine lv_bipush (v := (10 : Int32)) hx hb dX6_mayHold_198 (by decide) ?_
              refine lv_idiv hx hb dX6_mayHold_200 (by decide) ?_
              obtain ⟨hi32, hf⟩ := it_s hf
              refine va_iald hx hb hK hP 20 0 rfl rfl (inb_in hi32) dX6_mayHold_201 ?_
              refine lv_iconst (v := (1 : Int32)) hx hb dX6_mayHold_202 (by decide) ?_
              refine lv_iadd hx hb dX6_mayHold_203 ?_
              refine lv_icmp_ge (tgt := 229) hx hb dX6_mayHold_204 (by decide) (fun c33 => ?_) (fun c33 => ?_)
              · replace hf := it_p c33 hf
                exact b229 st x3 x4 x5 x6 _ hf kc ke H locs ls ⟨hP, hD, hS⟩ (lv_sub hl [0, 1, 2, 3, 4] rfl)
              · replace hf := it_n c33 hf
                refine lv_aload_n hx hb dX6_mayHold_207 rfl (lv_at hl 0 rfl) ?_
                refine va_get (D := (dC, dI)) (ci := 6) (v := .ref (a 20)) (C := RX6) (T := TX6) (N := 26) hx hb hts kX6_mayHold_X6 hown hK hP 0 rfl rfl 25 (by decide) (hts _ mX6_mayHold_6) (fun _ h9 => h9) rfl dX6_mayHold_208 ?_
                refine lv_iload hx hb dX6_mayHold_211 (lv_at hl 4 rfl) ?_
                refine lv_bipush (v := (10 : Int32)) hx hb dX6_mayHold_213 (by decide) ?_
                refine lv_irem hx hb dX6_mayHold_215 (by decide) ?_
                refine lv_aload_n hx hb dX6_mayHold_216 rfl (lv_at hl 0 rfl) ?_
                refine va_get (D := (dC, dI)) (ci := 6) (v := .ref (a 20)) (C := RX6) (T := TX6) (N := 26) hx hb hts kX6_mayHold_X6 hown hK hP 0 rfl rfl 25 (by decide) (hts _ mX6_mayHold_6) (fun _ h9 => h9) rfl dX6_mayHold_217 ?_
                refine lv_iload hx hb dX6_mayHold_220 (lv_at hl 4 rfl) ?_
                refine lv_bipush (v := (10 : Int32)) hx hb dX6_mayHold_222 (by decide) ?_
                refine lv_idiv hx hb dX6_mayHold_224 (by decide) ?_
                obtain ⟨hi34, hf⟩ := it_s hf
                refine va_iald hx hb hK hP 20 0 rfl rfl (inb_in hi34) dX6_mayHold_225 ?_
                refine lv_iconst (v := (1 : Int32)) hx hb dX6_mayHold_226 (by decide) ?_
                refine lv_iadd hx hb dX6_mayHold_227 ?_
                obtain ⟨hi35, hf⟩ := it_s hf
                refine va_iast hx hb hK hP hD hS 20 0 rfl rfl (inb_in hi35) dX6_mayHold_228 (fun H locs hP hD hS => ?_)
                obtain ⟨s36, hs37, hf⟩ := bnd_e hf
                replace hP := putP_deep hs37 hP
                replace hD := putD_deep hs37 hD
                exact b229 s36 x3 x4 x5 x6 _ hf kc ke H locs ls ⟨hP, hD, hS⟩ (lv_sub hl [0, 1, 2, 3, 4] rfl)
      refine loop_ind (P := fun s0 => ∀ (H : Heap) (locs : List Loc) (ls : Array Slot), IN (dC, dI) (WX6 a b cI cJ cZ s0.1) A s.heap H locs → lv_has ls 7 [(0, .ref (a 0)), (3, .int x3), (4, .int x4), (5, .int s0.2)] → W p l e (headSpec wsX6_mayHold rX6_mayHold).room s m args below meth c H locs 0 0 QQ (F0 m 142 ls [])) (Q := fun r => ∀ (H : Heap) (locs : List Loc) (ls : Array Slot), IN (dC, dI) (WX6 a b cI cJ cZ r.1) A s.heap H locs → lv_has ls 7 [(0, .ref (a 0)), (3, .int x3), (4, .int x4), (5, .int r.2)] → W p l e (headSpec wsX6_mayHold rX6_mayHold).room s m args below meth c H locs 0 0 QQ (F0 m 241 ls [])) ?_ fu s0 r
      clear fu s0 r
      rintro ⟨st, x5⟩ x hf kc ke
      replace hf : fX6_mayHold_l142 x3 x4 st x5 = some x := hf
      replace kc : (∀ s', x = .inl s' → (∀ (H : Heap) (locs : List Loc) (ls : Array Slot), IN (dC, dI) (WX6 a b cI cJ cZ s'.1) A s.heap H locs → lv_has ls 7 [(0, .ref (a 0)), (3, .int x3), (4, .int x4), (5, .int s'.2)] → W p l e (headSpec wsX6_mayHold rX6_mayHold).room s m args below meth c H locs 0 0 QQ (F0 m 142 ls []))) := kc
      replace ke : (∀ r, x = .inr r → (∀ (H : Heap) (locs : List Loc) (ls : Array Slot), IN (dC, dI) (WX6 a b cI cJ cZ r.1) A s.heap H locs → lv_has ls 7 [(0, .ref (a 0)), (3, .int x3), (4, .int x4), (5, .int r.2)] → W p l e (headSpec wsX6_mayHold rX6_mayHold).room s m args below meth c H locs 0 0 QQ (F0 m 241 ls []))) := ke
      intro H locs ls hin hl
      obtain ⟨hP, hD, hS⟩ := hin
      unfold fX6_mayHold_l142 at hf
      refine lv_iload hx hb dX6_mayHold_142 (lv_at hl 3 rfl) ?_
      refine lv_bipush (v := (11 : Int32)) hx hb dX6_mayHold_144 (by decide) ?_
      refine lv_icmp_ge (tgt := 241) hx hb dX6_mayHold_146 (by decide) (fun c25 => ?_) (fun c25 => ?_)
      · replace hf := it_p c25 hf
        obtain rfl := Option.some.inj hf
        exact ke _ rfl H locs ls ⟨hP, hD, hS⟩ (lv_sub hl [0, 1, 2, 3] rfl)
      · replace hf := it_n c25 hf
        refine lv_iconst (v := (0 : Int32)) hx hb dX6_mayHold_149 (by decide) ?_
        refine lv_istore (lv' := [(6, .int (0 : Int32)), (0, .ref (a 0)), (3, .int x3), (4, .int x4), (5, .int x5)]) hx hb dX6_mayHold_150 hl (by decide) rfl (fun ls hl => ?_)
        obtain ⟨y38, hlp, hf⟩ := bind_s hf
        refine l152 x3 x4 x5 fuelN (st, (0 : Int32)) y38 hlp ?_ H locs ls ⟨hP, hD, hS⟩ (lv_sub hl [1, 2, 3, 4, 0] rfl)
        intro H locs ls hin hl
        obtain ⟨hP, hD, hS⟩ := hin
        refine lv_iinc (v := (x5 + (1 : Int32))) (lv' := [(5, .int (x5 + (1 : Int32))), (0, .ref (a 0)), (3, .int x3), (4, .int x4), (6, .int y38.2)]) hx hb dX6_mayHold_235 hl (k := 3) rfl rfl (by decide) rfl (fun ls hl => ?_)
        refine lv_goto (tgt := 142) hx hb dX6_mayHold_238 (by decide) ?_
        obtain rfl := Option.some.inj hf
        exact kc _ rfl H locs ls ⟨hP, hD, hS⟩ (lv_sub hl [1, 2, 3, 0] rfl)
    have l244 : ∀ (st : MS) (x4 : Int32) (fu : Nat) (s0 : Int32 × Int32) (r : Int32 × Int32), loopN (fun (s : Int32 × Int32) => fX6_mayHold_l244 st x4 s.1 s.2) fu s0 = some r → (∀ (H : Heap) (locs : List Loc) (ls : Array Slot), IN (dC, dI) (WX6 a b cI cJ cZ st) A s.heap H locs → lv_has ls 7 [(0, .ref (a 0)), (3, .int r.1), (4, .int x4), (5, .int r.2)] → W p l e (headSpec wsX6_mayHold rX6_mayHold).room s m args below meth c H locs 0 0 QQ (F0 m 288 ls [])) → (∀ (H : Heap) (locs : List Loc) (ls : Array Slot), IN (dC, dI) (WX6 a b cI cJ cZ st) A s.heap H locs → lv_has ls 7 [(0, .ref (a 0)), (3, .int s0.1), (4, .int x4), (5, .int s0.2)] → W p l e (headSpec wsX6_mayHold rX6_mayHold).room s m args below meth c H locs 0 0 QQ (F0 m 244 ls [])) := by
      intro st x4 fu s0 r
      have b281 : ∀ (st : MS) (x4 : Int32) (x5 : Int32) (k0 : Int32) (x : (Int32 × Int32) ⊕ (Int32 × Int32)), fX6_mayHold_b281 st x4 x5 k0 = some x → (∀ s', x = .inl s' → (∀ (H : Heap) (locs : List Loc) (ls : Array Slot), IN (dC, dI) (WX6 a b cI cJ cZ st) A s.heap H locs → lv_has ls 7 [(0, .ref (a 0)), (3, .int s'.1), (4, .int x4), (5, .int s'.2)] → W p l e (headSpec wsX6_mayHold rX6_mayHold).room s m args below meth c H locs 0 0 QQ (F0 m 244 ls []))) → (∀ r, x = .inr r → (∀ (H : Heap) (locs : List Loc) (ls : Array Slot), IN (dC, dI) (WX6 a b cI cJ cZ st) A s.heap H locs → lv_has ls 7 [(0, .ref (a 0)), (3, .int r.1), (4, .int x4), (5, .int r.2)] → W p l e (headSpec wsX6_mayHold rX6_mayHold).room s m args below meth c H locs 0 0 QQ (F0 m 288 ls []))) → (∀ (H : Heap) (locs : List Loc) (ls : Array Slot), IN (dC, dI) (WX6 a b cI cJ cZ st) A s.heap H locs → lv_has ls 7 [(0, .ref (a 0)), (4, .int x4), (5, .int x5)] → W p l e (headSpec wsX6_mayHold rX6_mayHold).room s m args below meth c H locs 0 0 QQ (F0 m 281 ls [.int k0])) := by
        intro st x4 x5 k0 x hf kc ke
        intro H locs ls hin hl
        obtain ⟨hP, hD, hS⟩ := hin
        unfold fX6_mayHold_b281 at hf
        refine lv_istore_n (lv' := [(3, .int k0), (0, .ref (a 0)), (4, .int x4), (5, .int x5)]) hx hb dX6_mayHold_281 rfl hl (by decide) rfl (fun ls hl => ?_)
        refine lv_iinc (v := (x5 + (1 : Int32))) (lv' := [(5, .int (x5 + (1 : Int32))), (3, .int k0), (0, .ref (a 0)), (4, .int x4)]) hx hb dX6_mayHold_282 hl (k := 3) rfl rfl (by decide) rfl (fun ls hl => ?_)
        refine lv_goto (tgt := 244) hx hb dX6_mayHold_285 (by decide) ?_
        obtain rfl := Option.some.inj hf
        exact kc _ rfl H locs ls ⟨hP, hD, hS⟩ (lv_sub hl [2, 1, 3, 0] rfl)
      have b280 : ∀ (st : MS) (x4 : Int32) (x5 : Int32) (x : (Int32 × Int32) ⊕ (Int32 × Int32)), fX6_mayHold_b280 st x4 x5 = some x → (∀ s', x = .inl s' → (∀ (H : Heap) (locs : List Loc) (ls : Array Slot), IN (dC, dI) (WX6 a b cI cJ cZ st) A s.heap H locs → lv_has ls 7 [(0, .ref (a 0)), (3, .int s'.1), (4, .int x4), (5, .int s'.2)] → W p l e (headSpec wsX6_mayHold rX6_mayHold).room s m args below meth c H locs 0 0 QQ (F0 m 244 ls []))) → (∀ r, x = .inr r → (∀ (H : Heap) (locs : List Loc) (ls : Array Slot), IN (dC, dI) (WX6 a b cI cJ cZ st) A s.heap H locs → lv_has ls 7 [(0, .ref (a 0)), (3, .int r.1), (4, .int x4), (5, .int r.2)] → W p l e (headSpec wsX6_mayHold rX6_mayHold).room s m args below meth c H locs 0 0 QQ (F0 m 288 ls []))) → (∀ (H : Heap) (locs : List Loc) (ls : Array Slot), IN (dC, dI) (WX6 a b cI cJ cZ st) A s.heap H locs → lv_has ls 7 [(0, .ref (a 0)), (4, .int x4), (5, .int x5)] → W p l e (headSpec wsX6_mayHold rX6_mayHold).room s m args below meth c H locs 0 0 QQ (F0 m 280 ls [])) := by
        intro st x4 x5 x hf kc ke
        intro H locs ls hin hl
        obtain ⟨hP, hD, hS⟩ := hin
        unfold fX6_mayHold_b280 at hf
        refine lv_iconst (v := (0 : Int32)) hx hb dX6_mayHold_280 (by decide) ?_
        exact b281 st x4 x5 (0 : Int32) _ hf kc ke H locs ls ⟨hP, hD, hS⟩ (lv_sub hl [0, 1, 2] rfl)
      have b273 : ∀ (st : MS) (x4 : Int32) (x5 : Int32) (k0 : Int32) (k1 : Int32) (x : (Int32 × Int32) ⊕ (Int32 × Int32)), fX6_mayHold_b273 st x4 x5 k0 k1 = some x → (∀ s', x = .inl s' → (∀ (H : Heap) (locs : List Loc) (ls : Array Slot), IN (dC, dI) (WX6 a b cI cJ cZ st) A s.heap H locs → lv_has ls 7 [(0, .ref (a 0)), (3, .int s'.1), (4, .int x4), (5, .int s'.2)] → W p l e (headSpec wsX6_mayHold rX6_mayHold).room s m args below meth c H locs 0 0 QQ (F0 m 244 ls []))) → (∀ r, x = .inr r → (∀ (H : Heap) (locs : List Loc) (ls : Array Slot), IN (dC, dI) (WX6 a b cI cJ cZ st) A s.heap H locs → lv_has ls 7 [(0, .ref (a 0)), (3, .int r.1), (4, .int x4), (5, .int r.2)] → W p l e (headSpec wsX6_mayHold rX6_mayHold).room s m args below meth c H locs 0 0 QQ (F0 m 288 ls []))) → (∀ (H : Heap) (locs : List Loc) (ls : Array Slot), IN (dC, dI) (WX6 a b cI cJ cZ st) A s.heap H locs → lv_has ls 7 [(0, .ref (a 0)), (4, .int x4), (5, .int x5)] → W p l e (headSpec wsX6_mayHold rX6_mayHold).room s m args below meth c H locs 0 0 QQ (F0 m 273 ls [.int k1, .int k0])) := by
        intro st x4 x5 k0 k1 x hf kc ke
        intro H locs ls hin hl
        obtain ⟨hP, hD, hS⟩ := hin
        unfold fX6_mayHold_b273 at hf
        refine lv_icmp_gt (tgt := 280) hx hb dX6_mayHold_273 (by decide) (fun c44 => ?_) (fun c44 => ?_)
        · replace hf := it_p c44 hf
          exact b280 st x4 x5 _ hf kc ke H locs ls ⟨hP, hD, hS⟩ (lv_sub hl [0, 1, 2] rfl)
        · replace hf := it_n c44 hf
          refine lv_iconst (v := (1 : Int32)) hx hb dX6_mayHold_276 (by decide) ?_
          refine lv_goto (tgt := 281) hx hb dX6_mayHold_277 (by decide) ?_
          exact b281 st x4 x5 (1 : Int32) _ hf kc ke H locs ls ⟨hP, hD, hS⟩ (lv_sub hl [0, 1, 2] rfl)
      refine loop_ind (P := fun s0 => ∀ (H : Heap) (locs : List Loc) (ls : Array Slot), IN (dC, dI) (WX6 a b cI cJ cZ st) A s.heap H locs → lv_has ls 7 [(0, .ref (a 0)), (3, .int s0.1), (4, .int x4), (5, .int s0.2)] → W p l e (headSpec wsX6_mayHold rX6_mayHold).room s m args below meth c H locs 0 0 QQ (F0 m 244 ls [])) (Q := fun r => ∀ (H : Heap) (locs : List Loc) (ls : Array Slot), IN (dC, dI) (WX6 a b cI cJ cZ st) A s.heap H locs → lv_has ls 7 [(0, .ref (a 0)), (3, .int r.1), (4, .int x4), (5, .int r.2)] → W p l e (headSpec wsX6_mayHold rX6_mayHold).room s m args below meth c H locs 0 0 QQ (F0 m 288 ls [])) ?_ fu s0 r
      clear fu s0 r
      rintro ⟨x3, x5⟩ x hf kc ke
      replace hf : fX6_mayHold_l244 st x4 x3 x5 = some x := hf
      replace kc : (∀ s', x = .inl s' → (∀ (H : Heap) (locs : List Loc) (ls : Array Slot), IN (dC, dI) (WX6 a b cI cJ cZ st) A s.heap H locs → lv_has ls 7 [(0, .ref (a 0)), (3, .int s'.1), (4, .int x4), (5, .int s'.2)] → W p l e (headSpec wsX6_mayHold rX6_mayHold).room s m args below meth c H locs 0 0 QQ (F0 m 244 ls []))) := kc
      replace ke : (∀ r, x = .inr r → (∀ (H : Heap) (locs : List Loc) (ls : Array Slot), IN (dC, dI) (WX6 a b cI cJ cZ st) A s.heap H locs → lv_has ls 7 [(0, .ref (a 0)), (3, .int r.1), (4, .int x4), (5, .int r.2)] → W p l e (headSpec wsX6_mayHold rX6_mayHold).room s m args below meth c H locs 0 0 QQ (F0 m 288 ls []))) := ke
      intro H locs ls hin hl
      obtain ⟨hP, hD, hS⟩ := hin
      unfold fX6_mayHold_l244 at hf
      refine lv_iload hx hb dX6_mayHold_244 (lv_at hl 3 rfl) ?_
      refine lv_bipush (v := (10 : Int32)) hx hb dX6_mayHold_246 (by decide) ?_
      refine lv_icmp_ge (tgt := 288) hx hb dX6_mayHold_248 (by decide) (fun c40 => ?_) (fun c40 => ?_)
      · replace hf := it_p c40 hf
        obtain rfl := Option.some.inj hf
        exact ke _ rfl H locs ls ⟨hP, hD, hS⟩ (lv_sub hl [0, 1, 2, 3] rfl)
      · replace hf := it_n c40 hf
        refine lv_iload_n hx hb dX6_mayHold_251 rfl (lv_at hl 1 rfl) ?_
        refine lv_if_eq (tgt := 280) hx hb dX6_mayHold_252 (by decide) (fun c41 => ?_) (fun c41 => ?_)
        · replace hf := it_p c41 hf
          exact b280 st x4 x5 _ hf kc ke H locs ls ⟨hP, hD, hS⟩ (lv_sub hl [0, 2, 3] rfl)
        · replace hf := it_n c41 hf
          refine lv_aload_n hx hb dX6_mayHold_255 rfl (lv_at hl 0 rfl) ?_
          refine va_get (D := (dC, dI)) (ci := 6) (v := .ref (a 20)) (C := RX6) (T := TX6) (N := 26) hx hb hts kX6_mayHold_X6 hown hK hP 0 rfl rfl 25 (by decide) (hts _ mX6_mayHold_6) (fun _ h9 => h9) rfl dX6_mayHold_256 ?_
          refine lv_iload hx hb dX6_mayHold_259 (lv_at hl 3 rfl) ?_
          obtain ⟨hi42, hf⟩ := it_s hf
          refine va_iald hx hb hK hP 20 0 rfl rfl (inb_in hi42) dX6_mayHold_261 ?_
          refine lv_iload hx hb dX6_mayHold_262 (lv_at hl 2 rfl) ?_
          refine lv_if_ne (tgt := 272) hx hb dX6_mayHold_264 (by decide) (fun c43 => ?_) (fun c43 => ?_)
          · replace hf := it_n c43 hf
            refine lv_iconst (v := (3 : Int32)) hx hb dX6_mayHold_272 (by decide) ?_
            exact b273 st x4 x5 ((MS_deep st) (x5).toNatClampNeg) (3 : Int32) _ hf kc ke H locs ls ⟨hP, hD, hS⟩ (lv_sub hl [0, 2, 3] rfl)
          · replace hf := it_p c43 hf
            refine lv_bipush (v := (9 : Int32)) hx hb dX6_mayHold_267 (by decide) ?_
            refine lv_goto (tgt := 273) hx hb dX6_mayHold_269 (by decide) ?_
            exact b273 st x4 x5 ((MS_deep st) (x5).toNatClampNeg) (9 : Int32) _ hf kc ke H locs ls ⟨hP, hD, hS⟩ (lv_sub hl [0, 2, 3] rfl)
    refine loop_ind (P := fun s0 => ∀ (H : Heap) (locs : List Loc) (ls : Array Slot), IN (dC, dI) (WX6 a b cI cJ cZ s0.1) A s.heap H locs → lv_has ls 7 [(0, .ref (a 0)), (3, .int s0.2.1), (4, .int s0.2.2)] → W p l e (headSpec wsX6_mayHold rX6_mayHold).room s m args below meth c H locs 0 0 QQ (F0 m 94 ls [])) (Q := fun r => ∀ (H : Heap) (locs : List Loc) (ls : Array Slot), IN (dC, dI) (WX6 a b cI cJ cZ r.1) A s.heap H locs → lv_has ls 7 [(0, .ref (a 0)), (3, .int r.2.1), (4, .int r.2.2)] → W p l e (headSpec wsX6_mayHold rX6_mayHold).room s m args below meth c H locs 0 0 QQ (F0 m 294 ls [])) ?_ fu s0 r
    clear fu s0 r
    rintro ⟨st, x3, x4⟩ x hf kc ke
    replace hf : fX6_mayHold_l94 st x3 x4 = some x := hf
    replace kc : (∀ s', x = .inl s' → (∀ (H : Heap) (locs : List Loc) (ls : Array Slot), IN (dC, dI) (WX6 a b cI cJ cZ s'.1) A s.heap H locs → lv_has ls 7 [(0, .ref (a 0)), (3, .int s'.2.1), (4, .int s'.2.2)] → W p l e (headSpec wsX6_mayHold rX6_mayHold).room s m args below meth c H locs 0 0 QQ (F0 m 94 ls []))) := kc
    replace ke : (∀ r, x = .inr r → (∀ (H : Heap) (locs : List Loc) (ls : Array Slot), IN (dC, dI) (WX6 a b cI cJ cZ r.1) A s.heap H locs → lv_has ls 7 [(0, .ref (a 0)), (3, .int r.2.1), (4, .int r.2.2)] → W p l e (headSpec wsX6_mayHold rX6_mayHold).room s m args below meth c H locs 0 0 QQ (F0 m 294 ls []))) := ke
    intro H locs ls hin hl
    obtain ⟨hP, hD, hS⟩ := hin
    unfold fX6_mayHold_l94 at hf
    refine lv_iload hx hb dX6_mayHold_94 (lv_at hl 2 rfl) ?_
    refine lv_iconst (v := (2 : Int32)) hx hb dX6_mayHold_96 (by decide) ?_
    refine lv_icmp_ge (tgt := 294) hx hb dX6_mayHold_97 (by decide) (fun c17 => ?_) (fun c17 => ?_)
    · replace hf := it_p c17 hf
      obtain rfl := Option.some.inj hf
      exact ke _ rfl H locs ls ⟨hP, hD, hS⟩ (lv_sub hl [0, 1, 2] rfl)
    · replace hf := it_n c17 hf
      refine lv_iconst (v := (0 : Int32)) hx hb dX6_mayHold_100 (by decide) ?_
      refine lv_istore (lv' := [(5, .int (0 : Int32)), (0, .ref (a 0)), (3, .int x3), (4, .int x4)]) hx hb dX6_mayHold_101 hl (by decide) rfl (fun ls hl => ?_)
      obtain ⟨y24, hlp, hf⟩ := bind_s hf
      refine l103 x3 x4 fuelN (st, (0 : Int32)) y24 hlp ?_ H locs ls ⟨hP, hD, hS⟩ (lv_sub hl [1, 2, 3, 0] rfl)
      intro H locs ls hin hl
      obtain ⟨hP, hD, hS⟩ := hin
      refine lv_iconst (v := (0 : Int32)) hx hb dX6_mayHold_139 (by decide) ?_
      refine lv_istore (lv' := [(5, .int (0 : Int32)), (0, .ref (a 0)), (3, .int x3), (4, .int x4)]) hx hb dX6_mayHold_140 hl (by decide) rfl (fun ls hl => ?_)
      obtain ⟨y39, hlp, hf⟩ := bind_s hf
      refine l142 x3 x4 fuelN (y24.1, (0 : Int32)) y39 hlp ?_ H locs ls ⟨hP, hD, hS⟩ (lv_sub hl [1, 2, 3, 0] rfl)
      intro H locs ls hin hl
      obtain ⟨hP, hD, hS⟩ := hin
      refine lv_iconst (v := (0 : Int32)) hx hb dX6_mayHold_241 (by decide) ?_
      refine lv_istore (lv' := [(5, .int (0 : Int32)), (0, .ref (a 0)), (3, .int x3), (4, .int x4)]) hx hb dX6_mayHold_242 hl (by decide) rfl (fun ls hl => ?_)
      obtain ⟨y45, hlp, hf⟩ := bind_s hf
      refine l244 y39.1 x4 fuelN (x3, (0 : Int32)) y45 hlp ?_ H locs ls ⟨hP, hD, hS⟩ (lv_sub hl [1, 2, 3, 0] rfl)
      intro H locs ls hin hl
      obtain ⟨hP, hD, hS⟩ := hin
      refine lv_iinc (v := (x4 + (1 : Int32))) (lv' := [(4, .int (x4 + (1 : Int32))), (0, .ref (a 0)), (3, .int y45.1), (5, .int y45.2)]) hx hb dX6_mayHold_288 hl (k := 2) rfl rfl (by decide) rfl (fun ls hl => ?_)
      refine lv_goto (tgt := 94) hx hb dX6_mayHold_291 (by decide) ?_
      obtain rfl := Option.some.inj hf
      exact kc _ rfl H locs ls ⟨hP, hD, hS⟩ (lv_sub hl [1, 2, 0] rfl)
  have main : ∀ (H : Heap) (locs : List Loc) (ls : Array Slot), IN (dC, dI) (WX6 a b cI cJ cZ st) A s.heap H locs → lv_has ls 7 [(0, .ref (a 0)), (1, .int x1), (2, .int x2)] → W p l e (headSpec wsX6_mayHold rX6_mayHold).room s m args below meth c H locs 0 0 QQ (F0 m 0 ls []) := by
    intro H locs ls hin hl
    obtain ⟨hP, hD, hS⟩ := hin
    unfold fX6_mayHold at hf
    refine lv_iconst (v := (0 : Int32)) hx hb dX6_mayHold_0 (by decide) ?_
    refine lv_istore_n (lv' := [(3, .int (0 : Int32)), (0, .ref (a 0)), (1, .int x1), (2, .int x2)]) hx hb dX6_mayHold_1 rfl hl (by decide) rfl (fun ls hl => ?_)
    obtain ⟨y6, hlp, hf⟩ := bind_s hf
    refine l2 x1 x2 fuelN (st, (0 : Int32)) y6 hlp ?_ H locs ls ⟨hP, hD, hS⟩ (lv_sub hl [1, 2, 3, 0] rfl)
    intro H locs ls hin hl
    obtain ⟨hP, hD, hS⟩ := hin
    refine lv_iconst (v := (0 : Int32)) hx hb dX6_mayHold_35 (by decide) ?_
    refine lv_istore_n (lv' := [(3, .int (0 : Int32)), (0, .ref (a 0)), (1, .int x1), (2, .int x2)]) hx hb dX6_mayHold_36 rfl hl (by decide) rfl (fun ls hl => ?_)
    obtain ⟨y16, hlp, hf⟩ := bind_s hf
    refine l37 fuelN (y6.1, (0 : Int32)) y16 hlp ?_ H locs ls ⟨hP, hD, hS⟩ (lv_sub hl [1, 0] rfl)
    intro H locs ls hin hl
    obtain ⟨hP, hD, hS⟩ := hin
    refine lv_iconst (v := (1 : Int32)) hx hb dX6_mayHold_89 (by decide) ?_
    refine lv_istore_n (lv' := [(3, .int (1 : Int32)), (0, .ref (a 0))]) hx hb dX6_mayHold_90 rfl hl (by decide) rfl (fun ls hl => ?_)
    refine lv_iconst (v := (0 : Int32)) hx hb dX6_mayHold_91 (by decide) ?_
    refine lv_istore (lv' := [(4, .int (0 : Int32)), (3, .int (1 : Int32)), (0, .ref (a 0))]) hx hb dX6_mayHold_92 hl (by decide) rfl (fun ls hl => ?_)
    obtain ⟨y46, hlp, hf⟩ := bind_s hf
    refine l94 fuelN (y16.1, (1 : Int32), (0 : Int32)) y46 hlp ?_ H locs ls ⟨hP, hD, hS⟩ (lv_sub hl [2, 1, 0] rfl)
    intro H locs ls hin hl
    obtain ⟨hP, hD, hS⟩ := hin
    refine lv_iload_n hx hb dX6_mayHold_294 rfl (lv_at hl 1 rfl) ?_
    obtain ⟨hb_47, hf⟩ := it_s hf
    obtain rfl := Option.some.inj hf
    rw [hQ]
    exact W.zret hx hb hr (isB_nar hb_47) (fun t ht hW => ⟨rfl, ⟨by rw [ht]; exact hP, hD⟩, hS.F ht⟩) hS.2.2 dX6_mayHold_295
  exact main s.heap [] ls ⟨hP, hD, va_S.rf⟩ hl
