def rX6_lay : Room := { frames := 0, cells := 0, slots := 0, locals := 0 }
theorem kX6_lay_X6 : ∀ w ∈ wsX60, w ∈ wsX6_lay := fun w h => (List.mem_cons_of_mem _ (List.mem_append_right _ h))
theorem mX6_lay_1 : Cond.fieldLink RX6 62 "SmokeLedgerModel" "held" "[I" ∈ wsX6_lay := List.mem_of_getElem? (i := 1) rfl
theorem mX6_lay_2 : Cond.fieldLink RX6 73 "SmokeLedgerModel" "deep" "[I" ∈ wsX6_lay := List.mem_of_getElem? (i := 2) rfl
theorem mX6_lay_3 : Cond.fieldLink RX6 69 "SmokeLedgerModel" "edge" "[Z" ∈ wsX6_lay := List.mem_of_getElem? (i := 3) rfl
theorem mX6_lay_4 : Cond.fieldLink RX6 93 "SmokeLedgerModel" "holdings" "I" ∈ wsX6_lay := List.mem_of_getElem? (i := 4) rfl
theorem mX6_lay_5 : Cond.fieldLink RX6 13 "SmokeLedgerModel" "who" "[I" ∈ wsX6_lay := List.mem_of_getElem? (i := 5) rfl
theorem mX6_lay_6 : Cond.fieldLink RX6 17 "SmokeLedgerModel" "whom" "[I" ∈ wsX6_lay := List.mem_of_getElem? (i := 6) rfl
theorem mX6_lay_7 : Cond.fieldLink RX6 23 "SmokeLedgerModel" "since" "[I" ∈ wsX6_lay := List.mem_of_getElem? (i := 7) rfl
theorem mX6_lay_8 : Cond.fieldLink RX6 20 "SmokeLedgerModel" "part" "[I" ∈ wsX6_lay := List.mem_of_getElem? (i := 8) rfl
set_option maxHeartbeats 4000000 in
set_option maxRecDepth 100000 in
theorem ct_X6_lay (l : Launch) (dC : Nat → ClassId) (dI : Nat → Nat → Nat) (a b : Nat → Nat) (cI cJ cZ : ClassId) (sz : Nat) (st : MS) (x1 : Int32) (res : MS) (hf : fX6_lay st x1 = some res) : Met l yX6_lay wsX6_lay rX6_lay (Pm (dC, dI) (tyT cI cJ cZ) (WX6 a b cI cJ cZ st) sz [.ref (a 0), .int x1]) (Qm (dC, dI) none (WX6 a b cI cJ cZ res) (va_A (WX6 a b cI cJ cZ st) sz)) 0 0 (va_A (WX6 a b cI cJ cZ st) sz) := by
  refine Met.ofW (cc := cX6_lay) (maxL := 6) (ret := none) (by decide) rfl ?_
  intro p e s m args below meth c s₁ B hml hv
  obtain ⟨hargs, hsz, hP, hK, hD0⟩ := hv
  have hx := B.exec
  have hb := B.bytes
  have hr := B.returns
  have hts := atoms_spec (ws := wsX6_lay) B.pre
  have hown : s.vm.findClass RX6 = some m.cls := findClass_of_methodNamed B.named
  have hlocks := B.notSynchronized
  subst hsz
  have hD := hD0.self (sz := s.heap.size)
  generalize hAe : va_A (WX6 a b cI cJ cZ st) s.heap.size = A at hD ⊢
  have hA : ∀ q : Nat, s.heap.size ≤ q → A q := fun q h => by rw [← hAe]; exact Or.inr h
  have hl := lv_entry ([.ref (a 0), .int x1]) (n := 6) (Nat.le_of_ble_eq_true rfl)
  refine W.eq (hargs ▸ lg_entry_eq m [.ref (a 0), .int x1] 6) ?_
  generalize (lg_sl ([.ref (a 0), .int x1]) ++ List.replicate (6 - (lg_sl ([.ref (a 0), .int x1])).length) Slot.unset).toArray = ls at hl ⊢
  have hl : lv_has ls 6 [(0, .ref (a 0)), (1, .int x1)] := hl
  obtain ⟨QQ, hQ⟩ : ∃ QQ : State → Prop, QQ = MQ below (Qm (dC, dI) none (WX6 a b cI cJ cZ res) A) args s 0 0 (A) := ⟨_, rfl⟩
  rw [← hQ]
  have l2 : ∀ (x1 : Int32) (fu : Nat) (s0 : MS × Int32) (r : MS × Int32), loopN (fun (s : MS × Int32) => fX6_lay_l2 x1 s.1 s.2) fu s0 = some r → (∀ (H : Heap) (locs : List Loc) (ls : Array Slot), IN (dC, dI) (WX6 a b cI cJ cZ r.1) A s.heap H locs → lv_has ls 6 [(0, .ref (a 0)), (1, .int x1), (2, .int r.2)] → W p l e (headSpec wsX6_lay rX6_lay).room s m args below meth c H locs 0 0 QQ (F0 m 32 ls [])) → (∀ (H : Heap) (locs : List Loc) (ls : Array Slot), IN (dC, dI) (WX6 a b cI cJ cZ s0.1) A s.heap H locs → lv_has ls 6 [(0, .ref (a 0)), (1, .int x1), (2, .int s0.2)] → W p l e (headSpec wsX6_lay rX6_lay).room s m args below meth c H locs 0 0 QQ (F0 m 2 ls [])) := by
    intro x1 fu s0 r
    refine loop_ind (P := fun s0 => ∀ (H : Heap) (locs : List Loc) (ls : Array Slot), IN (dC, dI) (WX6 a b cI cJ cZ s0.1) A s.heap H locs → lv_has ls 6 [(0, .ref (a 0)), (1, .int x1), (2, .int s0.2)] → W p l e (headSpec wsX6_lay rX6_lay).room s m args below meth c H locs 0 0 QQ (F0 m 2 ls [])) (Q := fun r => ∀ (H : Heap) (locs : List Loc) (ls : Array Slot), IN (dC, dI) (WX6 a b cI cJ cZ r.1) A s.heap H locs → lv_has ls 6 [(0, .ref (a 0)), (1, .int x1), (2, .int r.2)] → W p l e (headSpec wsX6_lay rX6_lay).room s m args below meth c H locs 0 0 QQ (F0 m 32 ls [])) ?_ fu s0 r
    clear fu s0 r
    rintro ⟨st, x2⟩ x hf kc ke
    replace hf : fX6_lay_l2 x1 st x2 = some x := hf
    replace kc : (∀ s', x = .inl s' → (∀ (H : Heap) (locs : List Loc) (ls : Array Slot), IN (dC, dI) (WX6 a b cI cJ cZ s'.1) A s.heap H locs → lv_has ls 6 [(0, .ref (a 0)), (1, .int x1), (2, .int s'.2)] → W p l e (headSpec wsX6_lay rX6_lay).room s m args below meth c H locs 0 0 QQ (F0 m 2 ls []))) := kc
    replace ke : (∀ r, x = .inr r → (∀ (H : Heap) (locs : List Loc) (ls : Array Slot), IN (dC, dI) (WX6 a b cI cJ cZ r.1) A s.heap H locs → lv_has ls 6 [(0, .ref (a 0)), (1, .int x1), (2, .int r.2)] → W p l e (headSpec wsX6_lay rX6_lay).room s m args below meth c H locs 0 0 QQ (F0 m 32 ls []))) := ke
    intro H locs ls hin hl
    obtain ⟨hP, hD, hS⟩ := hin
    unfold fX6_lay_l2 at hf
    refine lv_iload_n hx hb dX6_lay_2 rfl (lv_at hl 2 rfl) ?_
    refine lv_bipush (v := (100 : Int32)) hx hb dX6_lay_3 (by decide) ?_
    refine lv_icmp_ge (tgt := 32) hx hb dX6_lay_5 (by decide) (fun c1 => ?_) (fun c1 => ?_)
    · replace hf := it_p c1 hf
      obtain rfl := Option.some.inj hf
      exact ke _ rfl H locs ls ⟨hP, hD, hS⟩ (lv_sub hl [0, 1, 2] rfl)
    · replace hf := it_n c1 hf
      refine lv_aload_n hx hb dX6_lay_8 rfl (lv_at hl 0 rfl) ?_
      refine va_get (D := (dC, dI)) (ci := 6) (v := .ref (a 17)) (C := RX6) (T := TX6) (N := 26) hx hb hts kX6_lay_X6 hown hK hP 0 rfl rfl 22 (by decide) (hts _ mX6_lay_1) (fun _ h9 => h9) rfl dX6_lay_9 ?_
      refine lv_iload_n hx hb dX6_lay_12 rfl (lv_at hl 2 rfl) ?_
      refine lv_iconst (v := (0 : Int32)) hx hb dX6_lay_13 (by decide) ?_
      obtain ⟨hi2, hf⟩ := it_s hf
      refine va_iast hx hb hK hP hD hS 17 0 rfl rfl (inb_in hi2) dX6_lay_14 (fun H locs hP hD hS => ?_)
      obtain ⟨s3, hs4, hf⟩ := bnd_e hf
      replace hP := putP_held hs4 hP
      replace hD := putD_held hs4 hD
      refine lv_aload_n hx hb dX6_lay_15 rfl (lv_at hl 0 rfl) ?_
      refine va_get (D := (dC, dI)) (ci := 6) (v := .ref (a 20)) (C := RX6) (T := TX6) (N := 26) hx hb hts kX6_lay_X6 hown hK hP 0 rfl rfl 25 (by decide) (hts _ mX6_lay_2) (fun _ h9 => h9) rfl dX6_lay_16 ?_
      refine lv_iload_n hx hb dX6_lay_19 rfl (lv_at hl 2 rfl) ?_
      refine lv_bipush (v := (10 : Int32)) hx hb dX6_lay_20 (by decide) ?_
      refine lv_idiv hx hb dX6_lay_22 (by decide) ?_
      refine lv_bipush (v := (-9 : Int32)) hx hb dX6_lay_23 (by decide) ?_
      obtain ⟨hi5, hf⟩ := it_s hf
      refine va_iast hx hb hK hP hD hS 20 0 rfl rfl (inb_in hi5) dX6_lay_25 (fun H locs hP hD hS => ?_)
      obtain ⟨s6, hs7, hf⟩ := bnd_e hf
      replace hP := putP_deep hs7 hP
      replace hD := putD_deep hs7 hD
      refine lv_iinc (v := (x2 + (1 : Int32))) (lv' := [(2, .int (x2 + (1 : Int32))), (0, .ref (a 0)), (1, .int x1)]) hx hb dX6_lay_26 hl (k := 2) rfl rfl (by decide) rfl (fun ls hl => ?_)
      refine lv_goto (tgt := 2) hx hb dX6_lay_29 (by decide) ?_
      obtain rfl := Option.some.inj hf
      exact kc _ rfl H locs ls ⟨hP, hD, hS⟩ (lv_sub hl [1, 2, 0] rfl)
  have l34 : ∀ (x1 : Int32) (fu : Nat) (s0 : MS × Int32) (r : MS × Int32), loopN (fun (s : MS × Int32) => fX6_lay_l34 x1 s.1 s.2) fu s0 = some r → (∀ (H : Heap) (locs : List Loc) (ls : Array Slot), IN (dC, dI) (WX6 a b cI cJ cZ r.1) A s.heap H locs → lv_has ls 6 [(0, .ref (a 0)), (1, .int x1), (2, .int r.2)] → W p l e (headSpec wsX6_lay rX6_lay).room s m args below meth c H locs 0 0 QQ (F0 m 53 ls [])) → (∀ (H : Heap) (locs : List Loc) (ls : Array Slot), IN (dC, dI) (WX6 a b cI cJ cZ s0.1) A s.heap H locs → lv_has ls 6 [(0, .ref (a 0)), (1, .int x1), (2, .int s0.2)] → W p l e (headSpec wsX6_lay rX6_lay).room s m args below meth c H locs 0 0 QQ (F0 m 34 ls [])) := by
    intro x1 fu s0 r
    refine loop_ind (P := fun s0 => ∀ (H : Heap) (locs : List Loc) (ls : Array Slot), IN (dC, dI) (WX6 a b cI cJ cZ s0.1) A s.heap H locs → lv_has ls 6 [(0, .ref (a 0)), (1, .int x1), (2, .int s0.2)] → W p l e (headSpec wsX6_lay rX6_lay).room s m args below meth c H locs 0 0 QQ (F0 m 34 ls [])) (Q := fun r => ∀ (H : Heap) (locs : List Loc) (ls : Array Slot), IN (dC, dI) (WX6 a b cI cJ cZ r.1) A s.heap H locs → lv_has ls 6 [(0, .ref (a 0)), (1, .int x1), (2, .int r.2)] → W p l e (headSpec wsX6_lay rX6_lay).room s m args below meth c H locs 0 0 QQ (F0 m 53 ls [])) ?_ fu s0 r
    clear fu s0 r
    rintro ⟨st, x2⟩ x hf kc ke
    replace hf : fX6_lay_l34 x1 st x2 = some x := hf
    replace kc : (∀ s', x = .inl s' → (∀ (H : Heap) (locs : List Loc) (ls : Array Slot), IN (dC, dI) (WX6 a b cI cJ cZ s'.1) A s.heap H locs → lv_has ls 6 [(0, .ref (a 0)), (1, .int x1), (2, .int s'.2)] → W p l e (headSpec wsX6_lay rX6_lay).room s m args below meth c H locs 0 0 QQ (F0 m 34 ls []))) := kc
    replace ke : (∀ r, x = .inr r → (∀ (H : Heap) (locs : List Loc) (ls : Array Slot), IN (dC, dI) (WX6 a b cI cJ cZ r.1) A s.heap H locs → lv_has ls 6 [(0, .ref (a 0)), (1, .int x1), (2, .int r.2)] → W p l e (headSpec wsX6_lay rX6_lay).room s m args below meth c H locs 0 0 QQ (F0 m 53 ls []))) := ke
    intro H locs ls hin hl
    obtain ⟨hP, hD, hS⟩ := hin
    unfold fX6_lay_l34 at hf
    refine lv_iload_n hx hb dX6_lay_34 rfl (lv_at hl 2 rfl) ?_
    refine lv_bipush (v := (100 : Int32)) hx hb dX6_lay_35 (by decide) ?_
    refine lv_icmp_ge (tgt := 53) hx hb dX6_lay_37 (by decide) (fun c9 => ?_) (fun c9 => ?_)
    · replace hf := it_p c9 hf
      obtain rfl := Option.some.inj hf
      exact ke _ rfl H locs ls ⟨hP, hD, hS⟩ (lv_sub hl [0, 1, 2] rfl)
    · replace hf := it_n c9 hf
      refine lv_aload_n hx hb dX6_lay_40 rfl (lv_at hl 0 rfl) ?_
      refine va_get (D := (dC, dI)) (ci := 6) (v := .ref (a 19)) (C := RX6) (T := TX6) (N := 26) hx hb hts kX6_lay_X6 hown hK hP 0 rfl rfl 24 (by decide) (hts _ mX6_lay_3) (fun _ h9 => h9) rfl dX6_lay_41 ?_
      refine lv_iload_n hx hb dX6_lay_44 rfl (lv_at hl 2 rfl) ?_
      refine lv_iconst (v := (0 : Int32)) hx hb dX6_lay_45 (by decide) ?_
      obtain ⟨hi10, hf⟩ := it_s hf
      refine va_zast hx hb hK hP hD hS 19 2 rfl rfl (inb_in hi10) dX6_lay_46 (fun H locs hP hD hS => ?_)
      obtain ⟨s11, hs12, hf⟩ := bnd_e hf
      replace hP := putP_edge hs12 hP
      replace hD := putD_edge hs12 hD
      refine lv_iinc (v := (x2 + (1 : Int32))) (lv' := [(2, .int (x2 + (1 : Int32))), (0, .ref (a 0)), (1, .int x1)]) hx hb dX6_lay_47 hl (k := 2) rfl rfl (by decide) rfl (fun ls hl => ?_)
      refine lv_goto (tgt := 34) hx hb dX6_lay_50 (by decide) ?_
      obtain rfl := Option.some.inj hf
      exact kc _ rfl H locs ls ⟨hP, hD, hS⟩ (lv_sub hl [1, 2, 0] rfl)
  have l55 : ∀ (x1 : Int32) (fu : Nat) (s0 : MS × Int32) (r : MS × Int32), loopN (fun (s : MS × Int32) => fX6_lay_l55 x1 s.1 s.2) fu s0 = some r → (∀ (H : Heap) (locs : List Loc) (ls : Array Slot), IN (dC, dI) (WX6 a b cI cJ cZ r.1) A s.heap H locs → lv_has ls 6 [(0, .ref (a 0)), (1, .int x1), (2, .int r.2)] → W p l e (headSpec wsX6_lay rX6_lay).room s m args below meth c H locs 0 0 QQ (F0 m 219 ls [])) → (∀ (H : Heap) (locs : List Loc) (ls : Array Slot), IN (dC, dI) (WX6 a b cI cJ cZ s0.1) A s.heap H locs → lv_has ls 6 [(0, .ref (a 0)), (1, .int x1), (2, .int s0.2)] → W p l e (headSpec wsX6_lay rX6_lay).room s m args below meth c H locs 0 0 QQ (F0 m 55 ls [])) := by
    intro x1 fu s0 r
    have b213 : ∀ (st : MS) (x1 : Int32) (x2 : Int32) (x : (MS × Int32) ⊕ (MS × Int32)), fX6_lay_b213 st x1 x2 = some x → (∀ s', x = .inl s' → (∀ (H : Heap) (locs : List Loc) (ls : Array Slot), IN (dC, dI) (WX6 a b cI cJ cZ s'.1) A s.heap H locs → lv_has ls 6 [(0, .ref (a 0)), (1, .int x1), (2, .int s'.2)] → W p l e (headSpec wsX6_lay rX6_lay).room s m args below meth c H locs 0 0 QQ (F0 m 55 ls []))) → (∀ r, x = .inr r → (∀ (H : Heap) (locs : List Loc) (ls : Array Slot), IN (dC, dI) (WX6 a b cI cJ cZ r.1) A s.heap H locs → lv_has ls 6 [(0, .ref (a 0)), (1, .int x1), (2, .int r.2)] → W p l e (headSpec wsX6_lay rX6_lay).room s m args below meth c H locs 0 0 QQ (F0 m 219 ls []))) → (∀ (H : Heap) (locs : List Loc) (ls : Array Slot), IN (dC, dI) (WX6 a b cI cJ cZ st) A s.heap H locs → lv_has ls 6 [(0, .ref (a 0)), (1, .int x1), (2, .int x2)] → W p l e (headSpec wsX6_lay rX6_lay).room s m args below meth c H locs 0 0 QQ (F0 m 213 ls [])) := by
      intro st x1 x2 x hf kc ke
      intro H locs ls hin hl
      obtain ⟨hP, hD, hS⟩ := hin
      unfold fX6_lay_b213 at hf
      refine lv_iinc (v := (x2 + (1 : Int32))) (lv' := [(2, .int (x2 + (1 : Int32))), (0, .ref (a 0)), (1, .int x1)]) hx hb dX6_lay_213 hl (k := 2) rfl rfl (by decide) rfl (fun ls hl => ?_)
      refine lv_goto (tgt := 55) hx hb dX6_lay_216 (by decide) ?_
      obtain rfl := Option.some.inj hf
      exact kc _ rfl H locs ls ⟨hP, hD, hS⟩ (lv_sub hl [1, 2, 0] rfl)
    have l96 : ∀ (st : MS) (x1 : Int32) (x2 : Int32) (x3 : Int32) (fu : Nat) (s0 : Int32 × Int32) (r : Int32 × Int32), loopN (fun (s : Int32 × Int32) => fX6_lay_l96 st x1 x2 x3 s.1 s.2) fu s0 = some r → (∀ (H : Heap) (locs : List Loc) (ls : Array Slot), IN (dC, dI) (WX6 a b cI cJ cZ st) A s.heap H locs → lv_has ls 6 [(0, .ref (a 0)), (1, .int x1), (2, .int x2), (3, .int x3), (4, .int r.1), (5, .int r.2)] → W p l e (headSpec wsX6_lay rX6_lay).room s m args below meth c H locs 0 0 QQ (F0 m 182 ls [])) → (∀ (H : Heap) (locs : List Loc) (ls : Array Slot), IN (dC, dI) (WX6 a b cI cJ cZ st) A s.heap H locs → lv_has ls 6 [(0, .ref (a 0)), (1, .int x1), (2, .int x2), (3, .int x3), (4, .int s0.1), (5, .int s0.2)] → W p l e (headSpec wsX6_lay rX6_lay).room s m args below meth c H locs 0 0 QQ (F0 m 96 ls [])) := by
      intro st x1 x2 x3 fu s0 r
      have b176 : ∀ (st : MS) (x1 : Int32) (x2 : Int32) (x3 : Int32) (x4 : Int32) (x5 : Int32) (x : (Int32 × Int32) ⊕ (Int32 × Int32)), fX6_lay_b176 st x1 x2 x3 x4 x5 = some x → (∀ s', x = .inl s' → (∀ (H : Heap) (locs : List Loc) (ls : Array Slot), IN (dC, dI) (WX6 a b cI cJ cZ st) A s.heap H locs → lv_has ls 6 [(0, .ref (a 0)), (1, .int x1), (2, .int x2), (3, .int x3), (4, .int s'.1), (5, .int s'.2)] → W p l e (headSpec wsX6_lay rX6_lay).room s m args below meth c H locs 0 0 QQ (F0 m 96 ls []))) → (∀ r, x = .inr r → (∀ (H : Heap) (locs : List Loc) (ls : Array Slot), IN (dC, dI) (WX6 a b cI cJ cZ st) A s.heap H locs → lv_has ls 6 [(0, .ref (a 0)), (1, .int x1), (2, .int x2), (3, .int x3), (4, .int r.1), (5, .int r.2)] → W p l e (headSpec wsX6_lay rX6_lay).room s m args below meth c H locs 0 0 QQ (F0 m 182 ls []))) → (∀ (H : Heap) (locs : List Loc) (ls : Array Slot), IN (dC, dI) (WX6 a b cI cJ cZ st) A s.heap H locs → lv_has ls 6 [(0, .ref (a 0)), (1, .int x1), (2, .int x2), (3, .int x3), (4, .int x4), (5, .int x5)] → W p l e (headSpec wsX6_lay rX6_lay).room s m args below meth c H locs 0 0 QQ (F0 m 176 ls [])) := by
        intro st x1 x2 x3 x4 x5 x hf kc ke
        intro H locs ls hin hl
        obtain ⟨hP, hD, hS⟩ := hin
        unfold fX6_lay_b176 at hf
        refine lv_iinc (v := (x5 + (1 : Int32))) (lv' := [(5, .int (x5 + (1 : Int32))), (0, .ref (a 0)), (1, .int x1), (2, .int x2), (3, .int x3), (4, .int x4)]) hx hb dX6_lay_176 hl (k := 5) rfl rfl (by decide) rfl (fun ls hl => ?_)
        refine lv_goto (tgt := 96) hx hb dX6_lay_179 (by decide) ?_
        obtain rfl := Option.some.inj hf
        exact kc _ rfl H locs ls ⟨hP, hD, hS⟩ (lv_sub hl [1, 2, 3, 4, 5, 0] rfl)
      have b172 : ∀ (st : MS) (x1 : Int32) (x2 : Int32) (x3 : Int32) (x5 : Int32) (x : (Int32 × Int32) ⊕ (Int32 × Int32)), fX6_lay_b172 st x1 x2 x3 x5 = some x → (∀ s', x = .inl s' → (∀ (H : Heap) (locs : List Loc) (ls : Array Slot), IN (dC, dI) (WX6 a b cI cJ cZ st) A s.heap H locs → lv_has ls 6 [(0, .ref (a 0)), (1, .int x1), (2, .int x2), (3, .int x3), (4, .int s'.1), (5, .int s'.2)] → W p l e (headSpec wsX6_lay rX6_lay).room s m args below meth c H locs 0 0 QQ (F0 m 96 ls []))) → (∀ r, x = .inr r → (∀ (H : Heap) (locs : List Loc) (ls : Array Slot), IN (dC, dI) (WX6 a b cI cJ cZ st) A s.heap H locs → lv_has ls 6 [(0, .ref (a 0)), (1, .int x1), (2, .int x2), (3, .int x3), (4, .int r.1), (5, .int r.2)] → W p l e (headSpec wsX6_lay rX6_lay).room s m args below meth c H locs 0 0 QQ (F0 m 182 ls []))) → (∀ (H : Heap) (locs : List Loc) (ls : Array Slot), IN (dC, dI) (WX6 a b cI cJ cZ st) A s.heap H locs → lv_has ls 6 [(0, .ref (a 0)), (1, .int x1), (2, .int x2), (3, .int x3), (5, .int x5)] → W p l e (headSpec wsX6_lay rX6_lay).room s m args below meth c H locs 0 0 QQ (F0 m 172 ls [])) := by
        intro st x1 x2 x3 x5 x hf kc ke
        intro H locs ls hin hl
        obtain ⟨hP, hD, hS⟩ := hin
        unfold fX6_lay_b172 at hf
        refine lv_iload hx hb dX6_lay_172 (lv_at hl 4 rfl) ?_
        refine lv_istore (lv' := [(4, .int x5), (0, .ref (a 0)), (1, .int x1), (2, .int x2), (3, .int x3), (5, .int x5)]) hx hb dX6_lay_174 hl (by decide) rfl (fun ls hl => ?_)
        exact b176 st x1 x2 x3 x5 x5 _ hf kc ke H locs ls ⟨hP, hD, hS⟩ (lv_sub hl [1, 2, 3, 4, 0, 5] rfl)
      refine loop_ind (P := fun s0 => ∀ (H : Heap) (locs : List Loc) (ls : Array Slot), IN (dC, dI) (WX6 a b cI cJ cZ st) A s.heap H locs → lv_has ls 6 [(0, .ref (a 0)), (1, .int x1), (2, .int x2), (3, .int x3), (4, .int s0.1), (5, .int s0.2)] → W p l e (headSpec wsX6_lay rX6_lay).room s m args below meth c H locs 0 0 QQ (F0 m 96 ls [])) (Q := fun r => ∀ (H : Heap) (locs : List Loc) (ls : Array Slot), IN (dC, dI) (WX6 a b cI cJ cZ st) A s.heap H locs → lv_has ls 6 [(0, .ref (a 0)), (1, .int x1), (2, .int x2), (3, .int x3), (4, .int r.1), (5, .int r.2)] → W p l e (headSpec wsX6_lay rX6_lay).room s m args below meth c H locs 0 0 QQ (F0 m 182 ls [])) ?_ fu s0 r
      clear fu s0 r
      rintro ⟨x4, x5⟩ x hf kc ke
      replace hf : fX6_lay_l96 st x1 x2 x3 x4 x5 = some x := hf
      replace kc : (∀ s', x = .inl s' → (∀ (H : Heap) (locs : List Loc) (ls : Array Slot), IN (dC, dI) (WX6 a b cI cJ cZ st) A s.heap H locs → lv_has ls 6 [(0, .ref (a 0)), (1, .int x1), (2, .int x2), (3, .int x3), (4, .int s'.1), (5, .int s'.2)] → W p l e (headSpec wsX6_lay rX6_lay).room s m args below meth c H locs 0 0 QQ (F0 m 96 ls []))) := kc
      replace ke : (∀ r, x = .inr r → (∀ (H : Heap) (locs : List Loc) (ls : Array Slot), IN (dC, dI) (WX6 a b cI cJ cZ st) A s.heap H locs → lv_has ls 6 [(0, .ref (a 0)), (1, .int x1), (2, .int x2), (3, .int x3), (4, .int r.1), (5, .int r.2)] → W p l e (headSpec wsX6_lay rX6_lay).room s m args below meth c H locs 0 0 QQ (F0 m 182 ls []))) := ke
      intro H locs ls hin hl
      obtain ⟨hP, hD, hS⟩ := hin
      unfold fX6_lay_l96 at hf
      refine lv_iload hx hb dX6_lay_96 (lv_at hl 5 rfl) ?_
      refine lv_aload_n hx hb dX6_lay_98 rfl (lv_at hl 0 rfl) ?_
      refine va_get (D := (dC, dI)) (ci := 6) (v := .int (MS_holdings st)) (C := RX6) (T := TX6) (N := 26) hx hb hts kX6_lay_X6 hown hK hP 0 rfl rfl 2 (by decide) (hts _ mX6_lay_4) (fun _ h9 => h9) rfl dX6_lay_99 ?_
      refine lv_icmp_ge (tgt := 182) hx hb dX6_lay_102 (by decide) (fun c19 => ?_) (fun c19 => ?_)
      · replace hf := it_p c19 hf
        obtain rfl := Option.some.inj hf
        exact ke _ rfl H locs ls ⟨hP, hD, hS⟩ (lv_sub hl [0, 1, 2, 3, 4, 5] rfl)
      · replace hf := it_n c19 hf
        refine lv_aload_n hx hb dX6_lay_105 rfl (lv_at hl 0 rfl) ?_
        refine va_get (D := (dC, dI)) (ci := 6) (v := .ref (a 1)) (C := RX6) (T := TX6) (N := 26) hx hb hts kX6_lay_X6 hown hK hP 0 rfl rfl 3 (by decide) (hts _ mX6_lay_5) (fun _ h9 => h9) rfl dX6_lay_106 ?_
        refine lv_iload hx hb dX6_lay_109 (lv_at hl 5 rfl) ?_
        obtain ⟨hi20, hf⟩ := it_s hf
        refine va_iald hx hb hK hP 1 0 rfl rfl (inb_in hi20) dX6_lay_111 ?_
        refine lv_aload_n hx hb dX6_lay_112 rfl (lv_at hl 0 rfl) ?_
        refine va_get (D := (dC, dI)) (ci := 6) (v := .ref (a 1)) (C := RX6) (T := TX6) (N := 26) hx hb hts kX6_lay_X6 hown hK hP 0 rfl rfl 3 (by decide) (hts _ mX6_lay_5) (fun _ h9 => h9) rfl dX6_lay_113 ?_
        refine lv_iload_n hx hb dX6_lay_116 rfl (lv_at hl 2 rfl) ?_
        obtain ⟨hi21, hf⟩ := it_s hf
        refine va_iald hx hb hK hP 1 0 rfl rfl (inb_in hi21) dX6_lay_117 ?_
        refine lv_icmp_ne (tgt := 176) hx hb dX6_lay_118 (by decide) (fun c22 => ?_) (fun c22 => ?_)
        · replace hf := it_n c22 hf
          exact b176 st x1 x2 x3 x4 x5 _ hf kc ke H locs ls ⟨hP, hD, hS⟩ (lv_sub hl [0, 1, 2, 3, 4, 5] rfl)
        · replace hf := it_p c22 hf
          refine lv_aload_n hx hb dX6_lay_121 rfl (lv_at hl 0 rfl) ?_
          refine va_get (D := (dC, dI)) (ci := 6) (v := .ref (a 2)) (C := RX6) (T := TX6) (N := 26) hx hb hts kX6_lay_X6 hown hK hP 0 rfl rfl 4 (by decide) (hts _ mX6_lay_6) (fun _ h9 => h9) rfl dX6_lay_122 ?_
          refine lv_iload hx hb dX6_lay_125 (lv_at hl 5 rfl) ?_
          obtain ⟨hi23, hf⟩ := it_s hf
          refine va_iald hx hb hK hP 2 0 rfl rfl (inb_in hi23) dX6_lay_127 ?_
          refine lv_aload_n hx hb dX6_lay_128 rfl (lv_at hl 0 rfl) ?_
          refine va_get (D := (dC, dI)) (ci := 6) (v := .ref (a 2)) (C := RX6) (T := TX6) (N := 26) hx hb hts kX6_lay_X6 hown hK hP 0 rfl rfl 4 (by decide) (hts _ mX6_lay_6) (fun _ h9 => h9) rfl dX6_lay_129 ?_
          refine lv_iload_n hx hb dX6_lay_132 rfl (lv_at hl 2 rfl) ?_
          obtain ⟨hi24, hf⟩ := it_s hf
          refine va_iald hx hb hK hP 2 0 rfl rfl (inb_in hi24) dX6_lay_133 ?_
          refine lv_icmp_ne (tgt := 176) hx hb dX6_lay_134 (by decide) (fun c25 => ?_) (fun c25 => ?_)
          · replace hf := it_n c25 hf
            exact b176 st x1 x2 x3 x4 x5 _ hf kc ke H locs ls ⟨hP, hD, hS⟩ (lv_sub hl [0, 1, 2, 3, 4, 5] rfl)
          · replace hf := it_p c25 hf
            refine lv_aload_n hx hb dX6_lay_137 rfl (lv_at hl 0 rfl) ?_
            refine va_get (D := (dC, dI)) (ci := 6) (v := .ref (a 4)) (C := RX6) (T := TX6) (N := 26) hx hb hts kX6_lay_X6 hown hK hP 0 rfl rfl 6 (by decide) (hts _ mX6_lay_7) (fun _ h9 => h9) rfl dX6_lay_138 ?_
            refine lv_iload hx hb dX6_lay_141 (lv_at hl 5 rfl) ?_
            obtain ⟨hi26, hf⟩ := it_s hf
            refine va_iald hx hb hK hP 4 0 rfl rfl (inb_in hi26) dX6_lay_143 ?_
            refine lv_iload_n hx hb dX6_lay_144 rfl (lv_at hl 1 rfl) ?_
            refine lv_icmp_gt (tgt := 176) hx hb dX6_lay_145 (by decide) (fun c27 => ?_) (fun c27 => ?_)
            · replace hf := it_p c27 hf
              exact b176 st x1 x2 x3 x4 x5 _ hf kc ke H locs ls ⟨hP, hD, hS⟩ (lv_sub hl [0, 1, 2, 3, 4, 5] rfl)
            · replace hf := it_n c27 hf
              refine lv_iload hx hb dX6_lay_148 (lv_at hl 4 rfl) ?_
              refine lv_bipush (v := (-9 : Int32)) hx hb dX6_lay_150 (by decide) ?_
              refine lv_icmp_eq (tgt := 172) hx hb dX6_lay_152 (by decide) (fun c28 => ?_) (fun c28 => ?_)
              · replace hf := it_p c28 hf
                exact b172 st x1 x2 x3 x5 _ hf kc ke H locs ls ⟨hP, hD, hS⟩ (lv_sub hl [0, 1, 2, 3, 5] rfl)
              · replace hf := it_n c28 hf
                refine lv_aload_n hx hb dX6_lay_155 rfl (lv_at hl 0 rfl) ?_
                refine va_get (D := (dC, dI)) (ci := 6) (v := .ref (a 4)) (C := RX6) (T := TX6) (N := 26) hx hb hts kX6_lay_X6 hown hK hP 0 rfl rfl 6 (by decide) (hts _ mX6_lay_7) (fun _ h9 => h9) rfl dX6_lay_156 ?_
                refine lv_iload hx hb dX6_lay_159 (lv_at hl 5 rfl) ?_
                obtain ⟨hi29, hf⟩ := it_s hf
                refine va_iald hx hb hK hP 4 0 rfl rfl (inb_in hi29) dX6_lay_161 ?_
                refine lv_aload_n hx hb dX6_lay_162 rfl (lv_at hl 0 rfl) ?_
                refine va_get (D := (dC, dI)) (ci := 6) (v := .ref (a 4)) (C := RX6) (T := TX6) (N := 26) hx hb hts kX6_lay_X6 hown hK hP 0 rfl rfl 6 (by decide) (hts _ mX6_lay_7) (fun _ h9 => h9) rfl dX6_lay_163 ?_
                refine lv_iload hx hb dX6_lay_166 (lv_at hl 4 rfl) ?_
                obtain ⟨hi30, hf⟩ := it_s hf
                refine va_iald hx hb hK hP 4 0 rfl rfl (inb_in hi30) dX6_lay_168 ?_
                refine lv_icmp_le (tgt := 176) hx hb dX6_lay_169 (by decide) (fun c31 => ?_) (fun c31 => ?_)
                · replace hf := it_p c31 hf
                  exact b176 st x1 x2 x3 x4 x5 _ hf kc ke H locs ls ⟨hP, hD, hS⟩ (lv_sub hl [0, 1, 2, 3, 4, 5] rfl)
                · replace hf := it_n c31 hf
                  exact b172 st x1 x2 x3 x5 _ hf kc ke H locs ls ⟨hP, hD, hS⟩ (lv_sub hl [0, 1, 2, 3, 5] rfl)
    have b205 : ∀ (st : MS) (x1 : Int32) (x2 : Int32) (x3 : Int32) (k1 : Int32) (k2 : Int32) (x : (MS × Int32) ⊕ (MS × Int32)), fX6_lay_b205 st x1 x2 x3 k1 k2 = some x → (∀ s', x = .inl s' → (∀ (H : Heap) (locs : List Loc) (ls : Array Slot), IN (dC, dI) (WX6 a b cI cJ cZ s'.1) A s.heap H locs → lv_has ls 6 [(0, .ref (a 0)), (1, .int x1), (2, .int s'.2)] → W p l e (headSpec wsX6_lay rX6_lay).room s m args below meth c H locs 0 0 QQ (F0 m 55 ls []))) → (∀ r, x = .inr r → (∀ (H : Heap) (locs : List Loc) (ls : Array Slot), IN (dC, dI) (WX6 a b cI cJ cZ r.1) A s.heap H locs → lv_has ls 6 [(0, .ref (a 0)), (1, .int x1), (2, .int r.2)] → W p l e (headSpec wsX6_lay rX6_lay).room s m args below meth c H locs 0 0 QQ (F0 m 219 ls []))) → (∀ (H : Heap) (locs : List Loc) (ls : Array Slot), IN (dC, dI) (WX6 a b cI cJ cZ st) A s.heap H locs → lv_has ls 6 [(0, .ref (a 0)), (1, .int x1), (2, .int x2), (3, .int x3)] → W p l e (headSpec wsX6_lay rX6_lay).room s m args below meth c H locs 0 0 QQ (F0 m 205 ls [.int k2, .int k1, .ref (a 17)])) := by
      intro st x1 x2 x3 k1 k2 x hf kc ke
      intro H locs ls hin hl
      obtain ⟨hP, hD, hS⟩ := hin
      unfold fX6_lay_b205 at hf
      obtain ⟨hi35, hf⟩ := it_s hf
      refine va_iast hx hb hK hP hD hS 17 0 rfl rfl (inb_in hi35) dX6_lay_205 (fun H locs hP hD hS => ?_)
      obtain ⟨s36, hs37, hf⟩ := bnd_e hf
      replace hP := putP_held hs37 hP
      replace hD := putD_held hs37 hD
      refine lv_aload_n hx hb dX6_lay_206 rfl (lv_at hl 0 rfl) ?_
      refine va_get (D := (dC, dI)) (ci := 6) (v := .ref (a 19)) (C := RX6) (T := TX6) (N := 26) hx hb hts kX6_lay_X6 hown hK hP 0 rfl rfl 24 (by decide) (hts _ mX6_lay_3) (fun _ h9 => h9) rfl dX6_lay_207 ?_
      refine lv_iload_n hx hb dX6_lay_210 rfl (lv_at hl 3 rfl) ?_
      refine lv_iconst (v := (1 : Int32)) hx hb dX6_lay_211 (by decide) ?_
      obtain ⟨hi38, hf⟩ := it_s hf
      refine va_zast hx hb hK hP hD hS 19 2 rfl rfl (inb_in hi38) dX6_lay_212 (fun H locs hP hD hS => ?_)
      obtain ⟨s39, hs40, hf⟩ := bnd_e hf
      replace hP := putP_edge hs40 hP
      replace hD := putD_edge hs40 hD
      exact b213 s39 x1 x2 _ hf kc ke H locs ls ⟨hP, hD, hS⟩ (lv_sub hl [0, 1, 2] rfl)
    refine loop_ind (P := fun s0 => ∀ (H : Heap) (locs : List Loc) (ls : Array Slot), IN (dC, dI) (WX6 a b cI cJ cZ s0.1) A s.heap H locs → lv_has ls 6 [(0, .ref (a 0)), (1, .int x1), (2, .int s0.2)] → W p l e (headSpec wsX6_lay rX6_lay).room s m args below meth c H locs 0 0 QQ (F0 m 55 ls [])) (Q := fun r => ∀ (H : Heap) (locs : List Loc) (ls : Array Slot), IN (dC, dI) (WX6 a b cI cJ cZ r.1) A s.heap H locs → lv_has ls 6 [(0, .ref (a 0)), (1, .int x1), (2, .int r.2)] → W p l e (headSpec wsX6_lay rX6_lay).room s m args below meth c H locs 0 0 QQ (F0 m 219 ls [])) ?_ fu s0 r
    clear fu s0 r
    rintro ⟨st, x2⟩ x hf kc ke
    replace hf : fX6_lay_l55 x1 st x2 = some x := hf
    replace kc : (∀ s', x = .inl s' → (∀ (H : Heap) (locs : List Loc) (ls : Array Slot), IN (dC, dI) (WX6 a b cI cJ cZ s'.1) A s.heap H locs → lv_has ls 6 [(0, .ref (a 0)), (1, .int x1), (2, .int s'.2)] → W p l e (headSpec wsX6_lay rX6_lay).room s m args below meth c H locs 0 0 QQ (F0 m 55 ls []))) := kc
    replace ke : (∀ r, x = .inr r → (∀ (H : Heap) (locs : List Loc) (ls : Array Slot), IN (dC, dI) (WX6 a b cI cJ cZ r.1) A s.heap H locs → lv_has ls 6 [(0, .ref (a 0)), (1, .int x1), (2, .int r.2)] → W p l e (headSpec wsX6_lay rX6_lay).room s m args below meth c H locs 0 0 QQ (F0 m 219 ls []))) := ke
    intro H locs ls hin hl
    obtain ⟨hP, hD, hS⟩ := hin
    unfold fX6_lay_l55 at hf
    refine lv_iload_n hx hb dX6_lay_55 rfl (lv_at hl 2 rfl) ?_
    refine lv_aload_n hx hb dX6_lay_56 rfl (lv_at hl 0 rfl) ?_
    refine va_get (D := (dC, dI)) (ci := 6) (v := .int (MS_holdings st)) (C := RX6) (T := TX6) (N := 26) hx hb hts kX6_lay_X6 hown hK hP 0 rfl rfl 2 (by decide) (hts _ mX6_lay_4) (fun _ h9 => h9) rfl dX6_lay_57 ?_
    refine lv_icmp_ge (tgt := 219) hx hb dX6_lay_60 (by decide) (fun c14 => ?_) (fun c14 => ?_)
    · replace hf := it_p c14 hf
      obtain rfl := Option.some.inj hf
      exact ke _ rfl H locs ls ⟨hP, hD, hS⟩ (lv_sub hl [0, 1, 2] rfl)
    · replace hf := it_n c14 hf
      refine lv_bipush (v := (10 : Int32)) hx hb dX6_lay_63 (by decide) ?_
      refine lv_aload_n hx hb dX6_lay_65 rfl (lv_at hl 0 rfl) ?_
      refine va_get (D := (dC, dI)) (ci := 6) (v := .ref (a 1)) (C := RX6) (T := TX6) (N := 26) hx hb hts kX6_lay_X6 hown hK hP 0 rfl rfl 3 (by decide) (hts _ mX6_lay_5) (fun _ h9 => h9) rfl dX6_lay_66 ?_
      refine lv_iload_n hx hb dX6_lay_69 rfl (lv_at hl 2 rfl) ?_
      obtain ⟨hi15, hf⟩ := it_s hf
      refine va_iald hx hb hK hP 1 0 rfl rfl (inb_in hi15) dX6_lay_70 ?_
      refine lv_imul hx hb dX6_lay_71 ?_
      refine lv_aload_n hx hb dX6_lay_72 rfl (lv_at hl 0 rfl) ?_
      refine va_get (D := (dC, dI)) (ci := 6) (v := .ref (a 2)) (C := RX6) (T := TX6) (N := 26) hx hb hts kX6_lay_X6 hown hK hP 0 rfl rfl 4 (by decide) (hts _ mX6_lay_6) (fun _ h9 => h9) rfl dX6_lay_73 ?_
      refine lv_iload_n hx hb dX6_lay_76 rfl (lv_at hl 2 rfl) ?_
      obtain ⟨hi16, hf⟩ := it_s hf
      refine va_iald hx hb hK hP 2 0 rfl rfl (inb_in hi16) dX6_lay_77 ?_
      refine lv_iadd hx hb dX6_lay_78 ?_
      refine lv_istore_n (lv' := [(3, .int (((10 : Int32) * ((MS_who st) (x2).toNatClampNeg)) + ((MS_whom st) (x2).toNatClampNeg))), (0, .ref (a 0)), (1, .int x1), (2, .int x2)]) hx hb dX6_lay_79 rfl hl (by decide) rfl (fun ls hl => ?_)
      refine lv_bipush (v := (-9 : Int32)) hx hb dX6_lay_80 (by decide) ?_
      refine lv_istore (lv' := [(4, .int (-9 : Int32)), (3, .int (((10 : Int32) * ((MS_who st) (x2).toNatClampNeg)) + ((MS_whom st) (x2).toNatClampNeg))), (0, .ref (a 0)), (1, .int x1), (2, .int x2)]) hx hb dX6_lay_82 hl (by decide) rfl (fun ls hl => ?_)
      refine lv_aload_n hx hb dX6_lay_84 rfl (lv_at hl 2 rfl) ?_
      refine va_get (D := (dC, dI)) (ci := 6) (v := .ref (a 19)) (C := RX6) (T := TX6) (N := 26) hx hb hts kX6_lay_X6 hown hK hP 0 rfl rfl 24 (by decide) (hts _ mX6_lay_3) (fun _ h9 => h9) rfl dX6_lay_85 ?_
      refine lv_iload_n hx hb dX6_lay_88 rfl (lv_at hl 1 rfl) ?_
      obtain ⟨hi17, hf⟩ := it_s hf
      refine va_zald hx hb hK hP 19 2 rfl rfl (inb_in hi17) dX6_lay_89 ?_
      refine lv_if_ne (tgt := 213) hx hb dX6_lay_90 (by decide) (fun c18 => ?_) (fun c18 => ?_)
      · replace hf := it_n c18 hf
        exact b213 st x1 x2 _ hf kc ke H locs ls ⟨hP, hD, hS⟩ (lv_sub hl [2, 3, 4] rfl)
      · replace hf := it_p c18 hf
        refine lv_iload_n hx hb dX6_lay_93 rfl (lv_at hl 4 rfl) ?_
        refine lv_istore (lv' := [(5, .int x2), (4, .int (-9 : Int32)), (3, .int (((10 : Int32) * ((MS_who st) (x2).toNatClampNeg)) + ((MS_whom st) (x2).toNatClampNeg))), (0, .ref (a 0)), (1, .int x1), (2, .int x2)]) hx hb dX6_lay_94 hl (by decide) rfl (fun ls hl => ?_)
        obtain ⟨y32, hlp, hf⟩ := bind_s hf
        refine l96 st x1 x2 (((10 : Int32) * ((MS_who st) (x2).toNatClampNeg)) + ((MS_whom st) (x2).toNatClampNeg)) fuelN ((-9 : Int32), x2) y32 hlp ?_ H locs ls ⟨hP, hD, hS⟩ (lv_sub hl [3, 4, 5, 2, 1, 0] rfl)
        intro H locs ls hin hl
        obtain ⟨hP, hD, hS⟩ := hin
        refine lv_aload_n hx hb dX6_lay_182 rfl (lv_at hl 0 rfl) ?_
        refine va_get (D := (dC, dI)) (ci := 6) (v := .ref (a 17)) (C := RX6) (T := TX6) (N := 26) hx hb hts kX6_lay_X6 hown hK hP 0 rfl rfl 22 (by decide) (hts _ mX6_lay_1) (fun _ h9 => h9) rfl dX6_lay_183 ?_
        refine lv_iload_n hx hb dX6_lay_186 rfl (lv_at hl 3 rfl) ?_
        refine lv_iload hx hb dX6_lay_187 (lv_at hl 4 rfl) ?_
        refine lv_bipush (v := (-9 : Int32)) hx hb dX6_lay_189 (by decide) ?_
        refine lv_icmp_ne (tgt := 198) hx hb dX6_lay_191 (by decide) (fun c33 => ?_) (fun c33 => ?_)
        · replace hf := it_n c33 hf
          refine lv_aload_n hx hb dX6_lay_198 rfl (lv_at hl 0 rfl) ?_
          refine va_get (D := (dC, dI)) (ci := 6) (v := .ref (a 3)) (C := RX6) (T := TX6) (N := 26) hx hb hts kX6_lay_X6 hown hK hP 0 rfl rfl 5 (by decide) (hts _ mX6_lay_8) (fun _ h9 => h9) rfl dX6_lay_199 ?_
          refine lv_iload hx hb dX6_lay_202 (lv_at hl 4 rfl) ?_
          obtain ⟨hi34, hf⟩ := it_s hf
          refine va_iald hx hb hK hP 3 0 rfl rfl (inb_in hi34) dX6_lay_204 ?_
          exact b205 st x1 x2 (((10 : Int32) * ((MS_who st) (x2).toNatClampNeg)) + ((MS_whom st) (x2).toNatClampNeg)) (((10 : Int32) * ((MS_who st) (x2).toNatClampNeg)) + ((MS_whom st) (x2).toNatClampNeg)) ((MS_part st) (y32.1).toNatClampNeg) _ hf kc ke H locs ls ⟨hP, hD, hS⟩ (lv_sub hl [0, 1, 2, 3] rfl)
        · replace hf := it_p c33 hf
          refine lv_iconst (v := (0 : Int32)) hx hb dX6_lay_194 (by decide) ?_
          refine lv_goto (tgt := 205) hx hb dX6_lay_195 (by decide) ?_
          exact b205 st x1 x2 (((10 : Int32) * ((MS_who st) (x2).toNatClampNeg)) + ((MS_whom st) (x2).toNatClampNeg)) (((10 : Int32) * ((MS_who st) (x2).toNatClampNeg)) + ((MS_whom st) (x2).toNatClampNeg)) (0 : Int32) _ hf kc ke H locs ls ⟨hP, hD, hS⟩ (lv_sub hl [0, 1, 2, 3] rfl)
  have main : ∀ (H : Heap) (locs : List Loc) (ls : Array Slot), IN (dC, dI) (WX6 a b cI cJ cZ st) A s.heap H locs → lv_has ls 6 [(0, .ref (a 0)), (1, .int x1)] → W p l e (headSpec wsX6_lay rX6_lay).room s m args below meth c H locs 0 0 QQ (F0 m 0 ls []) := by
    intro H locs ls hin hl
    obtain ⟨hP, hD, hS⟩ := hin
    unfold fX6_lay at hf
    refine lv_iconst (v := (0 : Int32)) hx hb dX6_lay_0 (by decide) ?_
    refine lv_istore_n (lv' := [(2, .int (0 : Int32)), (0, .ref (a 0)), (1, .int x1)]) hx hb dX6_lay_1 rfl hl (by decide) rfl (fun ls hl => ?_)
    obtain ⟨y8, hlp, hf⟩ := bind_s hf
    refine l2 x1 fuelN (st, (0 : Int32)) y8 hlp ?_ H locs ls ⟨hP, hD, hS⟩ (lv_sub hl [1, 2, 0] rfl)
    intro H locs ls hin hl
    obtain ⟨hP, hD, hS⟩ := hin
    refine lv_iconst (v := (0 : Int32)) hx hb dX6_lay_32 (by decide) ?_
    refine lv_istore_n (lv' := [(2, .int (0 : Int32)), (0, .ref (a 0)), (1, .int x1)]) hx hb dX6_lay_33 rfl hl (by decide) rfl (fun ls hl => ?_)
    obtain ⟨y13, hlp, hf⟩ := bind_s hf
    refine l34 x1 fuelN (y8.1, (0 : Int32)) y13 hlp ?_ H locs ls ⟨hP, hD, hS⟩ (lv_sub hl [1, 2, 0] rfl)
    intro H locs ls hin hl
    obtain ⟨hP, hD, hS⟩ := hin
    refine lv_iconst (v := (0 : Int32)) hx hb dX6_lay_53 (by decide) ?_
    refine lv_istore_n (lv' := [(2, .int (0 : Int32)), (0, .ref (a 0)), (1, .int x1)]) hx hb dX6_lay_54 rfl hl (by decide) rfl (fun ls hl => ?_)
    obtain ⟨y41, hlp, hf⟩ := bind_s hf
    refine l55 x1 fuelN (y13.1, (0 : Int32)) y41 hlp ?_ H locs ls ⟨hP, hD, hS⟩ (lv_sub hl [1, 2, 0] rfl)
    intro H locs ls hin hl
    obtain ⟨hP, hD, hS⟩ := hin
    obtain rfl := Option.some.inj hf
    rw [hQ]
    exact W.vret hx hb hr (fun t ht hW => ⟨rfl, ⟨by rw [ht]; exact hP, hD⟩, hS.F ht⟩) hS.2.2 dX6_lay_219
  exact main s.heap [] ls ⟨hP, hD, va_S.rf⟩ hl
def rX6_shares : Room := { frames := 1, cells := 0, slots := 0, locals := 25 }
theorem kX6_shares_X6 : ∀ w ∈ wsX60, w ∈ wsX6_shares := fun w h => (List.mem_cons_of_mem _ (List.mem_append_right _ h))
theorem mX6_shares_1 : Cond.fieldLink RX6 65 "SmokeLedgerModel" "share" "[J" ∈ wsX6_shares := List.mem_of_getElem? (i := 1) rfl
theorem mX6_shares_3 : Cond.constantLong RX6 102 (10000) ∈ wsX6_shares := List.mem_of_getElem? (i := 3) rfl
theorem mX6_shares_4 : Cond.fieldLink RX6 62 "SmokeLedgerModel" "held" "[I" ∈ wsX6_shares := List.mem_of_getElem? (i := 4) rfl
theorem mX6_shares_5 : Cond.constantLong RX6 104 (100) ∈ wsX6_shares := List.mem_of_getElem? (i := 5) rfl
theorem mX6_shares_2 : Cond.constantLong RX6 100 (1000000) ∈ wsX6_shares := List.mem_of_getElem? (i := 2) rfl
set_option maxHeartbeats 4000000 in
set_option maxRecDepth 100000 in
theorem ct_X6_shares (l : Launch) (dC : Nat → ClassId) (dI : Nat → Nat → Nat) (a b : Nat → Nat) (cI cJ cZ : ClassId) (sz : Nat) (st : MS) (x1 : Int32) (res : MS) (hf : fX6_shares st x1 = some res) : Met l yX6_shares wsX6_shares rX6_shares (Pm (dC, dI) (tyT cI cJ cZ) (WX6 a b cI cJ cZ st) sz [.ref (a 0), .int x1]) (Qm (dC, dI) none (WX6 a b cI cJ cZ res) (va_A (WX6 a b cI cJ cZ st) sz)) 0 0 (va_A (WX6 a b cI cJ cZ st) sz) := by
  refine Met.ofW (cc := cX6_shares) (maxL := 5) (ret := none) (by decide) rfl ?_
  intro p e s m args below meth c s₁ B hml hv
  obtain ⟨hargs, hsz, hP, hK, hD0⟩ := hv
  have hx := B.exec
  have hb := B.bytes
  have hr := B.returns
  have hts := atoms_spec (ws := wsX6_shares) B.pre
  have hown : s.vm.findClass RX6 = some m.cls := findClass_of_methodNamed B.named
  have hlocks := B.notSynchronized
  subst hsz
  have hD := hD0.self (sz := s.heap.size)
  generalize hAe : va_A (WX6 a b cI cJ cZ st) s.heap.size = A at hD ⊢
  have hA : ∀ q : Nat, s.heap.size ≤ q → A q := fun q h => by rw [← hAe]; exact Or.inr h
  have hl := lv_entry ([.ref (a 0), .int x1]) (n := 5) (Nat.le_of_ble_eq_true rfl)
  refine W.eq (hargs ▸ lg_entry_eq m [.ref (a 0), .int x1] 5) ?_
  generalize (lg_sl ([.ref (a 0), .int x1]) ++ List.replicate (5 - (lg_sl ([.ref (a 0), .int x1])).length) Slot.unset).toArray = ls at hl ⊢
  have hl : lv_has ls 5 [(0, .ref (a 0)), (1, .int x1)] := hl
  obtain ⟨QQ, hQ⟩ : ∃ QQ : State → Prop, QQ = MQ below (Qm (dC, dI) none (WX6 a b cI cJ cZ res) A) args s 0 0 (A) := ⟨_, rfl⟩
  rw [← hQ]
  have l7 : ∀ (fu : Nat) (s0 : MS × Int32) (r : MS × Int32), loopN (fun (s : MS × Int32) => fX6_shares_l7 s.1 s.2) fu s0 = some r → (∀ (H : Heap) (locs : List Loc) (ls : Array Slot), IN (dC, dI) (WX6 a b cI cJ cZ r.1) A s.heap H locs → lv_has ls 5 [(0, .ref (a 0)), (2, .int r.2)] → W p l e (headSpec wsX6_shares rX6_shares).room s m args below meth c H locs 0 0 QQ (F0 m 157 ls [])) → (∀ (H : Heap) (locs : List Loc) (ls : Array Slot), IN (dC, dI) (WX6 a b cI cJ cZ s0.1) A s.heap H locs → lv_has ls 5 [(0, .ref (a 0)), (2, .int s0.2)] → W p l e (headSpec wsX6_shares rX6_shares).room s m args below meth c H locs 0 0 QQ (F0 m 7 ls [])) := by
    intro fu s0 r
    have l42 : ∀ (x2 : Int32) (fu : Nat) (s0 : MS × Int32) (r : MS × Int32), loopN (fun (s : MS × Int32) => fX6_shares_l42 x2 s.1 s.2) fu s0 = some r → (∀ (H : Heap) (locs : List Loc) (ls : Array Slot), IN (dC, dI) (WX6 a b cI cJ cZ r.1) A s.heap H locs → lv_has ls 5 [(0, .ref (a 0)), (2, .int x2), (3, .int r.2)] → W p l e (headSpec wsX6_shares rX6_shares).room s m args below meth c H locs 0 0 QQ (F0 m 151 ls [])) → (∀ (H : Heap) (locs : List Loc) (ls : Array Slot), IN (dC, dI) (WX6 a b cI cJ cZ s0.1) A s.heap H locs → lv_has ls 5 [(0, .ref (a 0)), (2, .int x2), (3, .int s0.2)] → W p l e (headSpec wsX6_shares rX6_shares).room s m args below meth c H locs 0 0 QQ (F0 m 42 ls [])) := by
      intro x2 fu s0 r
      have l88 : ∀ (x2 : Int32) (x3 : Int32) (fu : Nat) (s0 : MS × Int32) (r : MS × Int32), loopN (fun (s : MS × Int32) => fX6_shares_l88 x2 x3 s.1 s.2) fu s0 = some r → (∀ (H : Heap) (locs : List Loc) (ls : Array Slot), IN (dC, dI) (WX6 a b cI cJ cZ r.1) A s.heap H locs → lv_has ls 5 [(0, .ref (a 0)), (2, .int x2), (3, .int x3), (4, .int r.2)] → W p l e (headSpec wsX6_shares rX6_shares).room s m args below meth c H locs 0 0 QQ (F0 m 145 ls [])) → (∀ (H : Heap) (locs : List Loc) (ls : Array Slot), IN (dC, dI) (WX6 a b cI cJ cZ s0.1) A s.heap H locs → lv_has ls 5 [(0, .ref (a 0)), (2, .int x2), (3, .int x3), (4, .int s0.2)] → W p l e (headSpec wsX6_shares rX6_shares).room s m args below meth c H locs 0 0 QQ (F0 m 88 ls [])) := by
        intro x2 x3 fu s0 r
        refine loop_ind (P := fun s0 => ∀ (H : Heap) (locs : List Loc) (ls : Array Slot), IN (dC, dI) (WX6 a b cI cJ cZ s0.1) A s.heap H locs → lv_has ls 5 [(0, .ref (a 0)), (2, .int x2), (3, .int x3), (4, .int s0.2)] → W p l e (headSpec wsX6_shares rX6_shares).room s m args below meth c H locs 0 0 QQ (F0 m 88 ls [])) (Q := fun r => ∀ (H : Heap) (locs : List Loc) (ls : Array Slot), IN (dC, dI) (WX6 a b cI cJ cZ r.1) A s.heap H locs → lv_has ls 5 [(0, .ref (a 0)), (2, .int x2), (3, .int x3), (4, .int r.2)] → W p l e (headSpec wsX6_shares rX6_shares).room s m args below meth c H locs 0 0 QQ (F0 m 145 ls [])) ?_ fu s0 r
        clear fu s0 r
        rintro ⟨st, x4⟩ x hf kc ke
        replace hf : fX6_shares_l88 x2 x3 st x4 = some x := hf
        replace kc : (∀ s', x = .inl s' → (∀ (H : Heap) (locs : List Loc) (ls : Array Slot), IN (dC, dI) (WX6 a b cI cJ cZ s'.1) A s.heap H locs → lv_has ls 5 [(0, .ref (a 0)), (2, .int x2), (3, .int x3), (4, .int s'.2)] → W p l e (headSpec wsX6_shares rX6_shares).room s m args below meth c H locs 0 0 QQ (F0 m 88 ls []))) := kc
        replace ke : (∀ r, x = .inr r → (∀ (H : Heap) (locs : List Loc) (ls : Array Slot), IN (dC, dI) (WX6 a b cI cJ cZ r.1) A s.heap H locs → lv_has ls 5 [(0, .ref (a 0)), (2, .int x2), (3, .int x3), (4, .int r.2)] → W p l e (headSpec wsX6_shares rX6_shares).room s m args below meth c H locs 0 0 QQ (F0 m 145 ls []))) := ke
        intro H locs ls hin hl
        obtain ⟨hP, hD, hS⟩ := hin
        unfold fX6_shares_l88 at hf
        refine lv_iload hx hb dX6_shares_88 (lv_at hl 3 rfl) ?_
        refine lv_bipush (v := (10 : Int32)) hx hb dX6_shares_90 (by decide) ?_
        refine lv_icmp_ge (tgt := 145) hx hb dX6_shares_92 (by decide) (fun c17 => ?_) (fun c17 => ?_)
        · replace hf := it_p c17 hf
          obtain rfl := Option.some.inj hf
          exact ke _ rfl H locs ls ⟨hP, hD, hS⟩ (lv_sub hl [0, 1, 2, 3] rfl)
        · replace hf := it_n c17 hf
          refine lv_aload_n hx hb dX6_shares_95 rfl (lv_at hl 0 rfl) ?_
          refine va_get (D := (dC, dI)) (ci := 6) (v := .ref (a 18)) (C := RX6) (T := TX6) (N := 26) hx hb hts kX6_shares_X6 hown hK hP 0 rfl rfl 23 (by decide) (hts _ mX6_shares_1) (fun _ h9 => h9) rfl dX6_shares_96 ?_
          refine lv_iload_n hx hb dX6_shares_99 rfl (lv_at hl 1 rfl) ?_
          refine lv_dup2_11 hx hb dX6_shares_100 rfl rfl ?_
          obtain ⟨hi18, hf⟩ := it_s hf
          refine va_lald hx hb hK hP 18 1 rfl rfl (inb_in hi18) dX6_shares_101 ?_
          refine lv_aload_n hx hb dX6_shares_102 rfl (lv_at hl 0 rfl) ?_
          refine va_get (D := (dC, dI)) (ci := 6) (v := .ref (a 17)) (C := RX6) (T := TX6) (N := 26) hx hb hts kX6_shares_X6 hown hK hP 0 rfl rfl 22 (by decide) (hts _ mX6_shares_4) (fun _ h9 => h9) rfl dX6_shares_103 ?_
          refine lv_iload_n hx hb dX6_shares_106 rfl (lv_at hl 2 rfl) ?_
          obtain ⟨hi19, hf⟩ := it_s hf
          refine va_iald hx hb hK hP 17 0 rfl rfl (inb_in hi19) dX6_shares_107 ?_
          refine lv_i2l hx hb dX6_shares_108 rfl ?_
          refine lv_aload_n hx hb dX6_shares_109 rfl (lv_at hl 0 rfl) ?_
          refine va_get (D := (dC, dI)) (ci := 6) (v := .ref (a 17)) (C := RX6) (T := TX6) (N := 26) hx hb hts kX6_shares_X6 hown hK hP 0 rfl rfl 22 (by decide) (hts _ mX6_shares_4) (fun _ h9 => h9) rfl dX6_shares_110 ?_
          refine lv_bipush (v := (10 : Int32)) hx hb dX6_shares_113 (by decide) ?_
          refine lv_iload_n hx hb dX6_shares_115 rfl (lv_at hl 2 rfl) ?_
          refine lv_imul hx hb dX6_shares_116 ?_
          refine lv_iload hx hb dX6_shares_117 (lv_at hl 3 rfl) ?_
          refine lv_iadd hx hb dX6_shares_119 ?_
          obtain ⟨hi20, hf⟩ := it_s hf
          refine va_iald hx hb hK hP 17 0 rfl rfl (inb_in hi20) dX6_shares_120 ?_
          refine lv_i2l hx hb dX6_shares_121 rfl ?_
          refine lv_lmul hx hb dX6_shares_122 ?_
          refine lv_aload_n hx hb dX6_shares_123 rfl (lv_at hl 0 rfl) ?_
          refine va_get (D := (dC, dI)) (ci := 6) (v := .ref (a 17)) (C := RX6) (T := TX6) (N := 26) hx hb hts kX6_shares_X6 hown hK hP 0 rfl rfl 22 (by decide) (hts _ mX6_shares_4) (fun _ h9 => h9) rfl dX6_shares_124 ?_
          refine lv_bipush (v := (10 : Int32)) hx hb dX6_shares_127 (by decide) ?_
          refine lv_iload hx hb dX6_shares_129 (lv_at hl 3 rfl) ?_
          refine lv_imul hx hb dX6_shares_131 ?_
          refine lv_iload_n hx hb dX6_shares_132 rfl (lv_at hl 1 rfl) ?_
          refine lv_iadd hx hb dX6_shares_133 ?_
          obtain ⟨hi21, hf⟩ := it_s hf
          refine va_iald hx hb hK hP 17 0 rfl rfl (inb_in hi21) dX6_shares_134 ?_
          refine lv_i2l hx hb dX6_shares_135 rfl ?_
          refine lv_lmul hx hb dX6_shares_136 ?_
          refine lv_ladd hx hb dX6_shares_137 ?_
          obtain ⟨hi22, hf⟩ := it_s hf
          refine va_last hx hb hK hP hD hS 18 1 rfl rfl (inb_in hi22) dX6_shares_138 (fun H locs hP hD hS => ?_)
          obtain ⟨s23, hs24, hf⟩ := bnd_e hf
          replace hP := putP_share hs24 hP
          replace hD := putD_share hs24 hD
          refine lv_iinc (v := (x4 + (1 : Int32))) (lv' := [(4, .int (x4 + (1 : Int32))), (0, .ref (a 0)), (2, .int x2), (3, .int x3)]) hx hb dX6_shares_139 hl (k := 3) rfl rfl (by decide) rfl (fun ls hl => ?_)
          refine lv_goto (tgt := 88) hx hb dX6_shares_142 (by decide) ?_
          obtain rfl := Option.some.inj hf
          exact kc _ rfl H locs ls ⟨hP, hD, hS⟩ (lv_sub hl [1, 2, 3, 0] rfl)
      refine loop_ind (P := fun s0 => ∀ (H : Heap) (locs : List Loc) (ls : Array Slot), IN (dC, dI) (WX6 a b cI cJ cZ s0.1) A s.heap H locs → lv_has ls 5 [(0, .ref (a 0)), (2, .int x2), (3, .int s0.2)] → W p l e (headSpec wsX6_shares rX6_shares).room s m args below meth c H locs 0 0 QQ (F0 m 42 ls [])) (Q := fun r => ∀ (H : Heap) (locs : List Loc) (ls : Array Slot), IN (dC, dI) (WX6 a b cI cJ cZ r.1) A s.heap H locs → lv_has ls 5 [(0, .ref (a 0)), (2, .int x2), (3, .int r.2)] → W p l e (headSpec wsX6_shares rX6_shares).room s m args below meth c H locs 0 0 QQ (F0 m 151 ls [])) ?_ fu s0 r
      clear fu s0 r
      rintro ⟨st, x3⟩ x hf kc ke
      replace hf : fX6_shares_l42 x2 st x3 = some x := hf
      replace kc : (∀ s', x = .inl s' → (∀ (H : Heap) (locs : List Loc) (ls : Array Slot), IN (dC, dI) (WX6 a b cI cJ cZ s'.1) A s.heap H locs → lv_has ls 5 [(0, .ref (a 0)), (2, .int x2), (3, .int s'.2)] → W p l e (headSpec wsX6_shares rX6_shares).room s m args below meth c H locs 0 0 QQ (F0 m 42 ls []))) := kc
      replace ke : (∀ r, x = .inr r → (∀ (H : Heap) (locs : List Loc) (ls : Array Slot), IN (dC, dI) (WX6 a b cI cJ cZ r.1) A s.heap H locs → lv_has ls 5 [(0, .ref (a 0)), (2, .int x2), (3, .int r.2)] → W p l e (headSpec wsX6_shares rX6_shares).room s m args below meth c H locs 0 0 QQ (F0 m 151 ls []))) := ke
      intro H locs ls hin hl
      obtain ⟨hP, hD, hS⟩ := hin
      unfold fX6_shares_l42 at hf
      refine lv_iload_n hx hb dX6_shares_42 rfl (lv_at hl 2 rfl) ?_
      refine lv_bipush (v := (10 : Int32)) hx hb dX6_shares_43 (by decide) ?_
      refine lv_icmp_ge (tgt := 151) hx hb dX6_shares_45 (by decide) (fun c9 => ?_) (fun c9 => ?_)
      · replace hf := it_p c9 hf
        obtain rfl := Option.some.inj hf
        exact ke _ rfl H locs ls ⟨hP, hD, hS⟩ (lv_sub hl [0, 1, 2] rfl)
      · replace hf := it_n c9 hf
        refine lv_iload_n hx hb dX6_shares_48 rfl (lv_at hl 1 rfl) ?_
        refine lv_if_le (tgt := 151) hx hb dX6_shares_49 (by decide) (fun c10 => ?_) (fun c10 => ?_)
        · replace hf := it_p c10 hf
          obtain rfl := Option.some.inj hf
          exact ke _ rfl H locs ls ⟨hP, hD, hS⟩ (lv_sub hl [0, 1, 2] rfl)
        · replace hf := it_n c10 hf
          refine lv_aload_n hx hb dX6_shares_52 rfl (lv_at hl 0 rfl) ?_
          refine va_get (D := (dC, dI)) (ci := 6) (v := .ref (a 18)) (C := RX6) (T := TX6) (N := 26) hx hb hts kX6_shares_X6 hown hK hP 0 rfl rfl 23 (by decide) (hts _ mX6_shares_1) (fun _ h9 => h9) rfl dX6_shares_53 ?_
          refine lv_iload_n hx hb dX6_shares_56 rfl (lv_at hl 1 rfl) ?_
          refine lv_dup2_11 hx hb dX6_shares_57 rfl rfl ?_
          obtain ⟨hi11, hf⟩ := it_s hf
          refine va_lald hx hb hK hP 18 1 rfl rfl (inb_in hi11) dX6_shares_58 ?_
          refine lv_ldc2 (v := (100 : Int64)) hx hb hown (hts _ mX6_shares_5) dX6_shares_59 ?_
          refine lv_aload_n hx hb dX6_shares_62 rfl (lv_at hl 0 rfl) ?_
          refine va_get (D := (dC, dI)) (ci := 6) (v := .ref (a 17)) (C := RX6) (T := TX6) (N := 26) hx hb hts kX6_shares_X6 hown hK hP 0 rfl rfl 22 (by decide) (hts _ mX6_shares_4) (fun _ h9 => h9) rfl dX6_shares_63 ?_
          refine lv_iload_n hx hb dX6_shares_66 rfl (lv_at hl 2 rfl) ?_
          obtain ⟨hi12, hf⟩ := it_s hf
          refine va_iald hx hb hK hP 17 0 rfl rfl (inb_in hi12) dX6_shares_67 ?_
          refine lv_i2l hx hb dX6_shares_68 rfl ?_
          refine lv_lmul hx hb dX6_shares_69 ?_
          refine lv_aload_n hx hb dX6_shares_70 rfl (lv_at hl 0 rfl) ?_
          refine va_get (D := (dC, dI)) (ci := 6) (v := .ref (a 17)) (C := RX6) (T := TX6) (N := 26) hx hb hts kX6_shares_X6 hown hK hP 0 rfl rfl 22 (by decide) (hts _ mX6_shares_4) (fun _ h9 => h9) rfl dX6_shares_71 ?_
          refine lv_bipush (v := (10 : Int32)) hx hb dX6_shares_74 (by decide) ?_
          refine lv_iload_n hx hb dX6_shares_76 rfl (lv_at hl 2 rfl) ?_
          refine lv_imul hx hb dX6_shares_77 ?_
          refine lv_iload_n hx hb dX6_shares_78 rfl (lv_at hl 1 rfl) ?_
          refine lv_iadd hx hb dX6_shares_79 ?_
          obtain ⟨hi13, hf⟩ := it_s hf
          refine va_iald hx hb hK hP 17 0 rfl rfl (inb_in hi13) dX6_shares_80 ?_
          refine lv_i2l hx hb dX6_shares_81 rfl ?_
          refine lv_lmul hx hb dX6_shares_82 ?_
          refine lv_ladd hx hb dX6_shares_83 ?_
          obtain ⟨hi14, hf⟩ := it_s hf
          refine va_last hx hb hK hP hD hS 18 1 rfl rfl (inb_in hi14) dX6_shares_84 (fun H locs hP hD hS => ?_)
          obtain ⟨s15, hs16, hf⟩ := bnd_e hf
          replace hP := putP_share hs16 hP
          replace hD := putD_share hs16 hD
          refine lv_iconst (v := (1 : Int32)) hx hb dX6_shares_85 (by decide) ?_
          refine lv_istore (lv' := [(4, .int (1 : Int32)), (0, .ref (a 0)), (2, .int x2), (3, .int x3)]) hx hb dX6_shares_86 hl (by decide) rfl (fun ls hl => ?_)
          obtain ⟨y25, hlp, hf⟩ := bind_s hf
          refine l88 x2 x3 fuelN (s15, (1 : Int32)) y25 hlp ?_ H locs ls ⟨hP, hD, hS⟩ (lv_sub hl [1, 2, 3, 0] rfl)
          intro H locs ls hin hl
          obtain ⟨hP, hD, hS⟩ := hin
          refine lv_iinc (v := (x3 + (1 : Int32))) (lv' := [(3, .int (x3 + (1 : Int32))), (0, .ref (a 0)), (2, .int x2), (4, .int y25.2)]) hx hb dX6_shares_145 hl (k := 2) rfl rfl (by decide) rfl (fun ls hl => ?_)
          refine lv_goto (tgt := 42) hx hb dX6_shares_148 (by decide) ?_
          obtain rfl := Option.some.inj hf
          exact kc _ rfl H locs ls ⟨hP, hD, hS⟩ (lv_sub hl [1, 2, 0] rfl)
    have b39 : ∀ (st : MS) (x2 : Int32) (k1 : Int32) (k2 : Int64) (x : (MS × Int32) ⊕ (MS × Int32)), fX6_shares_b39 st x2 k1 k2 = some x → (∀ s', x = .inl s' → (∀ (H : Heap) (locs : List Loc) (ls : Array Slot), IN (dC, dI) (WX6 a b cI cJ cZ s'.1) A s.heap H locs → lv_has ls 5 [(0, .ref (a 0)), (2, .int s'.2)] → W p l e (headSpec wsX6_shares rX6_shares).room s m args below meth c H locs 0 0 QQ (F0 m 7 ls []))) → (∀ r, x = .inr r → (∀ (H : Heap) (locs : List Loc) (ls : Array Slot), IN (dC, dI) (WX6 a b cI cJ cZ r.1) A s.heap H locs → lv_has ls 5 [(0, .ref (a 0)), (2, .int r.2)] → W p l e (headSpec wsX6_shares rX6_shares).room s m args below meth c H locs 0 0 QQ (F0 m 157 ls []))) → (∀ (H : Heap) (locs : List Loc) (ls : Array Slot), IN (dC, dI) (WX6 a b cI cJ cZ st) A s.heap H locs → lv_has ls 5 [(0, .ref (a 0)), (2, .int x2)] → W p l e (headSpec wsX6_shares rX6_shares).room s m args below meth c H locs 0 0 QQ (F0 m 39 ls [.long k2, .int k1, .ref (a 18)])) := by
      intro st x2 k1 k2 x hf kc ke
      intro H locs ls hin hl
      obtain ⟨hP, hD, hS⟩ := hin
      unfold fX6_shares_b39 at hf
      obtain ⟨hi6, hf⟩ := it_s hf
      refine va_last hx hb hK hP hD hS 18 1 rfl rfl (inb_in hi6) dX6_shares_39 (fun H locs hP hD hS => ?_)
      obtain ⟨s7, hs8, hf⟩ := bnd_e hf
      replace hP := putP_share hs8 hP
      replace hD := putD_share hs8 hD
      refine lv_iconst (v := (1 : Int32)) hx hb dX6_shares_40 (by decide) ?_
      refine lv_istore_n (lv' := [(3, .int (1 : Int32)), (0, .ref (a 0)), (2, .int x2)]) hx hb dX6_shares_41 rfl hl (by decide) rfl (fun ls hl => ?_)
      obtain ⟨y26, hlp, hf⟩ := bind_s hf
      refine l42 x2 fuelN (s7, (1 : Int32)) y26 hlp ?_ H locs ls ⟨hP, hD, hS⟩ (lv_sub hl [1, 2, 0] rfl)
      intro H locs ls hin hl
      obtain ⟨hP, hD, hS⟩ := hin
      refine lv_iinc (v := (x2 + (1 : Int32))) (lv' := [(2, .int (x2 + (1 : Int32))), (0, .ref (a 0)), (3, .int y26.2)]) hx hb dX6_shares_151 hl (k := 1) rfl rfl (by decide) rfl (fun ls hl => ?_)
      refine lv_goto (tgt := 7) hx hb dX6_shares_154 (by decide) ?_
      obtain rfl := Option.some.inj hf
      exact kc _ rfl H locs ls ⟨hP, hD, hS⟩ (lv_sub hl [1, 0] rfl)
    refine loop_ind (P := fun s0 => ∀ (H : Heap) (locs : List Loc) (ls : Array Slot), IN (dC, dI) (WX6 a b cI cJ cZ s0.1) A s.heap H locs → lv_has ls 5 [(0, .ref (a 0)), (2, .int s0.2)] → W p l e (headSpec wsX6_shares rX6_shares).room s m args below meth c H locs 0 0 QQ (F0 m 7 ls [])) (Q := fun r => ∀ (H : Heap) (locs : List Loc) (ls : Array Slot), IN (dC, dI) (WX6 a b cI cJ cZ r.1) A s.heap H locs → lv_has ls 5 [(0, .ref (a 0)), (2, .int r.2)] → W p l e (headSpec wsX6_shares rX6_shares).room s m args below meth c H locs 0 0 QQ (F0 m 157 ls [])) ?_ fu s0 r
    clear fu s0 r
    rintro ⟨st, x2⟩ x hf kc ke
    replace hf : fX6_shares_l7 st x2 = some x := hf
    replace kc : (∀ s', x = .inl s' → (∀ (H : Heap) (locs : List Loc) (ls : Array Slot), IN (dC, dI) (WX6 a b cI cJ cZ s'.1) A s.heap H locs → lv_has ls 5 [(0, .ref (a 0)), (2, .int s'.2)] → W p l e (headSpec wsX6_shares rX6_shares).room s m args below meth c H locs 0 0 QQ (F0 m 7 ls []))) := kc
    replace ke : (∀ r, x = .inr r → (∀ (H : Heap) (locs : List Loc) (ls : Array Slot), IN (dC, dI) (WX6 a b cI cJ cZ r.1) A s.heap H locs → lv_has ls 5 [(0, .ref (a 0)), (2, .int r.2)] → W p l e (headSpec wsX6_shares rX6_shares).room s m args below meth c H locs 0 0 QQ (F0 m 157 ls []))) := ke
    intro H locs ls hin hl
    obtain ⟨hP, hD, hS⟩ := hin
    unfold fX6_shares_l7 at hf
    refine lv_iload_n hx hb dX6_shares_7 rfl (lv_at hl 1 rfl) ?_
    refine lv_bipush (v := (10 : Int32)) hx hb dX6_shares_8 (by decide) ?_
    refine lv_icmp_ge (tgt := 157) hx hb dX6_shares_10 (by decide) (fun c3 => ?_) (fun c3 => ?_)
    · replace hf := it_p c3 hf
      obtain rfl := Option.some.inj hf
      exact ke _ rfl H locs ls ⟨hP, hD, hS⟩ (lv_sub hl [0, 1] rfl)
    · replace hf := it_n c3 hf
      refine lv_aload_n hx hb dX6_shares_13 rfl (lv_at hl 0 rfl) ?_
      refine va_get (D := (dC, dI)) (ci := 6) (v := .ref (a 18)) (C := RX6) (T := TX6) (N := 26) hx hb hts kX6_shares_X6 hown hK hP 0 rfl rfl 23 (by decide) (hts _ mX6_shares_1) (fun _ h9 => h9) rfl dX6_shares_14 ?_
      refine lv_iload_n hx hb dX6_shares_17 rfl (lv_at hl 1 rfl) ?_
      refine lv_iload_n hx hb dX6_shares_18 rfl (lv_at hl 1 rfl) ?_
      refine lv_if_ne (tgt := 28) hx hb dX6_shares_19 (by decide) (fun c4 => ?_) (fun c4 => ?_)
      · replace hf := it_n c4 hf
        refine lv_ldc2 (v := (10000 : Int64)) hx hb hown (hts _ mX6_shares_3) dX6_shares_28 ?_
        refine lv_aload_n hx hb dX6_shares_31 rfl (lv_at hl 0 rfl) ?_
        refine va_get (D := (dC, dI)) (ci := 6) (v := .ref (a 17)) (C := RX6) (T := TX6) (N := 26) hx hb hts kX6_shares_X6 hown hK hP 0 rfl rfl 22 (by decide) (hts _ mX6_shares_4) (fun _ h9 => h9) rfl dX6_shares_32 ?_
        refine lv_iload_n hx hb dX6_shares_35 rfl (lv_at hl 1 rfl) ?_
        obtain ⟨hi5, hf⟩ := it_s hf
        refine va_iald hx hb hK hP 17 0 rfl rfl (inb_in hi5) dX6_shares_36 ?_
        refine lv_i2l hx hb dX6_shares_37 rfl ?_
        refine lv_lmul hx hb dX6_shares_38 ?_
        exact b39 st x2 x2 ((10000 : Int64) * (Int32.toInt64 ((MS_held st) (x2).toNatClampNeg))) _ hf kc ke H locs ls ⟨hP, hD, hS⟩ (lv_sub hl [0, 1] rfl)
      · replace hf := it_p c4 hf
        refine lv_ldc2 (v := (1000000 : Int64)) hx hb hown (hts _ mX6_shares_2) dX6_shares_22 ?_
        refine lv_goto (tgt := 39) hx hb dX6_shares_25 (by decide) ?_
        exact b39 st x2 x2 (1000000 : Int64) _ hf kc ke H locs ls ⟨hP, hD, hS⟩ (lv_sub hl [0, 1] rfl)
  have main : ∀ (H : Heap) (locs : List Loc) (ls : Array Slot), IN (dC, dI) (WX6 a b cI cJ cZ st) A s.heap H locs → lv_has ls 5 [(0, .ref (a 0)), (1, .int x1)] → W p l e (headSpec wsX6_shares rX6_shares).room s m args below meth c H locs 0 0 QQ (F0 m 0 ls []) := by
    intro H locs ls hin hl
    obtain ⟨hP, hD, hS⟩ := hin
    unfold fX6_shares at hf
    refine lv_aload_n hx hb dX6_shares_0 rfl (lv_at hl 0 rfl) ?_
    refine lv_iload_n hx hb dX6_shares_1 rfl (lv_at hl 1 rfl) ?_
    obtain ⟨p1, hc2, hf⟩ := bind_s hf
    refine cmV (wr := []) ⟨hx, hb, hml, hown, hts⟩ (ct_X6_lay l dC dI a b cI cJ cZ H.size st x1 p1 hc2) (cwV 1 hts gX6_shares_X6_lay rfl rfl rfl (by decide +kernel) ⟨(Nat.le_of_ble_eq_true rfl), (Nat.le_of_ble_eq_true rfl)⟩) hK hP hD hS hA [0, 1, 2, 3, 4, 5, 6, 7, 8, 9, 10, 11, 12, 13, 14, 15, 16, 17, 18, 19, 20] [] rfl rfl (by decide) rfl (by decide) (by decide) rfl rfl rfl hl.1 rfl (Nat.le_of_ble_eq_true rfl) (Nat.le_of_ble_eq_true rfl) (Nat.le_of_ble_eq_true rfl) dX6_shares_2 (fun H locs hP hD hS => ?_)
    replace hP : va_P (dC, dI) vwCl (WX6 a b cI cJ cZ p1) H := hP
    replace hD : va_D A (WX6 a b cI cJ cZ p1) := hD
    refine W.eq (g2 := F0 m 5 ls []) rfl ?_
    refine lv_iconst (v := (0 : Int32)) hx hb dX6_shares_5 (by decide) ?_
    refine lv_istore_n (lv' := [(2, .int (0 : Int32)), (0, .ref (a 0)), (1, .int x1)]) hx hb dX6_shares_6 rfl hl (by decide) rfl (fun ls hl => ?_)
    obtain ⟨y27, hlp, hf⟩ := bind_s hf
    refine l7 fuelN (p1, (0 : Int32)) y27 hlp ?_ H locs ls ⟨hP, hD, hS⟩ (lv_sub hl [1, 0] rfl)
    intro H locs ls hin hl
    obtain ⟨hP, hD, hS⟩ := hin
    obtain rfl := Option.some.inj hf
    rw [hQ]
    exact W.vret hx hb hr (fun t ht hW => ⟨rfl, ⟨by rw [ht]; exact hP, hD⟩, hS.F ht⟩) hS.2.2 dX6_shares_157
  exact main s.heap [] ls ⟨hP, hD, va_S.rf⟩ hl
