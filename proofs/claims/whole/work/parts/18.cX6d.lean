def rX6_hold : Room := { frames := 2, cells := 0, slots := 0, locals := 46 }
theorem kX6_hold_X6 : ∀ w ∈ wsX60, w ∈ wsX6_hold := fun w h => (List.mem_cons_of_mem _ (List.mem_append_right _ h))
theorem mX6_hold_1 : Cond.fieldLink RX6 76 "SmokeLedgerModel" "thrown" "I" ∈ wsX6_hold := List.mem_of_getElem? (i := 1) rfl
theorem mX6_hold_2 : Cond.constantLong RX6 104 (100) ∈ wsX6_hold := List.mem_of_getElem? (i := 2) rfl
theorem mX6_hold_3 : Cond.fieldLink RX6 62 "SmokeLedgerModel" "held" "[I" ∈ wsX6_hold := List.mem_of_getElem? (i := 3) rfl
theorem mX6_hold_4 : Cond.fieldLink RX6 93 "SmokeLedgerModel" "holdings" "I" ∈ wsX6_hold := List.mem_of_getElem? (i := 4) rfl
theorem mX6_hold_5 : Cond.fieldLink RX6 13 "SmokeLedgerModel" "who" "[I" ∈ wsX6_hold := List.mem_of_getElem? (i := 5) rfl
theorem mX6_hold_6 : Cond.fieldLink RX6 17 "SmokeLedgerModel" "whom" "[I" ∈ wsX6_hold := List.mem_of_getElem? (i := 6) rfl
theorem mX6_hold_7 : Cond.fieldLink RX6 23 "SmokeLedgerModel" "since" "[I" ∈ wsX6_hold := List.mem_of_getElem? (i := 7) rfl
theorem mX6_hold_8 : Cond.fieldLink RX6 20 "SmokeLedgerModel" "part" "[I" ∈ wsX6_hold := List.mem_of_getElem? (i := 8) rfl
set_option maxHeartbeats 4000000 in
set_option maxRecDepth 100000 in
theorem ct_X6_hold (l : Launch) (dC : Nat → ClassId) (dI : Nat → Nat → Nat) (a b : Nat → Nat) (cI cJ cZ : ClassId) (sz : Nat) (st : MS) (x1 : Int32) (x2 : Int32) (x3 : Int32) (x4 : Int32) (res : Int32 × MS) (hf : fX6_hold st x1 x2 x3 x4 = some res) : Met l yX6_hold wsX6_hold rX6_hold (Pm (dC, dI) (tyT cI cJ cZ) (WX6 a b cI cJ cZ st) sz [.ref (a 0), .int x1, .int x2, .int x3, .int x4]) (Qm (dC, dI) (some (.int res.1)) (WX6 a b cI cJ cZ res.2) (va_A (WX6 a b cI cJ cZ st) sz)) 0 0 (va_A (WX6 a b cI cJ cZ st) sz) := by
  refine Met.ofW (cc := cX6_hold) (maxL := 8) (ret := (some .int)) (by decide) rfl ?_
  intro p e s m args below meth c s₁ B hml hv
  obtain ⟨hargs, hsz, hP, hK, hD0⟩ := hv
  have hx := B.exec
  have hb := B.bytes
  have hr := B.returns
  have hts := atoms_spec (ws := wsX6_hold) B.pre
  have hown : s.vm.findClass RX6 = some m.cls := findClass_of_methodNamed B.named
  have hlocks := B.notSynchronized
  subst hsz
  have hD := hD0.self (sz := s.heap.size)
  generalize hAe : va_A (WX6 a b cI cJ cZ st) s.heap.size = A at hD ⊢
  have hA : ∀ q : Nat, s.heap.size ≤ q → A q := fun q h => by rw [← hAe]; exact Or.inr h
  have hl := lv_entry ([.ref (a 0), .int x1, .int x2, .int x3, .int x4]) (n := 8) (Nat.le_of_ble_eq_true rfl)
  refine W.eq (hargs ▸ lg_entry_eq m [.ref (a 0), .int x1, .int x2, .int x3, .int x4] 8) ?_
  generalize (lg_sl ([.ref (a 0), .int x1, .int x2, .int x3, .int x4]) ++ List.replicate (8 - (lg_sl ([.ref (a 0), .int x1, .int x2, .int x3, .int x4])).length) Slot.unset).toArray = ls at hl ⊢
  have hl : lv_has ls 8 [(0, .ref (a 0)), (1, .int x1), (2, .int x2), (3, .int x3), (4, .int x4)] := hl
  obtain ⟨QQ, hQ⟩ : ∃ QQ : State → Prop, QQ = MQ below (Qm (dC, dI) (some (.int res.1)) (WX6 a b cI cJ cZ res.2) A) args s 0 0 (A) := ⟨_, rfl⟩
  rw [← hQ]
  have l95 : ∀ (st : MS) (x1 : Int32) (x2 : Int32) (x3 : Int32) (x4 : Int32) (x5 : Int32) (fu : Nat) (s0 : Int32 × Int32) (r : Int32 × Int32), loopN (fun (s : Int32 × Int32) => fX6_hold_l95 st x1 x2 x3 x4 x5 s.1 s.2) fu s0 = some r → (∀ (H : Heap) (locs : List Loc) (ls : Array Slot), IN (dC, dI) (WX6 a b cI cJ cZ st) A s.heap H locs → lv_has ls 8 [(0, .ref (a 0)), (1, .int x1), (2, .int x2), (3, .int x3), (4, .int x4), (5, .int x5), (6, .int r.1), (7, .int r.2)] → W p l e (headSpec wsX6_hold rX6_hold).room s m args below meth c H locs 0 0 QQ (F0 m 153 ls [])) → (∀ (H : Heap) (locs : List Loc) (ls : Array Slot), IN (dC, dI) (WX6 a b cI cJ cZ st) A s.heap H locs → lv_has ls 8 [(0, .ref (a 0)), (1, .int x1), (2, .int x2), (3, .int x3), (4, .int x4), (5, .int x5), (6, .int s0.1), (7, .int s0.2)] → W p l e (headSpec wsX6_hold rX6_hold).room s m args below meth c H locs 0 0 QQ (F0 m 95 ls [])) := by
    intro st x1 x2 x3 x4 x5 fu s0 r
    have b145 : ∀ (st : MS) (x1 : Int32) (x2 : Int32) (x3 : Int32) (x4 : Int32) (x5 : Int32) (x7 : Int32) (k0 : Int32) (x : (Int32 × Int32) ⊕ (Int32 × Int32)), fX6_hold_b145 st x1 x2 x3 x4 x5 x7 k0 = some x → (∀ s', x = .inl s' → (∀ (H : Heap) (locs : List Loc) (ls : Array Slot), IN (dC, dI) (WX6 a b cI cJ cZ st) A s.heap H locs → lv_has ls 8 [(0, .ref (a 0)), (1, .int x1), (2, .int x2), (3, .int x3), (4, .int x4), (5, .int x5), (6, .int s'.1), (7, .int s'.2)] → W p l e (headSpec wsX6_hold rX6_hold).room s m args below meth c H locs 0 0 QQ (F0 m 95 ls []))) → (∀ r, x = .inr r → (∀ (H : Heap) (locs : List Loc) (ls : Array Slot), IN (dC, dI) (WX6 a b cI cJ cZ st) A s.heap H locs → lv_has ls 8 [(0, .ref (a 0)), (1, .int x1), (2, .int x2), (3, .int x3), (4, .int x4), (5, .int x5), (6, .int r.1), (7, .int r.2)] → W p l e (headSpec wsX6_hold rX6_hold).room s m args below meth c H locs 0 0 QQ (F0 m 153 ls []))) → (∀ (H : Heap) (locs : List Loc) (ls : Array Slot), IN (dC, dI) (WX6 a b cI cJ cZ st) A s.heap H locs → lv_has ls 8 [(0, .ref (a 0)), (1, .int x1), (2, .int x2), (3, .int x3), (4, .int x4), (5, .int x5), (7, .int x7)] → W p l e (headSpec wsX6_hold rX6_hold).room s m args below meth c H locs 0 0 QQ (F0 m 145 ls [.int k0])) := by
      intro st x1 x2 x3 x4 x5 x7 k0 x hf kc ke
      intro H locs ls hin hl
      obtain ⟨hP, hD, hS⟩ := hin
      unfold fX6_hold_b145 at hf
      refine lv_istore (lv' := [(6, .int k0), (0, .ref (a 0)), (1, .int x1), (2, .int x2), (3, .int x3), (4, .int x4), (5, .int x5), (7, .int x7)]) hx hb dX6_hold_145 hl (by decide) rfl (fun ls hl => ?_)
      refine lv_iinc (v := (x7 + (1 : Int32))) (lv' := [(7, .int (x7 + (1 : Int32))), (6, .int k0), (0, .ref (a 0)), (1, .int x1), (2, .int x2), (3, .int x3), (4, .int x4), (5, .int x5)]) hx hb dX6_hold_147 hl (k := 7) rfl rfl (by decide) rfl (fun ls hl => ?_)
      refine lv_goto (tgt := 95) hx hb dX6_hold_150 (by decide) ?_
      obtain rfl := Option.some.inj hf
      exact kc _ rfl H locs ls ⟨hP, hD, hS⟩ (lv_sub hl [2, 3, 4, 5, 6, 7, 1, 0] rfl)
    have b143 : ∀ (st : MS) (x1 : Int32) (x2 : Int32) (x3 : Int32) (x4 : Int32) (x5 : Int32) (x6 : Int32) (x7 : Int32) (x : (Int32 × Int32) ⊕ (Int32 × Int32)), fX6_hold_b143 st x1 x2 x3 x4 x5 x6 x7 = some x → (∀ s', x = .inl s' → (∀ (H : Heap) (locs : List Loc) (ls : Array Slot), IN (dC, dI) (WX6 a b cI cJ cZ st) A s.heap H locs → lv_has ls 8 [(0, .ref (a 0)), (1, .int x1), (2, .int x2), (3, .int x3), (4, .int x4), (5, .int x5), (6, .int s'.1), (7, .int s'.2)] → W p l e (headSpec wsX6_hold rX6_hold).room s m args below meth c H locs 0 0 QQ (F0 m 95 ls []))) → (∀ r, x = .inr r → (∀ (H : Heap) (locs : List Loc) (ls : Array Slot), IN (dC, dI) (WX6 a b cI cJ cZ st) A s.heap H locs → lv_has ls 8 [(0, .ref (a 0)), (1, .int x1), (2, .int x2), (3, .int x3), (4, .int x4), (5, .int x5), (6, .int r.1), (7, .int r.2)] → W p l e (headSpec wsX6_hold rX6_hold).room s m args below meth c H locs 0 0 QQ (F0 m 153 ls []))) → (∀ (H : Heap) (locs : List Loc) (ls : Array Slot), IN (dC, dI) (WX6 a b cI cJ cZ st) A s.heap H locs → lv_has ls 8 [(0, .ref (a 0)), (1, .int x1), (2, .int x2), (3, .int x3), (4, .int x4), (5, .int x5), (6, .int x6), (7, .int x7)] → W p l e (headSpec wsX6_hold rX6_hold).room s m args below meth c H locs 0 0 QQ (F0 m 143 ls [])) := by
      intro st x1 x2 x3 x4 x5 x6 x7 x hf kc ke
      intro H locs ls hin hl
      obtain ⟨hP, hD, hS⟩ := hin
      unfold fX6_hold_b143 at hf
      refine lv_iload hx hb dX6_hold_143 (lv_at hl 6 rfl) ?_
      exact b145 st x1 x2 x3 x4 x5 x7 x6 _ hf kc ke H locs ls ⟨hP, hD, hS⟩ (lv_sub hl [0, 1, 2, 3, 4, 5, 7] rfl)
    refine loop_ind (P := fun s0 => ∀ (H : Heap) (locs : List Loc) (ls : Array Slot), IN (dC, dI) (WX6 a b cI cJ cZ st) A s.heap H locs → lv_has ls 8 [(0, .ref (a 0)), (1, .int x1), (2, .int x2), (3, .int x3), (4, .int x4), (5, .int x5), (6, .int s0.1), (7, .int s0.2)] → W p l e (headSpec wsX6_hold rX6_hold).room s m args below meth c H locs 0 0 QQ (F0 m 95 ls [])) (Q := fun r => ∀ (H : Heap) (locs : List Loc) (ls : Array Slot), IN (dC, dI) (WX6 a b cI cJ cZ st) A s.heap H locs → lv_has ls 8 [(0, .ref (a 0)), (1, .int x1), (2, .int x2), (3, .int x3), (4, .int x4), (5, .int x5), (6, .int r.1), (7, .int r.2)] → W p l e (headSpec wsX6_hold rX6_hold).room s m args below meth c H locs 0 0 QQ (F0 m 153 ls [])) ?_ fu s0 r
    clear fu s0 r
    rintro ⟨x6, x7⟩ x hf kc ke
    replace hf : fX6_hold_l95 st x1 x2 x3 x4 x5 x6 x7 = some x := hf
    replace kc : (∀ s', x = .inl s' → (∀ (H : Heap) (locs : List Loc) (ls : Array Slot), IN (dC, dI) (WX6 a b cI cJ cZ st) A s.heap H locs → lv_has ls 8 [(0, .ref (a 0)), (1, .int x1), (2, .int x2), (3, .int x3), (4, .int x4), (5, .int x5), (6, .int s'.1), (7, .int s'.2)] → W p l e (headSpec wsX6_hold rX6_hold).room s m args below meth c H locs 0 0 QQ (F0 m 95 ls []))) := kc
    replace ke : (∀ r, x = .inr r → (∀ (H : Heap) (locs : List Loc) (ls : Array Slot), IN (dC, dI) (WX6 a b cI cJ cZ st) A s.heap H locs → lv_has ls 8 [(0, .ref (a 0)), (1, .int x1), (2, .int x2), (3, .int x3), (4, .int x4), (5, .int x5), (6, .int r.1), (7, .int r.2)] → W p l e (headSpec wsX6_hold rX6_hold).room s m args below meth c H locs 0 0 QQ (F0 m 153 ls []))) := ke
    intro H locs ls hin hl
    obtain ⟨hP, hD, hS⟩ := hin
    unfold fX6_hold_l95 at hf
    refine lv_iload hx hb dX6_hold_95 (lv_at hl 7 rfl) ?_
    refine lv_aload_n hx hb dX6_hold_97 rfl (lv_at hl 0 rfl) ?_
    refine va_get (D := (dC, dI)) (ci := 6) (v := .int (MS_holdings st)) (C := RX6) (T := TX6) (N := 26) hx hb hts kX6_hold_X6 hown hK hP 0 rfl rfl 2 (by decide) (hts _ mX6_hold_4) (fun _ h9 => h9) rfl dX6_hold_98 ?_
    refine lv_icmp_ge (tgt := 153) hx hb dX6_hold_101 (by decide) (fun c20 => ?_) (fun c20 => ?_)
    · replace hf := it_p c20 hf
      obtain rfl := Option.some.inj hf
      exact ke _ rfl H locs ls ⟨hP, hD, hS⟩ (lv_sub hl [0, 1, 2, 3, 4, 5, 6, 7] rfl)
    · replace hf := it_n c20 hf
      refine lv_aload_n hx hb dX6_hold_104 rfl (lv_at hl 0 rfl) ?_
      refine va_get (D := (dC, dI)) (ci := 6) (v := .ref (a 1)) (C := RX6) (T := TX6) (N := 26) hx hb hts kX6_hold_X6 hown hK hP 0 rfl rfl 3 (by decide) (hts _ mX6_hold_5) (fun _ h9 => h9) rfl dX6_hold_105 ?_
      refine lv_iload hx hb dX6_hold_108 (lv_at hl 7 rfl) ?_
      obtain ⟨hi21, hf⟩ := it_s hf
      refine va_iald hx hb hK hP 1 0 rfl rfl (inb_in hi21) dX6_hold_110 ?_
      refine lv_iload_n hx hb dX6_hold_111 rfl (lv_at hl 1 rfl) ?_
      refine lv_icmp_ne (tgt := 143) hx hb dX6_hold_112 (by decide) (fun c22 => ?_) (fun c22 => ?_)
      · replace hf := it_n c22 hf
        exact b143 st x1 x2 x3 x4 x5 x6 x7 _ hf kc ke H locs ls ⟨hP, hD, hS⟩ (lv_sub hl [0, 1, 2, 3, 4, 5, 6, 7] rfl)
      · replace hf := it_p c22 hf
        refine lv_aload_n hx hb dX6_hold_115 rfl (lv_at hl 0 rfl) ?_
        refine va_get (D := (dC, dI)) (ci := 6) (v := .ref (a 2)) (C := RX6) (T := TX6) (N := 26) hx hb hts kX6_hold_X6 hown hK hP 0 rfl rfl 4 (by decide) (hts _ mX6_hold_6) (fun _ h9 => h9) rfl dX6_hold_116 ?_
        refine lv_iload hx hb dX6_hold_119 (lv_at hl 7 rfl) ?_
        obtain ⟨hi23, hf⟩ := it_s hf
        refine va_iald hx hb hK hP 2 0 rfl rfl (inb_in hi23) dX6_hold_121 ?_
        refine lv_iload_n hx hb dX6_hold_122 rfl (lv_at hl 2 rfl) ?_
        refine lv_icmp_ne (tgt := 143) hx hb dX6_hold_123 (by decide) (fun c24 => ?_) (fun c24 => ?_)
        · replace hf := it_n c24 hf
          exact b143 st x1 x2 x3 x4 x5 x6 x7 _ hf kc ke H locs ls ⟨hP, hD, hS⟩ (lv_sub hl [0, 1, 2, 3, 4, 5, 6, 7] rfl)
        · replace hf := it_p c24 hf
          refine lv_aload_n hx hb dX6_hold_126 rfl (lv_at hl 0 rfl) ?_
          refine va_get (D := (dC, dI)) (ci := 6) (v := .ref (a 4)) (C := RX6) (T := TX6) (N := 26) hx hb hts kX6_hold_X6 hown hK hP 0 rfl rfl 6 (by decide) (hts _ mX6_hold_7) (fun _ h9 => h9) rfl dX6_hold_127 ?_
          refine lv_iload hx hb dX6_hold_130 (lv_at hl 7 rfl) ?_
          obtain ⟨hi25, hf⟩ := it_s hf
          refine va_iald hx hb hK hP 4 0 rfl rfl (inb_in hi25) dX6_hold_132 ?_
          refine lv_iload hx hb dX6_hold_133 (lv_at hl 4 rfl) ?_
          refine lv_icmp_ne (tgt := 143) hx hb dX6_hold_135 (by decide) (fun c26 => ?_) (fun c26 => ?_)
          · replace hf := it_n c26 hf
            exact b143 st x1 x2 x3 x4 x5 x6 x7 _ hf kc ke H locs ls ⟨hP, hD, hS⟩ (lv_sub hl [0, 1, 2, 3, 4, 5, 6, 7] rfl)
          · replace hf := it_p c26 hf
            refine lv_iload hx hb dX6_hold_138 (lv_at hl 7 rfl) ?_
            refine lv_goto (tgt := 145) hx hb dX6_hold_140 (by decide) ?_
            exact b145 st x1 x2 x3 x4 x5 x7 x7 _ hf kc ke H locs ls ⟨hP, hD, hS⟩ (lv_sub hl [0, 1, 2, 3, 4, 5, 7] rfl)
  have b219 : ∀ (st : MS) (x5 : Int32) (k1 : Int32), fX6_hold_b219 st x5 k1 = some res → (∀ (H : Heap) (locs : List Loc) (ls : Array Slot), IN (dC, dI) (WX6 a b cI cJ cZ st) A s.heap H locs → lv_has ls 8 [(5, .int x5)] → W p l e (headSpec wsX6_hold rX6_hold).room s m args below meth c H locs 0 0 QQ (F0 m 219 ls [.int k1, .ref (a 0)])) := by
    intro st x5 k1 hf
    intro H locs ls hin hl
    obtain ⟨hP, hD, hS⟩ := hin
    unfold fX6_hold_b219 at hf
    refine va_put (D := (dC, dI)) (ci := 6) (v := .int k1) (ty := .int) (C := RX6) (T := TX6) (N := 26) hx hb hts kX6_hold_X6 tyX6 tyX6_ok nmX6 hown hK hP hD hS 0 rfl rfl 2 (by decide) (hts _ mX6_hold_4) (fun _ h9 => h9) rfl (by decide +kernel) rfl rfl (Nat.le_of_ble_eq_true rfl) dX6_hold_219 (fun H locs hP hD hS => ?_)
    obtain ⟨s42, hs43, hf⟩ := bnd_e hf
    replace hP := putP_holdings hs43 hP
    replace hD := putD_holdings hs43 hD
    refine lv_iload hx hb dX6_hold_222 (lv_at hl 0 rfl) ?_
    obtain rfl := Option.some.inj hf
    rw [hQ]
    exact W.iret hx hb hr (fun t ht hW => ⟨rfl, ⟨by rw [ht]; exact hP, hD⟩, hS.F ht⟩) hS.2.2 dX6_hold_224
  have b67 : ∀ (st : MS) (x1 : Int32) (x2 : Int32) (x3 : Int32) (x4 : Int32), fX6_hold_b67 st x1 x2 x3 x4 = some res → (∀ (H : Heap) (locs : List Loc) (ls : Array Slot), IN (dC, dI) (WX6 a b cI cJ cZ st) A s.heap H locs → lv_has ls 8 [(0, .ref (a 0)), (1, .int x1), (2, .int x2), (3, .int x3), (4, .int x4)] → W p l e (headSpec wsX6_hold rX6_hold).room s m args below meth c H locs 0 0 QQ (F0 m 67 ls [])) := by
    intro st x1 x2 x3 x4 hf
    intro H locs ls hin hl
    obtain ⟨hP, hD, hS⟩ := hin
    unfold fX6_hold_b67 at hf
    refine lv_aload_n hx hb dX6_hold_67 rfl (lv_at hl 0 rfl) ?_
    refine lv_iload hx hb dX6_hold_68 (lv_at hl 4 rfl) ?_
    obtain ⟨p17, hc18, hf⟩ := bind_s hf
    refine cmV (wr := []) ⟨hx, hb, hml, hown, hts⟩ (ct_X6_lay l dC dI a b cI cJ cZ H.size st x4 p17 hc18) (cwV 1 hts gX6_hold_X6_lay rfl rfl rfl (by decide +kernel) ⟨(Nat.le_of_ble_eq_true rfl), (Nat.le_of_ble_eq_true rfl)⟩) hK hP hD hS hA [0, 1, 2, 3, 4, 5, 6, 7, 8, 9, 10, 11, 12, 13, 14, 15, 16, 17, 18, 19, 20] [] rfl rfl (by decide) rfl (by decide) (by decide) rfl rfl rfl hl.1 rfl (Nat.le_of_ble_eq_true rfl) (Nat.le_of_ble_eq_true rfl) (Nat.le_of_ble_eq_true rfl) dX6_hold_70 (fun H locs hP hD hS => ?_)
    replace hP : va_P (dC, dI) vwCl (WX6 a b cI cJ cZ p17) H := hP
    replace hD : va_D A (WX6 a b cI cJ cZ p17) := hD
    refine W.eq (g2 := F0 m 73 ls []) rfl ?_
    refine lv_aload_n hx hb dX6_hold_73 rfl (lv_at hl 0 rfl) ?_
    refine va_get (D := (dC, dI)) (ci := 6) (v := .ref (a 17)) (C := RX6) (T := TX6) (N := 26) hx hb hts kX6_hold_X6 hown hK hP 0 rfl rfl 22 (by decide) (hts _ mX6_hold_3) (fun _ h9 => h9) rfl dX6_hold_74 ?_
    refine lv_bipush (v := (10 : Int32)) hx hb dX6_hold_77 (by decide) ?_
    refine lv_iload_n hx hb dX6_hold_79 rfl (lv_at hl 1 rfl) ?_
    refine lv_imul hx hb dX6_hold_80 ?_
    refine lv_iload_n hx hb dX6_hold_81 rfl (lv_at hl 2 rfl) ?_
    refine lv_iadd hx hb dX6_hold_82 ?_
    obtain ⟨hi19, hf⟩ := it_s hf
    refine va_iald hx hb hK hP 17 0 rfl rfl (inb_in hi19) dX6_hold_83 ?_
    refine lv_istore (lv' := [(5, .int ((MS_held p17) ((((10 : Int32) * x1) + x2)).toNatClampNeg)), (0, .ref (a 0)), (1, .int x1), (2, .int x2), (3, .int x3), (4, .int x4)]) hx hb dX6_hold_84 hl (by decide) rfl (fun ls hl => ?_)
    refine lv_aload_n hx hb dX6_hold_86 rfl (lv_at hl 1 rfl) ?_
    refine va_get (D := (dC, dI)) (ci := 6) (v := .int (MS_holdings p17)) (C := RX6) (T := TX6) (N := 26) hx hb hts kX6_hold_X6 hown hK hP 0 rfl rfl 2 (by decide) (hts _ mX6_hold_4) (fun _ h9 => h9) rfl dX6_hold_87 ?_
    refine lv_istore (lv' := [(6, .int (MS_holdings p17)), (5, .int ((MS_held p17) ((((10 : Int32) * x1) + x2)).toNatClampNeg)), (0, .ref (a 0)), (1, .int x1), (2, .int x2), (3, .int x3), (4, .int x4)]) hx hb dX6_hold_90 hl (by decide) rfl (fun ls hl => ?_)
    refine lv_iconst (v := (0 : Int32)) hx hb dX6_hold_92 (by decide) ?_
    refine lv_istore (lv' := [(7, .int (0 : Int32)), (6, .int (MS_holdings p17)), (5, .int ((MS_held p17) ((((10 : Int32) * x1) + x2)).toNatClampNeg)), (0, .ref (a 0)), (1, .int x1), (2, .int x2), (3, .int x3), (4, .int x4)]) hx hb dX6_hold_93 hl (by decide) rfl (fun ls hl => ?_)
    obtain ⟨y27, hlp, hf⟩ := bind_s hf
    refine l95 p17 x1 x2 x3 x4 ((MS_held p17) ((((10 : Int32) * x1) + x2)).toNatClampNeg) fuelN ((MS_holdings p17), (0 : Int32)) y27 hlp ?_ H locs ls ⟨hP, hD, hS⟩ (lv_sub hl [3, 4, 5, 6, 7, 2, 1, 0] rfl)
    intro H locs ls hin hl
    obtain ⟨hP, hD, hS⟩ := hin
    refine lv_iload hx hb dX6_hold_153 (lv_at hl 6 rfl) ?_
    refine lv_bipush (v := (100 : Int32)) hx hb dX6_hold_155 (by decide) ?_
    refine lv_icmp_ne (tgt := 163) hx hb dX6_hold_157 (by decide) (fun c28 => ?_) (fun c28 => ?_)
    · replace hf := it_n c28 hf
      refine lv_aload_n hx hb dX6_hold_163 rfl (lv_at hl 0 rfl) ?_
      refine va_get (D := (dC, dI)) (ci := 6) (v := .ref (a 1)) (C := RX6) (T := TX6) (N := 26) hx hb hts kX6_hold_X6 hown hK hP 0 rfl rfl 3 (by decide) (hts _ mX6_hold_5) (fun _ h9 => h9) rfl dX6_hold_164 ?_
      refine lv_iload hx hb dX6_hold_167 (lv_at hl 6 rfl) ?_
      refine lv_iload_n hx hb dX6_hold_169 rfl (lv_at hl 1 rfl) ?_
      obtain ⟨hi29, hf⟩ := it_s hf
      refine va_iast hx hb hK hP hD hS 1 0 rfl rfl (inb_in hi29) dX6_hold_170 (fun H locs hP hD hS => ?_)
      obtain ⟨s30, hs31, hf⟩ := bnd_e hf
      replace hP := putP_who hs31 hP
      replace hD := putD_who hs31 hD
      refine lv_aload_n hx hb dX6_hold_171 rfl (lv_at hl 0 rfl) ?_
      refine va_get (D := (dC, dI)) (ci := 6) (v := .ref (a 2)) (C := RX6) (T := TX6) (N := 26) hx hb hts kX6_hold_X6 hown hK hP 0 rfl rfl 4 (by decide) (hts _ mX6_hold_6) (fun _ h9 => h9) rfl dX6_hold_172 ?_
      refine lv_iload hx hb dX6_hold_175 (lv_at hl 6 rfl) ?_
      refine lv_iload_n hx hb dX6_hold_177 rfl (lv_at hl 2 rfl) ?_
      obtain ⟨hi32, hf⟩ := it_s hf
      refine va_iast hx hb hK hP hD hS 2 0 rfl rfl (inb_in hi32) dX6_hold_178 (fun H locs hP hD hS => ?_)
      obtain ⟨s33, hs34, hf⟩ := bnd_e hf
      replace hP := putP_whom hs34 hP
      replace hD := putD_whom hs34 hD
      refine lv_aload_n hx hb dX6_hold_179 rfl (lv_at hl 0 rfl) ?_
      refine va_get (D := (dC, dI)) (ci := 6) (v := .ref (a 3)) (C := RX6) (T := TX6) (N := 26) hx hb hts kX6_hold_X6 hown hK hP 0 rfl rfl 5 (by decide) (hts _ mX6_hold_8) (fun _ h9 => h9) rfl dX6_hold_180 ?_
      refine lv_iload hx hb dX6_hold_183 (lv_at hl 6 rfl) ?_
      refine lv_iload_n hx hb dX6_hold_185 rfl (lv_at hl 3 rfl) ?_
      obtain ⟨hi35, hf⟩ := it_s hf
      refine va_iast hx hb hK hP hD hS 3 0 rfl rfl (inb_in hi35) dX6_hold_186 (fun H locs hP hD hS => ?_)
      obtain ⟨s36, hs37, hf⟩ := bnd_e hf
      replace hP := putP_part hs37 hP
      replace hD := putD_part hs37 hD
      refine lv_aload_n hx hb dX6_hold_187 rfl (lv_at hl 0 rfl) ?_
      refine va_get (D := (dC, dI)) (ci := 6) (v := .ref (a 4)) (C := RX6) (T := TX6) (N := 26) hx hb hts kX6_hold_X6 hown hK hP 0 rfl rfl 6 (by decide) (hts _ mX6_hold_7) (fun _ h9 => h9) rfl dX6_hold_188 ?_
      refine lv_iload hx hb dX6_hold_191 (lv_at hl 6 rfl) ?_
      refine lv_iload hx hb dX6_hold_193 (lv_at hl 4 rfl) ?_
      obtain ⟨hi38, hf⟩ := it_s hf
      refine va_iast hx hb hK hP hD hS 4 0 rfl rfl (inb_in hi38) dX6_hold_195 (fun H locs hP hD hS => ?_)
      obtain ⟨s39, hs40, hf⟩ := bnd_e hf
      replace hP := putP_since hs40 hP
      replace hD := putD_since hs40 hD
      refine lv_aload_n hx hb dX6_hold_196 rfl (lv_at hl 0 rfl) ?_
      refine lv_iload hx hb dX6_hold_197 (lv_at hl 6 rfl) ?_
      refine lv_aload_n hx hb dX6_hold_199 rfl (lv_at hl 0 rfl) ?_
      refine va_get (D := (dC, dI)) (ci := 6) (v := .int (MS_holdings s39)) (C := RX6) (T := TX6) (N := 26) hx hb hts kX6_hold_X6 hown hK hP 0 rfl rfl 2 (by decide) (hts _ mX6_hold_4) (fun _ h9 => h9) rfl dX6_hold_200 ?_
      refine lv_icmp_ne (tgt := 215) hx hb dX6_hold_203 (by decide) (fun c41 => ?_) (fun c41 => ?_)
      · replace hf := it_n c41 hf
        refine lv_aload_n hx hb dX6_hold_215 rfl (lv_at hl 0 rfl) ?_
        refine va_get (D := (dC, dI)) (ci := 6) (v := .int (MS_holdings s39)) (C := RX6) (T := TX6) (N := 26) hx hb hts kX6_hold_X6 hown hK hP 0 rfl rfl 2 (by decide) (hts _ mX6_hold_4) (fun _ h9 => h9) rfl dX6_hold_216 ?_
        exact b219 s39 ((MS_held p17) ((((10 : Int32) * x1) + x2)).toNatClampNeg) (MS_holdings s39) hf H locs ls ⟨hP, hD, hS⟩ (lv_sub hl [5] rfl)
      · replace hf := it_p c41 hf
        refine lv_aload_n hx hb dX6_hold_206 rfl (lv_at hl 0 rfl) ?_
        refine va_get (D := (dC, dI)) (ci := 6) (v := .int (MS_holdings s39)) (C := RX6) (T := TX6) (N := 26) hx hb hts kX6_hold_X6 hown hK hP 0 rfl rfl 2 (by decide) (hts _ mX6_hold_4) (fun _ h9 => h9) rfl dX6_hold_207 ?_
        refine lv_iconst (v := (1 : Int32)) hx hb dX6_hold_210 (by decide) ?_
        refine lv_iadd hx hb dX6_hold_211 ?_
        refine lv_goto (tgt := 219) hx hb dX6_hold_212 (by decide) ?_
        exact b219 s39 ((MS_held p17) ((((10 : Int32) * x1) + x2)).toNatClampNeg) ((MS_holdings s39) + (1 : Int32)) hf H locs ls ⟨hP, hD, hS⟩ (lv_sub hl [5] rfl)
    · replace hf := it_p c28 hf
      refine lv_bipush (v := (-4 : Int32)) hx hb dX6_hold_160 (by decide) ?_
      obtain rfl := Option.some.inj hf
      rw [hQ]
      exact W.iret hx hb hr (fun t ht hW => ⟨rfl, ⟨by rw [ht]; exact hP, hD⟩, hS.F ht⟩) hS.2.2 dX6_hold_162
  have main : ∀ (H : Heap) (locs : List Loc) (ls : Array Slot), IN (dC, dI) (WX6 a b cI cJ cZ st) A s.heap H locs → lv_has ls 8 [(0, .ref (a 0)), (1, .int x1), (2, .int x2), (3, .int x3), (4, .int x4)] → W p l e (headSpec wsX6_hold rX6_hold).room s m args below meth c H locs 0 0 QQ (F0 m 0 ls []) := by
    intro H locs ls hin hl
    obtain ⟨hP, hD, hS⟩ := hin
    unfold fX6_hold at hf
    refine lv_aload_n hx hb dX6_hold_0 rfl (lv_at hl 0 rfl) ?_
    refine lv_iconst (v := (0 : Int32)) hx hb dX6_hold_1 (by decide) ?_
    refine va_put (D := (dC, dI)) (ci := 6) (v := .int (0 : Int32)) (ty := .int) (C := RX6) (T := TX6) (N := 26) hx hb hts kX6_hold_X6 tyX6 tyX6_ok nmX6 hown hK hP hD hS 0 rfl rfl 0 (by decide) (hts _ mX6_hold_1) (fun _ h9 => h9) rfl (by decide +kernel) rfl rfl (Nat.le_of_ble_eq_true rfl) dX6_hold_2 (fun H locs hP hD hS => ?_)
    obtain ⟨s1, hs2, hf⟩ := bnd_e hf
    replace hP := putP_thrown hs2 hP
    replace hD := putD_thrown hs2 hD
    refine lv_aload_n hx hb dX6_hold_5 rfl (lv_at hl 0 rfl) ?_
    refine lv_iload_n hx hb dX6_hold_6 rfl (lv_at hl 1 rfl) ?_
    obtain ⟨r3, hc4, hf⟩ := bind_s hf
    refine cpV (v := .int r3) ⟨hx, hb, hml, hown, hts⟩ (ct_X6_noUnit l dC dI a b cI cJ cZ s1 x1 r3 hc4) (cwV 1 hts gX6_hold_X6_noUnit rfl rfl rfl (by decide +kernel) ⟨(Nat.le_of_ble_eq_true rfl), (Nat.le_of_ble_eq_true rfl)⟩) hK hP [0, 1, 2, 3, 4, 5, 6, 7, 8, 9, 10, 11, 12, 13, 14, 15, 16, 17, 18, 19, 20] rfl rfl rfl rfl hl.1 rfl (Nat.le_of_ble_eq_true rfl) (Nat.le_of_ble_eq_true rfl) (Nat.le_of_ble_eq_true rfl) dX6_hold_7 ?_
    refine lv_if_ne (tgt := 21) hx hb dX6_hold_10 (by decide) (fun c5 => ?_) (fun c5 => ?_)
    · replace hf := it_n c5 hf
      refine lv_iconst (v := (-1 : Int32)) hx hb dX6_hold_21 (by decide) ?_
      obtain rfl := Option.some.inj hf
      rw [hQ]
      exact W.iret hx hb hr (fun t ht hW => ⟨rfl, ⟨by rw [ht]; exact hP, hD⟩, hS.F ht⟩) hS.2.2 dX6_hold_22
    · replace hf := it_p c5 hf
      refine lv_aload_n hx hb dX6_hold_13 rfl (lv_at hl 0 rfl) ?_
      refine lv_iload_n hx hb dX6_hold_14 rfl (lv_at hl 2 rfl) ?_
      obtain ⟨r6, hc7, hf⟩ := bind_s hf
      refine cpV (v := .int r6) ⟨hx, hb, hml, hown, hts⟩ (ct_X6_noUnit l dC dI a b cI cJ cZ s1 x2 r6 hc7) (cwV 1 hts gX6_hold_X6_noUnit rfl rfl rfl (by decide +kernel) ⟨(Nat.le_of_ble_eq_true rfl), (Nat.le_of_ble_eq_true rfl)⟩) hK hP [0, 1, 2, 3, 4, 5, 6, 7, 8, 9, 10, 11, 12, 13, 14, 15, 16, 17, 18, 19, 20] rfl rfl rfl rfl hl.1 rfl (Nat.le_of_ble_eq_true rfl) (Nat.le_of_ble_eq_true rfl) (Nat.le_of_ble_eq_true rfl) dX6_hold_15 ?_
      refine lv_if_eq (tgt := 23) hx hb dX6_hold_18 (by decide) (fun c8 => ?_) (fun c8 => ?_)
      · replace hf := it_p c8 hf
        refine lv_iload_n hx hb dX6_hold_23 rfl (lv_at hl 3 rfl) ?_
        refine lv_i2l hx hb dX6_hold_24 rfl ?_
        refine lv_lconst (v := (0 : Int64)) hx hb dX6_hold_25 (by decide) ?_
        refine lv_ldc2 (v := (100 : Int64)) hx hb hown (hts _ mX6_hold_2) dX6_hold_26 ?_
        obtain ⟨r9, hc10, hf⟩ := bind_s hf
        refine cpS (v := .int r9) ⟨hx, hb, hml, hown, hts⟩ (ct_X6_in l dC dI cI cJ cZ (Int32.toInt64 x3) (0 : Int64) (100 : Int64) r9 hc10) (va_cwS 3 hts gX6_hold_X6_in rfl rfl rfl (by decide +kernel) ⟨(Nat.le_of_ble_eq_true rfl), (Nat.le_of_ble_eq_true rfl)⟩) hK hP [] rfl rfl hl.1 rfl (Nat.le_of_ble_eq_true rfl) (Nat.le_of_ble_eq_true rfl) (Nat.le_of_ble_eq_true rfl) dX6_hold_29 ?_
        refine lv_if_eq (tgt := 43) hx hb dX6_hold_32 (by decide) (fun c11 => ?_) (fun c11 => ?_)
        · replace hf := it_p c11 hf
          refine lv_bipush (v := (-2 : Int32)) hx hb dX6_hold_43 (by decide) ?_
          obtain rfl := Option.some.inj hf
          rw [hQ]
          exact W.iret hx hb hr (fun t ht hW => ⟨rfl, ⟨by rw [ht]; exact hP, hD⟩, hS.F ht⟩) hS.2.2 dX6_hold_45
        · replace hf := it_n c11 hf
          refine lv_iload hx hb dX6_hold_35 (lv_at hl 4 rfl) ?_
          obtain ⟨r12, hc13, hf⟩ := bind_s hf
          refine cpS (v := .int r12) ⟨hx, hb, hml, hown, hts⟩ (ct_X6_noDay l dC dI cI cJ cZ x4 r12 hc13) (va_cwS 1 hts gX6_hold_X6_noDay rfl rfl rfl (by decide +kernel) ⟨(Nat.le_of_ble_eq_true rfl), (Nat.le_of_ble_eq_true rfl)⟩) hK hP [] rfl rfl hl.1 rfl (Nat.le_of_ble_eq_true rfl) (Nat.le_of_ble_eq_true rfl) (Nat.le_of_ble_eq_true rfl) dX6_hold_37 ?_
          refine lv_if_eq (tgt := 46) hx hb dX6_hold_40 (by decide) (fun c14 => ?_) (fun c14 => ?_)
          · replace hf := it_p c14 hf
            refine lv_iload_n hx hb dX6_hold_46 rfl (lv_at hl 1 rfl) ?_
            refine lv_iload_n hx hb dX6_hold_47 rfl (lv_at hl 2 rfl) ?_
            refine lv_icmp_eq (tgt := 64) hx hb dX6_hold_48 (by decide) (fun c15 => ?_) (fun c15 => ?_)
            · replace hf := it_p c15 hf
              refine lv_bipush (v := (-3 : Int32)) hx hb dX6_hold_64 (by decide) ?_
              obtain rfl := Option.some.inj hf
              rw [hQ]
              exact W.iret hx hb hr (fun t ht hW => ⟨rfl, ⟨by rw [ht]; exact hP, hD⟩, hS.F ht⟩) hS.2.2 dX6_hold_66
            · replace hf := it_n c15 hf
              refine lv_iload_n hx hb dX6_hold_51 rfl (lv_at hl 3 rfl) ?_
              refine lv_if_le (tgt := 67) hx hb dX6_hold_52 (by decide) (fun c16 => ?_) (fun c16 => ?_)
              · replace hf := it_p c16 hf
                exact b67 s1 x1 x2 x3 x4 hf H locs ls ⟨hP, hD, hS⟩ (lv_sub hl [0, 1, 2, 3, 4] rfl)
              · replace hf := it_n c16 hf
                refine lv_aload_n hx hb dX6_hold_55 rfl (lv_at hl 0 rfl) ?_
                refine lv_iload_n hx hb dX6_hold_56 rfl (lv_at hl 1 rfl) ?_
                refine lv_iload_n hx hb dX6_hold_57 rfl (lv_at hl 2 rfl) ?_
                obtain ⟨p44, hc45, hf⟩ := bind_s hf
                refine cmV (wr := []) ⟨hx, hb, hml, hown, hts⟩ (ct_X6_mayHold l dC dI a b cI cJ cZ H.size s1 x1 x2 p44 hc45) (cwV 2 hts gX6_hold_X6_mayHold rfl rfl rfl (by decide +kernel) ⟨(Nat.le_of_ble_eq_true rfl), (Nat.le_of_ble_eq_true rfl)⟩) hK hP hD hS hA [0, 1, 2, 3, 4, 5, 6, 7, 8, 9, 10, 11, 12, 13, 14, 15, 16, 17, 18, 19, 20] [] rfl rfl (by decide) rfl (by decide) (by decide) rfl rfl rfl hl.1 rfl (Nat.le_of_ble_eq_true rfl) (Nat.le_of_ble_eq_true rfl) (Nat.le_of_ble_eq_true rfl) dX6_hold_58 (fun H locs hP hD hS => ?_)
                replace hP : va_P (dC, dI) vwCl (WX6 a b cI cJ cZ p44.2) H := hP
                replace hD : va_D A (WX6 a b cI cJ cZ p44.2) := hD
                refine W.eq (g2 := F0 m 61 ls [.int p44.1]) rfl ?_
                refine lv_if_ne (tgt := 67) hx hb dX6_hold_61 (by decide) (fun c46 => ?_) (fun c46 => ?_)
                · replace hf := it_n c46 hf
                  exact b67 p44.2 x1 x2 x3 x4 hf H locs ls ⟨hP, hD, hS⟩ (lv_sub hl [0, 1, 2, 3, 4] rfl)
                · replace hf := it_p c46 hf
                  refine lv_bipush (v := (-3 : Int32)) hx hb dX6_hold_64 (by decide) ?_
                  obtain rfl := Option.some.inj hf
                  rw [hQ]
                  exact W.iret hx hb hr (fun t ht hW => ⟨rfl, ⟨by rw [ht]; exact hP, hD⟩, hS.F ht⟩) hS.2.2 dX6_hold_66
          · replace hf := it_n c14 hf
            refine lv_bipush (v := (-2 : Int32)) hx hb dX6_hold_43 (by decide) ?_
            obtain rfl := Option.some.inj hf
            rw [hQ]
            exact W.iret hx hb hr (fun t ht hW => ⟨rfl, ⟨by rw [ht]; exact hP, hD⟩, hS.F ht⟩) hS.2.2 dX6_hold_45
      · replace hf := it_n c8 hf
        refine lv_iconst (v := (-1 : Int32)) hx hb dX6_hold_21 (by decide) ?_
        obtain rfl := Option.some.inj hf
        rw [hQ]
        exact W.iret hx hb hr (fun t ht hW => ⟨rfl, ⟨by rw [ht]; exact hP, hD⟩, hS.F ht⟩) hS.2.2 dX6_hold_22
  exact main s.heap [] ls ⟨hP, hD, va_S.rf⟩ hl
def rX6_holds : Room := { frames := 2, cells := 0, slots := 0, locals := 46 }
theorem kX6_holds_X6 : ∀ w ∈ wsX60, w ∈ wsX6_holds := fun w h => (List.mem_cons_of_mem _ (List.mem_append_right _ h))
theorem mX6_holds_1 : Cond.fieldLink RX6 76 "SmokeLedgerModel" "thrown" "I" ∈ wsX6_holds := List.mem_of_getElem? (i := 1) rfl
theorem mX6_holds_2 : Cond.fieldLink RX6 62 "SmokeLedgerModel" "held" "[I" ∈ wsX6_holds := List.mem_of_getElem? (i := 2) rfl
set_option maxHeartbeats 4000000 in
set_option maxRecDepth 100000 in
theorem ct_X6_holds (l : Launch) (dC : Nat → ClassId) (dI : Nat → Nat → Nat) (a b : Nat → Nat) (cI cJ cZ : ClassId) (sz : Nat) (st : MS) (x1 : Int32) (x2 : Int32) (x3 : Int32) (res : Int32 × MS) (hf : fX6_holds st x1 x2 x3 = some res) : Met l yX6_holds wsX6_holds rX6_holds (Pm (dC, dI) (tyT cI cJ cZ) (WX6 a b cI cJ cZ st) sz [.ref (a 0), .int x1, .int x2, .int x3]) (Qm (dC, dI) (some (.int res.1)) (WX6 a b cI cJ cZ res.2) (va_A (WX6 a b cI cJ cZ st) sz)) 0 0 (va_A (WX6 a b cI cJ cZ st) sz) := by
  refine Met.ofW (cc := cX6_holds) (maxL := 4) (ret := (some .int)) (by decide) rfl ?_
  intro p e s m args below meth c s₁ B hml hv
  obtain ⟨hargs, hsz, hP, hK, hD0⟩ := hv
  have hx := B.exec
  have hb := B.bytes
  have hr := B.returns
  have hts := atoms_spec (ws := wsX6_holds) B.pre
  have hown : s.vm.findClass RX6 = some m.cls := findClass_of_methodNamed B.named
  have hlocks := B.notSynchronized
  subst hsz
  have hD := hD0.self (sz := s.heap.size)
  generalize hAe : va_A (WX6 a b cI cJ cZ st) s.heap.size = A at hD ⊢
  have hA : ∀ q : Nat, s.heap.size ≤ q → A q := fun q h => by rw [← hAe]; exact Or.inr h
  have hl := lv_entry ([.ref (a 0), .int x1, .int x2, .int x3]) (n := 4) (Nat.le_of_ble_eq_true rfl)
  refine W.eq (hargs ▸ lg_entry_eq m [.ref (a 0), .int x1, .int x2, .int x3] 4) ?_
  generalize (lg_sl ([.ref (a 0), .int x1, .int x2, .int x3]) ++ List.replicate (4 - (lg_sl ([.ref (a 0), .int x1, .int x2, .int x3])).length) Slot.unset).toArray = ls at hl ⊢
  have hl : lv_has ls 4 [(0, .ref (a 0)), (1, .int x1), (2, .int x2), (3, .int x3)] := hl
  obtain ⟨QQ, hQ⟩ : ∃ QQ : State → Prop, QQ = MQ below (Qm (dC, dI) (some (.int res.1)) (WX6 a b cI cJ cZ res.2) A) args s 0 0 (A) := ⟨_, rfl⟩
  rw [← hQ]
  have main : ∀ (H : Heap) (locs : List Loc) (ls : Array Slot), IN (dC, dI) (WX6 a b cI cJ cZ st) A s.heap H locs → lv_has ls 4 [(0, .ref (a 0)), (1, .int x1), (2, .int x2), (3, .int x3)] → W p l e (headSpec wsX6_holds rX6_holds).room s m args below meth c H locs 0 0 QQ (F0 m 0 ls []) := by
    intro H locs ls hin hl
    obtain ⟨hP, hD, hS⟩ := hin
    unfold fX6_holds at hf
    refine lv_aload_n hx hb dX6_holds_0 rfl (lv_at hl 0 rfl) ?_
    refine lv_iconst (v := (0 : Int32)) hx hb dX6_holds_1 (by decide) ?_
    refine va_put (D := (dC, dI)) (ci := 6) (v := .int (0 : Int32)) (ty := .int) (C := RX6) (T := TX6) (N := 26) hx hb hts kX6_holds_X6 tyX6 tyX6_ok nmX6 hown hK hP hD hS 0 rfl rfl 0 (by decide) (hts _ mX6_holds_1) (fun _ h9 => h9) rfl (by decide +kernel) rfl rfl (Nat.le_of_ble_eq_true rfl) dX6_holds_2 (fun H locs hP hD hS => ?_)
    obtain ⟨s1, hs2, hf⟩ := bnd_e hf
    replace hP := putP_thrown hs2 hP
    replace hD := putD_thrown hs2 hD
    refine lv_aload_n hx hb dX6_holds_5 rfl (lv_at hl 0 rfl) ?_
    refine lv_iload_n hx hb dX6_holds_6 rfl (lv_at hl 1 rfl) ?_
    obtain ⟨r3, hc4, hf⟩ := bind_s hf
    refine cpV (v := .int r3) ⟨hx, hb, hml, hown, hts⟩ (ct_X6_noUnit l dC dI a b cI cJ cZ s1 x1 r3 hc4) (cwV 1 hts gX6_holds_X6_noUnit rfl rfl rfl (by decide +kernel) ⟨(Nat.le_of_ble_eq_true rfl), (Nat.le_of_ble_eq_true rfl)⟩) hK hP [0, 1, 2, 3, 4, 5, 6, 7, 8, 9, 10, 11, 12, 13, 14, 15, 16, 17, 18, 19, 20] rfl rfl rfl rfl hl.1 rfl (Nat.le_of_ble_eq_true rfl) (Nat.le_of_ble_eq_true rfl) (Nat.le_of_ble_eq_true rfl) dX6_holds_7 ?_
    refine lv_if_ne (tgt := 21) hx hb dX6_holds_10 (by decide) (fun c5 => ?_) (fun c5 => ?_)
    · replace hf := it_n c5 hf
      refine lv_iconst (v := (-1 : Int32)) hx hb dX6_holds_21 (by decide) ?_
      obtain rfl := Option.some.inj hf
      rw [hQ]
      exact W.iret hx hb hr (fun t ht hW => ⟨rfl, ⟨by rw [ht]; exact hP, hD⟩, hS.F ht⟩) hS.2.2 dX6_holds_22
    · replace hf := it_p c5 hf
      refine lv_aload_n hx hb dX6_holds_13 rfl (lv_at hl 0 rfl) ?_
      refine lv_iload_n hx hb dX6_holds_14 rfl (lv_at hl 2 rfl) ?_
      obtain ⟨r6, hc7, hf⟩ := bind_s hf
      refine cpV (v := .int r6) ⟨hx, hb, hml, hown, hts⟩ (ct_X6_noUnit l dC dI a b cI cJ cZ s1 x2 r6 hc7) (cwV 1 hts gX6_holds_X6_noUnit rfl rfl rfl (by decide +kernel) ⟨(Nat.le_of_ble_eq_true rfl), (Nat.le_of_ble_eq_true rfl)⟩) hK hP [0, 1, 2, 3, 4, 5, 6, 7, 8, 9, 10, 11, 12, 13, 14, 15, 16, 17, 18, 19, 20] rfl rfl rfl rfl hl.1 rfl (Nat.le_of_ble_eq_true rfl) (Nat.le_of_ble_eq_true rfl) (Nat.le_of_ble_eq_true rfl) dX6_holds_15 ?_
      refine lv_if_eq (tgt := 23) hx hb dX6_holds_18 (by decide) (fun c8 => ?_) (fun c8 => ?_)
      · replace hf := it_p c8 hf
        refine lv_iload_n hx hb dX6_holds_23 rfl (lv_at hl 3 rfl) ?_
        obtain ⟨r9, hc10, hf⟩ := bind_s hf
        refine cpS (v := .int r9) ⟨hx, hb, hml, hown, hts⟩ (ct_X6_noDay l dC dI cI cJ cZ x3 r9 hc10) (va_cwS 1 hts gX6_holds_X6_noDay rfl rfl rfl (by decide +kernel) ⟨(Nat.le_of_ble_eq_true rfl), (Nat.le_of_ble_eq_true rfl)⟩) hK hP [] rfl rfl hl.1 rfl (Nat.le_of_ble_eq_true rfl) (Nat.le_of_ble_eq_true rfl) (Nat.le_of_ble_eq_true rfl) dX6_holds_24 ?_
        refine lv_if_eq (tgt := 33) hx hb dX6_holds_27 (by decide) (fun c11 => ?_) (fun c11 => ?_)
        · replace hf := it_p c11 hf
          refine lv_aload_n hx hb dX6_holds_33 rfl (lv_at hl 0 rfl) ?_
          refine lv_iload_n hx hb dX6_holds_34 rfl (lv_at hl 3 rfl) ?_
          obtain ⟨p12, hc13, hf⟩ := bind_s hf
          refine cmV (wr := []) ⟨hx, hb, hml, hown, hts⟩ (ct_X6_lay l dC dI a b cI cJ cZ H.size s1 x3 p12 hc13) (cwV 1 hts gX6_holds_X6_lay rfl rfl rfl (by decide +kernel) ⟨(Nat.le_of_ble_eq_true rfl), (Nat.le_of_ble_eq_true rfl)⟩) hK hP hD hS hA [0, 1, 2, 3, 4, 5, 6, 7, 8, 9, 10, 11, 12, 13, 14, 15, 16, 17, 18, 19, 20] [] rfl rfl (by decide) rfl (by decide) (by decide) rfl rfl rfl hl.1 rfl (Nat.le_of_ble_eq_true rfl) (Nat.le_of_ble_eq_true rfl) (Nat.le_of_ble_eq_true rfl) dX6_holds_35 (fun H locs hP hD hS => ?_)
          replace hP : va_P (dC, dI) vwCl (WX6 a b cI cJ cZ p12) H := hP
          replace hD : va_D A (WX6 a b cI cJ cZ p12) := hD
          refine W.eq (g2 := F0 m 38 ls []) rfl ?_
          refine lv_aload_n hx hb dX6_holds_38 rfl (lv_at hl 0 rfl) ?_
          refine va_get (D := (dC, dI)) (ci := 6) (v := .ref (a 17)) (C := RX6) (T := TX6) (N := 26) hx hb hts kX6_holds_X6 hown hK hP 0 rfl rfl 22 (by decide) (hts _ mX6_holds_2) (fun _ h9 => h9) rfl dX6_holds_39 ?_
          refine lv_bipush (v := (10 : Int32)) hx hb dX6_holds_42 (by decide) ?_
          refine lv_iload_n hx hb dX6_holds_44 rfl (lv_at hl 1 rfl) ?_
          refine lv_imul hx hb dX6_holds_45 ?_
          refine lv_iload_n hx hb dX6_holds_46 rfl (lv_at hl 2 rfl) ?_
          refine lv_iadd hx hb dX6_holds_47 ?_
          obtain ⟨hi14, hf⟩ := it_s hf
          refine va_iald hx hb hK hP 17 0 rfl rfl (inb_in hi14) dX6_holds_48 ?_
          obtain rfl := Option.some.inj hf
          rw [hQ]
          exact W.iret hx hb hr (fun t ht hW => ⟨rfl, ⟨by rw [ht]; exact hP, hD⟩, hS.F ht⟩) hS.2.2 dX6_holds_49
        · replace hf := it_n c11 hf
          refine lv_bipush (v := (-2 : Int32)) hx hb dX6_holds_30 (by decide) ?_
          obtain rfl := Option.some.inj hf
          rw [hQ]
          exact W.iret hx hb hr (fun t ht hW => ⟨rfl, ⟨by rw [ht]; exact hP, hD⟩, hS.F ht⟩) hS.2.2 dX6_holds_32
      · replace hf := it_n c8 hf
        refine lv_iconst (v := (-1 : Int32)) hx hb dX6_holds_21 (by decide) ?_
        obtain rfl := Option.some.inj hf
        rw [hQ]
        exact W.iret hx hb hr (fun t ht hW => ⟨rfl, ⟨by rw [ht]; exact hP, hD⟩, hS.F ht⟩) hS.2.2 dX6_holds_22
  exact main s.heap [] ls ⟨hP, hD, va_S.rf⟩ hl
def rX6_share : Room := { frames := 2, cells := 0, slots := 0, locals := 49 }
theorem kX6_share_X6 : ∀ w ∈ wsX60, w ∈ wsX6_share := fun w h => (List.mem_cons_of_mem _ (List.mem_append_right _ h))
theorem mX6_share_1 : Cond.fieldLink RX6 76 "SmokeLedgerModel" "thrown" "I" ∈ wsX6_share := List.mem_of_getElem? (i := 1) rfl
theorem mX6_share_4 : Cond.fieldLink RX6 65 "SmokeLedgerModel" "share" "[J" ∈ wsX6_share := List.mem_of_getElem? (i := 4) rfl
theorem mX6_share_3 : Cond.constantLong RX6 119 (-2) ∈ wsX6_share := List.mem_of_getElem? (i := 3) rfl
theorem mX6_share_2 : Cond.constantLong RX6 117 (-1) ∈ wsX6_share := List.mem_of_getElem? (i := 2) rfl
set_option maxHeartbeats 4000000 in
set_option maxRecDepth 100000 in
theorem ct_X6_share (l : Launch) (dC : Nat → ClassId) (dI : Nat → Nat → Nat) (a b : Nat → Nat) (cI cJ cZ : ClassId) (sz : Nat) (st : MS) (x1 : Int32) (x2 : Int32) (res : Int64 × MS) (hf : fX6_share st x1 x2 = some res) : Met l yX6_share wsX6_share rX6_share (Pm (dC, dI) (tyT cI cJ cZ) (WX6 a b cI cJ cZ st) sz [.ref (a 0), .int x1, .int x2]) (Qm (dC, dI) (some (.long res.1)) (WX6 a b cI cJ cZ res.2) (va_A (WX6 a b cI cJ cZ st) sz)) 0 0 (va_A (WX6 a b cI cJ cZ st) sz) := by
  refine Met.ofW (cc := cX6_share) (maxL := 3) (ret := (some .long)) (by decide) rfl ?_
  intro p e s m args below meth c s₁ B hml hv
  obtain ⟨hargs, hsz, hP, hK, hD0⟩ := hv
  have hx := B.exec
  have hb := B.bytes
  have hr := B.returns
  have hts := atoms_spec (ws := wsX6_share) B.pre
  have hown : s.vm.findClass RX6 = some m.cls := findClass_of_methodNamed B.named
  have hlocks := B.notSynchronized
  subst hsz
  have hD := hD0.self (sz := s.heap.size)
  generalize hAe : va_A (WX6 a b cI cJ cZ st) s.heap.size = A at hD ⊢
  have hA : ∀ q : Nat, s.heap.size ≤ q → A q := fun q h => by rw [← hAe]; exact Or.inr h
  have hl := lv_entry ([.ref (a 0), .int x1, .int x2]) (n := 3) (Nat.le_of_ble_eq_true rfl)
  refine W.eq (hargs ▸ lg_entry_eq m [.ref (a 0), .int x1, .int x2] 3) ?_
  generalize (lg_sl ([.ref (a 0), .int x1, .int x2]) ++ List.replicate (3 - (lg_sl ([.ref (a 0), .int x1, .int x2])).length) Slot.unset).toArray = ls at hl ⊢
  have hl : lv_has ls 3 [(0, .ref (a 0)), (1, .int x1), (2, .int x2)] := hl
  obtain ⟨QQ, hQ⟩ : ∃ QQ : State → Prop, QQ = MQ below (Qm (dC, dI) (some (.long res.1)) (WX6 a b cI cJ cZ res.2) A) args s 0 0 (A) := ⟨_, rfl⟩
  rw [← hQ]
  have main : ∀ (H : Heap) (locs : List Loc) (ls : Array Slot), IN (dC, dI) (WX6 a b cI cJ cZ st) A s.heap H locs → lv_has ls 3 [(0, .ref (a 0)), (1, .int x1), (2, .int x2)] → W p l e (headSpec wsX6_share rX6_share).room s m args below meth c H locs 0 0 QQ (F0 m 0 ls []) := by
    intro H locs ls hin hl
    obtain ⟨hP, hD, hS⟩ := hin
    unfold fX6_share at hf
    refine lv_aload_n hx hb dX6_share_0 rfl (lv_at hl 0 rfl) ?_
    refine lv_iconst (v := (0 : Int32)) hx hb dX6_share_1 (by decide) ?_
    refine va_put (D := (dC, dI)) (ci := 6) (v := .int (0 : Int32)) (ty := .int) (C := RX6) (T := TX6) (N := 26) hx hb hts kX6_share_X6 tyX6 tyX6_ok nmX6 hown hK hP hD hS 0 rfl rfl 0 (by decide) (hts _ mX6_share_1) (fun _ h9 => h9) rfl (by decide +kernel) rfl rfl (Nat.le_of_ble_eq_true rfl) dX6_share_2 (fun H locs hP hD hS => ?_)
    obtain ⟨s1, hs2, hf⟩ := bnd_e hf
    replace hP := putP_thrown hs2 hP
    replace hD := putD_thrown hs2 hD
    refine lv_aload_n hx hb dX6_share_5 rfl (lv_at hl 0 rfl) ?_
    refine lv_iload_n hx hb dX6_share_6 rfl (lv_at hl 1 rfl) ?_
    obtain ⟨r3, hc4, hf⟩ := bind_s hf
    refine cpV (v := .int r3) ⟨hx, hb, hml, hown, hts⟩ (ct_X6_noUnit l dC dI a b cI cJ cZ s1 x1 r3 hc4) (cwV 1 hts gX6_share_X6_noUnit rfl rfl rfl (by decide +kernel) ⟨(Nat.le_of_ble_eq_true rfl), (Nat.le_of_ble_eq_true rfl)⟩) hK hP [0, 1, 2, 3, 4, 5, 6, 7, 8, 9, 10, 11, 12, 13, 14, 15, 16, 17, 18, 19, 20] rfl rfl rfl rfl hl.1 rfl (Nat.le_of_ble_eq_true rfl) (Nat.le_of_ble_eq_true rfl) (Nat.le_of_ble_eq_true rfl) dX6_share_7 ?_
    refine lv_if_eq (tgt := 17) hx hb dX6_share_10 (by decide) (fun c5 => ?_) (fun c5 => ?_)
    · replace hf := it_p c5 hf
      refine lv_iload_n hx hb dX6_share_17 rfl (lv_at hl 2 rfl) ?_
      obtain ⟨r6, hc7, hf⟩ := bind_s hf
      refine cpS (v := .int r6) ⟨hx, hb, hml, hown, hts⟩ (ct_X6_noDay l dC dI cI cJ cZ x2 r6 hc7) (va_cwS 1 hts gX6_share_X6_noDay rfl rfl rfl (by decide +kernel) ⟨(Nat.le_of_ble_eq_true rfl), (Nat.le_of_ble_eq_true rfl)⟩) hK hP [] rfl rfl hl.1 rfl (Nat.le_of_ble_eq_true rfl) (Nat.le_of_ble_eq_true rfl) (Nat.le_of_ble_eq_true rfl) dX6_share_18 ?_
      refine lv_if_eq (tgt := 28) hx hb dX6_share_21 (by decide) (fun c8 => ?_) (fun c8 => ?_)
      · replace hf := it_p c8 hf
        refine lv_aload_n hx hb dX6_share_28 rfl (lv_at hl 0 rfl) ?_
        refine lv_iload_n hx hb dX6_share_29 rfl (lv_at hl 2 rfl) ?_
        obtain ⟨p9, hc10, hf⟩ := bind_s hf
        refine cmV (wr := []) ⟨hx, hb, hml, hown, hts⟩ (ct_X6_shares l dC dI a b cI cJ cZ H.size s1 x2 p9 hc10) (cwV 1 hts gX6_share_X6_shares rfl rfl rfl (by decide +kernel) ⟨(Nat.le_of_ble_eq_true rfl), (Nat.le_of_ble_eq_true rfl)⟩) hK hP hD hS hA [0, 1, 2, 3, 4, 5, 6, 7, 8, 9, 10, 11, 12, 13, 14, 15, 16, 17, 18, 19, 20] [] rfl rfl (by decide) rfl (by decide) (by decide) rfl rfl rfl hl.1 rfl (Nat.le_of_ble_eq_true rfl) (Nat.le_of_ble_eq_true rfl) (Nat.le_of_ble_eq_true rfl) dX6_share_30 (fun H locs hP hD hS => ?_)
        replace hP : va_P (dC, dI) vwCl (WX6 a b cI cJ cZ p9) H := hP
        replace hD : va_D A (WX6 a b cI cJ cZ p9) := hD
        refine W.eq (g2 := F0 m 33 ls []) rfl ?_
        refine lv_aload_n hx hb dX6_share_33 rfl (lv_at hl 0 rfl) ?_
        refine va_get (D := (dC, dI)) (ci := 6) (v := .ref (a 18)) (C := RX6) (T := TX6) (N := 26) hx hb hts kX6_share_X6 hown hK hP 0 rfl rfl 23 (by decide) (hts _ mX6_share_4) (fun _ h9 => h9) rfl dX6_share_34 ?_
        refine lv_iload_n hx hb dX6_share_37 rfl (lv_at hl 1 rfl) ?_
        obtain ⟨hi11, hf⟩ := it_s hf
        refine va_lald hx hb hK hP 18 1 rfl rfl (inb_in hi11) dX6_share_38 ?_
        obtain rfl := Option.some.inj hf
        rw [hQ]
        exact W.lret hx hb hr (fun t ht hW => ⟨rfl, ⟨by rw [ht]; exact hP, hD⟩, hS.F ht⟩) hS.2.2 dX6_share_39
      · replace hf := it_n c8 hf
        refine lv_ldc2 (v := (-2 : Int64)) hx hb hown (hts _ mX6_share_3) dX6_share_24 ?_
        obtain rfl := Option.some.inj hf
        rw [hQ]
        exact W.lret hx hb hr (fun t ht hW => ⟨rfl, ⟨by rw [ht]; exact hP, hD⟩, hS.F ht⟩) hS.2.2 dX6_share_27
    · replace hf := it_n c5 hf
      refine lv_ldc2 (v := (-1 : Int64)) hx hb hown (hts _ mX6_share_2) dX6_share_13 ?_
      obtain rfl := Option.some.inj hf
      rw [hQ]
      exact W.lret hx hb hr (fun t ht hW => ⟨rfl, ⟨by rw [ht]; exact hP, hD⟩, hS.F ht⟩) hS.2.2 dX6_share_16
  exact main s.heap [] ls ⟨hP, hD, va_S.rf⟩ hl
def rX6_days : Room := { frames := 2, cells := 0, slots := 0, locals := 49 }
theorem kX6_days_X6 : ∀ w ∈ wsX60, w ∈ wsX6_days := fun w h => (List.mem_cons_of_mem _ (List.mem_append_right _ h))
theorem mX6_days_1 : Cond.fieldLink RX6 76 "SmokeLedgerModel" "thrown" "I" ∈ wsX6_days := List.mem_of_getElem? (i := 1) rfl
theorem mX6_days_3 : Cond.constantLong RX6 119 (-2) ∈ wsX6_days := List.mem_of_getElem? (i := 3) rfl
theorem mX6_days_4 : Cond.fieldLink RX6 93 "SmokeLedgerModel" "holdings" "I" ∈ wsX6_days := List.mem_of_getElem? (i := 4) rfl
theorem mX6_days_5 : Cond.fieldLink RX6 23 "SmokeLedgerModel" "since" "[I" ∈ wsX6_days := List.mem_of_getElem? (i := 5) rfl
theorem mX6_days_6 : Cond.fieldLink RX6 65 "SmokeLedgerModel" "share" "[J" ∈ wsX6_days := List.mem_of_getElem? (i := 6) rfl
theorem mX6_days_2 : Cond.constantLong RX6 117 (-1) ∈ wsX6_days := List.mem_of_getElem? (i := 2) rfl
set_option maxHeartbeats 4000000 in
set_option maxRecDepth 100000 in
theorem ct_X6_days (l : Launch) (dC : Nat → ClassId) (dI : Nat → Nat → Nat) (a b : Nat → Nat) (cI cJ cZ : ClassId) (sz : Nat) (st : MS) (x1 : Int32) (x2 : Int32) (x3 : Int32) (res : Int64 × MS) (hf : fX6_days st x1 x2 x3 = some res) : Met l yX6_days wsX6_days rX6_days (Pm (dC, dI) (tyT cI cJ cZ) (WX6 a b cI cJ cZ st) sz [.ref (a 0), .int x1, .int x2, .int x3]) (Qm (dC, dI) (some (.long res.1)) (WX6 a b cI cJ cZ res.2) (va_A (WX6 a b cI cJ cZ st) sz)) 0 0 (va_A (WX6 a b cI cJ cZ st) sz) := by
  refine Met.ofW (cc := cX6_days) (maxL := 9) (ret := (some .long)) (by decide) rfl ?_
  intro p e s m args below meth c s₁ B hml hv
  obtain ⟨hargs, hsz, hP, hK, hD0⟩ := hv
  have hx := B.exec
  have hb := B.bytes
  have hr := B.returns
  have hts := atoms_spec (ws := wsX6_days) B.pre
  have hown : s.vm.findClass RX6 = some m.cls := findClass_of_methodNamed B.named
  have hlocks := B.notSynchronized
  subst hsz
  have hD := hD0.self (sz := s.heap.size)
  generalize hAe : va_A (WX6 a b cI cJ cZ st) s.heap.size = A at hD ⊢
  have hA : ∀ q : Nat, s.heap.size ≤ q → A q := fun q h => by rw [← hAe]; exact Or.inr h
  have hl := lv_entry ([.ref (a 0), .int x1, .int x2, .int x3]) (n := 9) (Nat.le_of_ble_eq_true rfl)
  refine W.eq (hargs ▸ lg_entry_eq m [.ref (a 0), .int x1, .int x2, .int x3] 9) ?_
  generalize (lg_sl ([.ref (a 0), .int x1, .int x2, .int x3]) ++ List.replicate (9 - (lg_sl ([.ref (a 0), .int x1, .int x2, .int x3])).length) Slot.unset).toArray = ls at hl ⊢
  have hl : lv_has ls 9 [(0, .ref (a 0)), (1, .int x1), (2, .int x2), (3, .int x3)] := hl
  obtain ⟨QQ, hQ⟩ : ∃ QQ : State → Prop, QQ = MQ below (Qm (dC, dI) (some (.long res.1)) (WX6 a b cI cJ cZ res.2) A) args s 0 0 (A) := ⟨_, rfl⟩
  rw [← hQ]
  have l46 : ∀ (x1 : Int32) (x3 : Int32) (fu : Nat) (s0 : MS × Int64 × Int32) (r : MS × Int64 × Int32), loopN (fun (s : MS × Int64 × Int32) => fX6_days_l46 x1 x3 s.1 s.2.1 s.2.2) fu s0 = some r → (∀ (H : Heap) (locs : List Loc) (ls : Array Slot), IN (dC, dI) (WX6 a b cI cJ cZ r.1) A s.heap H locs → lv_has ls 9 [(0, .ref (a 0)), (1, .int x1), (3, .int x3), (4, .long r.2.1), (6, .int r.2.2)] → W p l e (headSpec wsX6_days rX6_days).room s m args below meth c H locs 0 0 QQ (F0 m 144 ls [])) → (∀ (H : Heap) (locs : List Loc) (ls : Array Slot), IN (dC, dI) (WX6 a b cI cJ cZ s0.1) A s.heap H locs → lv_has ls 9 [(0, .ref (a 0)), (1, .int x1), (3, .int x3), (4, .long s0.2.1), (6, .int s0.2.2)] → W p l e (headSpec wsX6_days rX6_days).room s m args below meth c H locs 0 0 QQ (F0 m 46 ls [])) := by
    intro x1 x3 fu s0 r
    have l60 : ∀ (st : MS) (x1 : Int32) (x3 : Int32) (x4 : Int64) (x6 : Int32) (fu : Nat) (s0 : Int32 × Int32) (r : Int32 × Int32), loopN (fun (s : Int32 × Int32) => fX6_days_l60 st x1 x3 x4 x6 s.1 s.2) fu s0 = some r → (∀ (H : Heap) (locs : List Loc) (ls : Array Slot), IN (dC, dI) (WX6 a b cI cJ cZ st) A s.heap H locs → lv_has ls 9 [(0, .ref (a 0)), (1, .int x1), (3, .int x3), (4, .long x4), (6, .int x6), (7, .int r.1), (8, .int r.2)] → W p l e (headSpec wsX6_days rX6_days).room s m args below meth c H locs 0 0 QQ (F0 m 113 ls [])) → (∀ (H : Heap) (locs : List Loc) (ls : Array Slot), IN (dC, dI) (WX6 a b cI cJ cZ st) A s.heap H locs → lv_has ls 9 [(0, .ref (a 0)), (1, .int x1), (3, .int x3), (4, .long x4), (6, .int x6), (7, .int s0.1), (8, .int s0.2)] → W p l e (headSpec wsX6_days rX6_days).room s m args below meth c H locs 0 0 QQ (F0 m 60 ls [])) := by
      intro st x1 x3 x4 x6 fu s0 r
      have b105 : ∀ (st : MS) (x1 : Int32) (x3 : Int32) (x4 : Int64) (x6 : Int32) (x8 : Int32) (k0 : Int32) (x : (Int32 × Int32) ⊕ (Int32 × Int32)), fX6_days_b105 st x1 x3 x4 x6 x8 k0 = some x → (∀ s', x = .inl s' → (∀ (H : Heap) (locs : List Loc) (ls : Array Slot), IN (dC, dI) (WX6 a b cI cJ cZ st) A s.heap H locs → lv_has ls 9 [(0, .ref (a 0)), (1, .int x1), (3, .int x3), (4, .long x4), (6, .int x6), (7, .int s'.1), (8, .int s'.2)] → W p l e (headSpec wsX6_days rX6_days).room s m args below meth c H locs 0 0 QQ (F0 m 60 ls []))) → (∀ r, x = .inr r → (∀ (H : Heap) (locs : List Loc) (ls : Array Slot), IN (dC, dI) (WX6 a b cI cJ cZ st) A s.heap H locs → lv_has ls 9 [(0, .ref (a 0)), (1, .int x1), (3, .int x3), (4, .long x4), (6, .int x6), (7, .int r.1), (8, .int r.2)] → W p l e (headSpec wsX6_days rX6_days).room s m args below meth c H locs 0 0 QQ (F0 m 113 ls []))) → (∀ (H : Heap) (locs : List Loc) (ls : Array Slot), IN (dC, dI) (WX6 a b cI cJ cZ st) A s.heap H locs → lv_has ls 9 [(0, .ref (a 0)), (1, .int x1), (3, .int x3), (4, .long x4), (6, .int x6), (8, .int x8)] → W p l e (headSpec wsX6_days rX6_days).room s m args below meth c H locs 0 0 QQ (F0 m 105 ls [.int k0])) := by
        intro st x1 x3 x4 x6 x8 k0 x hf kc ke
        intro H locs ls hin hl
        obtain ⟨hP, hD, hS⟩ := hin
        unfold fX6_days_b105 at hf
        refine lv_istore (lv' := [(7, .int k0), (0, .ref (a 0)), (1, .int x1), (3, .int x3), (4, .long x4), (6, .int x6), (8, .int x8)]) hx hb dX6_days_105 hl (by decide) rfl (fun ls hl => ?_)
        refine lv_iinc (v := (x8 + (1 : Int32))) (lv' := [(8, .int (x8 + (1 : Int32))), (7, .int k0), (0, .ref (a 0)), (1, .int x1), (3, .int x3), (4, .long x4), (6, .int x6)]) hx hb dX6_days_107 hl (k := 6) rfl rfl (by decide) rfl (fun ls hl => ?_)
        refine lv_goto (tgt := 60) hx hb dX6_days_110 (by decide) ?_
        obtain rfl := Option.some.inj hf
        exact kc _ rfl H locs ls ⟨hP, hD, hS⟩ (lv_sub hl [2, 3, 4, 5, 6, 1, 0] rfl)
      have b103 : ∀ (st : MS) (x1 : Int32) (x3 : Int32) (x4 : Int64) (x6 : Int32) (x7 : Int32) (x8 : Int32) (x : (Int32 × Int32) ⊕ (Int32 × Int32)), fX6_days_b103 st x1 x3 x4 x6 x7 x8 = some x → (∀ s', x = .inl s' → (∀ (H : Heap) (locs : List Loc) (ls : Array Slot), IN (dC, dI) (WX6 a b cI cJ cZ st) A s.heap H locs → lv_has ls 9 [(0, .ref (a 0)), (1, .int x1), (3, .int x3), (4, .long x4), (6, .int x6), (7, .int s'.1), (8, .int s'.2)] → W p l e (headSpec wsX6_days rX6_days).room s m args below meth c H locs 0 0 QQ (F0 m 60 ls []))) → (∀ r, x = .inr r → (∀ (H : Heap) (locs : List Loc) (ls : Array Slot), IN (dC, dI) (WX6 a b cI cJ cZ st) A s.heap H locs → lv_has ls 9 [(0, .ref (a 0)), (1, .int x1), (3, .int x3), (4, .long x4), (6, .int x6), (7, .int r.1), (8, .int r.2)] → W p l e (headSpec wsX6_days rX6_days).room s m args below meth c H locs 0 0 QQ (F0 m 113 ls []))) → (∀ (H : Heap) (locs : List Loc) (ls : Array Slot), IN (dC, dI) (WX6 a b cI cJ cZ st) A s.heap H locs → lv_has ls 9 [(0, .ref (a 0)), (1, .int x1), (3, .int x3), (4, .long x4), (6, .int x6), (7, .int x7), (8, .int x8)] → W p l e (headSpec wsX6_days rX6_days).room s m args below meth c H locs 0 0 QQ (F0 m 103 ls [])) := by
        intro st x1 x3 x4 x6 x7 x8 x hf kc ke
        intro H locs ls hin hl
        obtain ⟨hP, hD, hS⟩ := hin
        unfold fX6_days_b103 at hf
        refine lv_iload hx hb dX6_days_103 (lv_at hl 5 rfl) ?_
        exact b105 st x1 x3 x4 x6 x8 x7 _ hf kc ke H locs ls ⟨hP, hD, hS⟩ (lv_sub hl [0, 1, 2, 3, 4, 6] rfl)
      refine loop_ind (P := fun s0 => ∀ (H : Heap) (locs : List Loc) (ls : Array Slot), IN (dC, dI) (WX6 a b cI cJ cZ st) A s.heap H locs → lv_has ls 9 [(0, .ref (a 0)), (1, .int x1), (3, .int x3), (4, .long x4), (6, .int x6), (7, .int s0.1), (8, .int s0.2)] → W p l e (headSpec wsX6_days rX6_days).room s m args below meth c H locs 0 0 QQ (F0 m 60 ls [])) (Q := fun r => ∀ (H : Heap) (locs : List Loc) (ls : Array Slot), IN (dC, dI) (WX6 a b cI cJ cZ st) A s.heap H locs → lv_has ls 9 [(0, .ref (a 0)), (1, .int x1), (3, .int x3), (4, .long x4), (6, .int x6), (7, .int r.1), (8, .int r.2)] → W p l e (headSpec wsX6_days rX6_days).room s m args below meth c H locs 0 0 QQ (F0 m 113 ls [])) ?_ fu s0 r
      clear fu s0 r
      rintro ⟨x7, x8⟩ x hf kc ke
      replace hf : fX6_days_l60 st x1 x3 x4 x6 x7 x8 = some x := hf
      replace kc : (∀ s', x = .inl s' → (∀ (H : Heap) (locs : List Loc) (ls : Array Slot), IN (dC, dI) (WX6 a b cI cJ cZ st) A s.heap H locs → lv_has ls 9 [(0, .ref (a 0)), (1, .int x1), (3, .int x3), (4, .long x4), (6, .int x6), (7, .int s'.1), (8, .int s'.2)] → W p l e (headSpec wsX6_days rX6_days).room s m args below meth c H locs 0 0 QQ (F0 m 60 ls []))) := kc
      replace ke : (∀ r, x = .inr r → (∀ (H : Heap) (locs : List Loc) (ls : Array Slot), IN (dC, dI) (WX6 a b cI cJ cZ st) A s.heap H locs → lv_has ls 9 [(0, .ref (a 0)), (1, .int x1), (3, .int x3), (4, .long x4), (6, .int x6), (7, .int r.1), (8, .int r.2)] → W p l e (headSpec wsX6_days rX6_days).room s m args below meth c H locs 0 0 QQ (F0 m 113 ls []))) := ke
      intro H locs ls hin hl
      obtain ⟨hP, hD, hS⟩ := hin
      unfold fX6_days_l60 at hf
      refine lv_iload hx hb dX6_days_60 (lv_at hl 6 rfl) ?_
      refine lv_aload_n hx hb dX6_days_62 rfl (lv_at hl 0 rfl) ?_
      refine va_get (D := (dC, dI)) (ci := 6) (v := .int (MS_holdings st)) (C := RX6) (T := TX6) (N := 26) hx hb hts kX6_days_X6 hown hK hP 0 rfl rfl 2 (by decide) (hts _ mX6_days_4) (fun _ h9 => h9) rfl dX6_days_63 ?_
      refine lv_icmp_ge (tgt := 113) hx hb dX6_days_66 (by decide) (fun c14 => ?_) (fun c14 => ?_)
      · replace hf := it_p c14 hf
        obtain rfl := Option.some.inj hf
        exact ke _ rfl H locs ls ⟨hP, hD, hS⟩ (lv_sub hl [0, 1, 2, 3, 4, 5, 6] rfl)
      · replace hf := it_n c14 hf
        refine lv_aload_n hx hb dX6_days_69 rfl (lv_at hl 0 rfl) ?_
        refine va_get (D := (dC, dI)) (ci := 6) (v := .ref (a 4)) (C := RX6) (T := TX6) (N := 26) hx hb hts kX6_days_X6 hown hK hP 0 rfl rfl 6 (by decide) (hts _ mX6_days_5) (fun _ h9 => h9) rfl dX6_days_70 ?_
        refine lv_iload hx hb dX6_days_73 (lv_at hl 6 rfl) ?_
        obtain ⟨hi15, hf⟩ := it_s hf
        refine va_iald hx hb hK hP 4 0 rfl rfl (inb_in hi15) dX6_days_75 ?_
        refine lv_iload hx hb dX6_days_76 (lv_at hl 4 rfl) ?_
        refine lv_icmp_le (tgt := 103) hx hb dX6_days_78 (by decide) (fun c16 => ?_) (fun c16 => ?_)
        · replace hf := it_p c16 hf
          exact b103 st x1 x3 x4 x6 x7 x8 _ hf kc ke H locs ls ⟨hP, hD, hS⟩ (lv_sub hl [0, 1, 2, 3, 4, 5, 6] rfl)
        · replace hf := it_n c16 hf
          refine lv_aload_n hx hb dX6_days_81 rfl (lv_at hl 0 rfl) ?_
          refine va_get (D := (dC, dI)) (ci := 6) (v := .ref (a 4)) (C := RX6) (T := TX6) (N := 26) hx hb hts kX6_days_X6 hown hK hP 0 rfl rfl 6 (by decide) (hts _ mX6_days_5) (fun _ h9 => h9) rfl dX6_days_82 ?_
          refine lv_iload hx hb dX6_days_85 (lv_at hl 6 rfl) ?_
          obtain ⟨hi17, hf⟩ := it_s hf
          refine va_iald hx hb hK hP 4 0 rfl rfl (inb_in hi17) dX6_days_87 ?_
          refine lv_iload hx hb dX6_days_88 (lv_at hl 5 rfl) ?_
          refine lv_icmp_ge (tgt := 103) hx hb dX6_days_90 (by decide) (fun c18 => ?_) (fun c18 => ?_)
          · replace hf := it_p c18 hf
            exact b103 st x1 x3 x4 x6 x7 x8 _ hf kc ke H locs ls ⟨hP, hD, hS⟩ (lv_sub hl [0, 1, 2, 3, 4, 5, 6] rfl)
          · replace hf := it_n c18 hf
            refine lv_aload_n hx hb dX6_days_93 rfl (lv_at hl 0 rfl) ?_
            refine va_get (D := (dC, dI)) (ci := 6) (v := .ref (a 4)) (C := RX6) (T := TX6) (N := 26) hx hb hts kX6_days_X6 hown hK hP 0 rfl rfl 6 (by decide) (hts _ mX6_days_5) (fun _ h9 => h9) rfl dX6_days_94 ?_
            refine lv_iload hx hb dX6_days_97 (lv_at hl 6 rfl) ?_
            obtain ⟨hi19, hf⟩ := it_s hf
            refine va_iald hx hb hK hP 4 0 rfl rfl (inb_in hi19) dX6_days_99 ?_
            refine lv_goto (tgt := 105) hx hb dX6_days_100 (by decide) ?_
            exact b105 st x1 x3 x4 x6 x8 ((MS_since st) (x8).toNatClampNeg) _ hf kc ke H locs ls ⟨hP, hD, hS⟩ (lv_sub hl [0, 1, 2, 3, 4, 6] rfl)
    refine loop_ind (P := fun s0 => ∀ (H : Heap) (locs : List Loc) (ls : Array Slot), IN (dC, dI) (WX6 a b cI cJ cZ s0.1) A s.heap H locs → lv_has ls 9 [(0, .ref (a 0)), (1, .int x1), (3, .int x3), (4, .long s0.2.1), (6, .int s0.2.2)] → W p l e (headSpec wsX6_days rX6_days).room s m args below meth c H locs 0 0 QQ (F0 m 46 ls [])) (Q := fun r => ∀ (H : Heap) (locs : List Loc) (ls : Array Slot), IN (dC, dI) (WX6 a b cI cJ cZ r.1) A s.heap H locs → lv_has ls 9 [(0, .ref (a 0)), (1, .int x1), (3, .int x3), (4, .long r.2.1), (6, .int r.2.2)] → W p l e (headSpec wsX6_days rX6_days).room s m args below meth c H locs 0 0 QQ (F0 m 144 ls [])) ?_ fu s0 r
    clear fu s0 r
    rintro ⟨st, x4, x6⟩ x hf kc ke
    replace hf : fX6_days_l46 x1 x3 st x4 x6 = some x := hf
    replace kc : (∀ s', x = .inl s' → (∀ (H : Heap) (locs : List Loc) (ls : Array Slot), IN (dC, dI) (WX6 a b cI cJ cZ s'.1) A s.heap H locs → lv_has ls 9 [(0, .ref (a 0)), (1, .int x1), (3, .int x3), (4, .long s'.2.1), (6, .int s'.2.2)] → W p l e (headSpec wsX6_days rX6_days).room s m args below meth c H locs 0 0 QQ (F0 m 46 ls []))) := kc
    replace ke : (∀ r, x = .inr r → (∀ (H : Heap) (locs : List Loc) (ls : Array Slot), IN (dC, dI) (WX6 a b cI cJ cZ r.1) A s.heap H locs → lv_has ls 9 [(0, .ref (a 0)), (1, .int x1), (3, .int x3), (4, .long r.2.1), (6, .int r.2.2)] → W p l e (headSpec wsX6_days rX6_days).room s m args below meth c H locs 0 0 QQ (F0 m 144 ls []))) := ke
    intro H locs ls hin hl
    obtain ⟨hP, hD, hS⟩ := hin
    unfold fX6_days_l46 at hf
    refine lv_iload hx hb dX6_days_46 (lv_at hl 4 rfl) ?_
    refine lv_iload_n hx hb dX6_days_48 rfl (lv_at hl 2 rfl) ?_
    refine lv_icmp_gt (tgt := 144) hx hb dX6_days_49 (by decide) (fun c13 => ?_) (fun c13 => ?_)
    · replace hf := it_p c13 hf
      obtain rfl := Option.some.inj hf
      exact ke _ rfl H locs ls ⟨hP, hD, hS⟩ (lv_sub hl [0, 1, 2, 3, 4] rfl)
    · replace hf := it_n c13 hf
      refine lv_iload_n hx hb dX6_days_52 rfl (lv_at hl 2 rfl) ?_
      refine lv_iconst (v := (1 : Int32)) hx hb dX6_days_53 (by decide) ?_
      refine lv_iadd hx hb dX6_days_54 ?_
      refine lv_istore (lv' := [(7, .int (x3 + (1 : Int32))), (0, .ref (a 0)), (1, .int x1), (3, .int x3), (4, .long x4), (6, .int x6)]) hx hb dX6_days_55 hl (by decide) rfl (fun ls hl => ?_)
      refine lv_iconst (v := (0 : Int32)) hx hb dX6_days_57 (by decide) ?_
      refine lv_istore (lv' := [(8, .int (0 : Int32)), (7, .int (x3 + (1 : Int32))), (0, .ref (a 0)), (1, .int x1), (3, .int x3), (4, .long x4), (6, .int x6)]) hx hb dX6_days_58 hl (by decide) rfl (fun ls hl => ?_)
      obtain ⟨y20, hlp, hf⟩ := bind_s hf
      refine l60 st x1 x3 x4 x6 fuelN ((x3 + (1 : Int32)), (0 : Int32)) y20 hlp ?_ H locs ls ⟨hP, hD, hS⟩ (lv_sub hl [2, 3, 4, 5, 6, 1, 0] rfl)
      intro H locs ls hin hl
      obtain ⟨hP, hD, hS⟩ := hin
      refine lv_aload_n hx hb dX6_days_113 rfl (lv_at hl 0 rfl) ?_
      refine lv_iload hx hb dX6_days_114 (lv_at hl 4 rfl) ?_
      obtain ⟨p21, hc22, hf⟩ := bind_s hf
      refine cmV (wr := []) ⟨hx, hb, hml, hown, hts⟩ (ct_X6_shares l dC dI a b cI cJ cZ H.size st x6 p21 hc22) (cwV 1 hts gX6_days_X6_shares rfl rfl rfl (by decide +kernel) ⟨(Nat.le_of_ble_eq_true rfl), (Nat.le_of_ble_eq_true rfl)⟩) hK hP hD hS hA [0, 1, 2, 3, 4, 5, 6, 7, 8, 9, 10, 11, 12, 13, 14, 15, 16, 17, 18, 19, 20] [] rfl rfl (by decide) rfl (by decide) (by decide) rfl rfl rfl hl.1 rfl (Nat.le_of_ble_eq_true rfl) (Nat.le_of_ble_eq_true rfl) (Nat.le_of_ble_eq_true rfl) dX6_days_116 (fun H locs hP hD hS => ?_)
      replace hP : va_P (dC, dI) vwCl (WX6 a b cI cJ cZ p21) H := hP
      replace hD : va_D A (WX6 a b cI cJ cZ p21) := hD
      refine W.eq (g2 := F0 m 119 ls []) rfl ?_
      refine lv_lload hx hb dX6_days_119 (lv_at hl 3 rfl) ?_
      refine lv_aload_n hx hb dX6_days_121 rfl (lv_at hl 0 rfl) ?_
      refine va_get (D := (dC, dI)) (ci := 6) (v := .ref (a 18)) (C := RX6) (T := TX6) (N := 26) hx hb hts kX6_days_X6 hown hK hP 0 rfl rfl 23 (by decide) (hts _ mX6_days_6) (fun _ h9 => h9) rfl dX6_days_122 ?_
      refine lv_iload_n hx hb dX6_days_125 rfl (lv_at hl 1 rfl) ?_
      obtain ⟨hi23, hf⟩ := it_s hf
      refine va_lald hx hb hK hP 18 1 rfl rfl (inb_in hi23) dX6_days_126 ?_
      refine lv_iload hx hb dX6_days_127 (lv_at hl 5 rfl) ?_
      refine lv_iload hx hb dX6_days_129 (lv_at hl 4 rfl) ?_
      refine lv_isub hx hb dX6_days_131 ?_
      refine lv_i2l hx hb dX6_days_132 rfl ?_
      refine lv_lmul hx hb dX6_days_133 ?_
      refine lv_ladd hx hb dX6_days_134 ?_
      refine lv_lstore (lv' := [(4, .long (x4 + (((MS_share p21) (x1).toNatClampNeg) * (Int32.toInt64 (y20.1 - x6))))), (0, .ref (a 0)), (1, .int x1), (3, .int x3), (6, .int x6), (7, .int y20.1), (8, .int y20.2)]) hx hb dX6_days_135 hl (by decide) rfl (fun ls hl => ?_)
      refine lv_iload hx hb dX6_days_137 (lv_at hl 5 rfl) ?_
      refine lv_istore (lv' := [(6, .int y20.1), (4, .long (x4 + (((MS_share p21) (x1).toNatClampNeg) * (Int32.toInt64 (y20.1 - x6))))), (0, .ref (a 0)), (1, .int x1), (3, .int x3), (7, .int y20.1), (8, .int y20.2)]) hx hb dX6_days_139 hl (by decide) rfl (fun ls hl => ?_)
      refine lv_goto (tgt := 46) hx hb dX6_days_141 (by decide) ?_
      obtain rfl := Option.some.inj hf
      exact kc _ rfl H locs ls ⟨hP, hD, hS⟩ (lv_sub hl [2, 3, 4, 1, 0] rfl)
  have main : ∀ (H : Heap) (locs : List Loc) (ls : Array Slot), IN (dC, dI) (WX6 a b cI cJ cZ st) A s.heap H locs → lv_has ls 9 [(0, .ref (a 0)), (1, .int x1), (2, .int x2), (3, .int x3)] → W p l e (headSpec wsX6_days rX6_days).room s m args below meth c H locs 0 0 QQ (F0 m 0 ls []) := by
    intro H locs ls hin hl
    obtain ⟨hP, hD, hS⟩ := hin
    unfold fX6_days at hf
    refine lv_aload_n hx hb dX6_days_0 rfl (lv_at hl 0 rfl) ?_
    refine lv_iconst (v := (0 : Int32)) hx hb dX6_days_1 (by decide) ?_
    refine va_put (D := (dC, dI)) (ci := 6) (v := .int (0 : Int32)) (ty := .int) (C := RX6) (T := TX6) (N := 26) hx hb hts kX6_days_X6 tyX6 tyX6_ok nmX6 hown hK hP hD hS 0 rfl rfl 0 (by decide) (hts _ mX6_days_1) (fun _ h9 => h9) rfl (by decide +kernel) rfl rfl (Nat.le_of_ble_eq_true rfl) dX6_days_2 (fun H locs hP hD hS => ?_)
    obtain ⟨s1, hs2, hf⟩ := bnd_e hf
    replace hP := putP_thrown hs2 hP
    replace hD := putD_thrown hs2 hD
    refine lv_aload_n hx hb dX6_days_5 rfl (lv_at hl 0 rfl) ?_
    refine lv_iload_n hx hb dX6_days_6 rfl (lv_at hl 1 rfl) ?_
    obtain ⟨r3, hc4, hf⟩ := bind_s hf
    refine cpV (v := .int r3) ⟨hx, hb, hml, hown, hts⟩ (ct_X6_noUnit l dC dI a b cI cJ cZ s1 x1 r3 hc4) (cwV 1 hts gX6_days_X6_noUnit rfl rfl rfl (by decide +kernel) ⟨(Nat.le_of_ble_eq_true rfl), (Nat.le_of_ble_eq_true rfl)⟩) hK hP [0, 1, 2, 3, 4, 5, 6, 7, 8, 9, 10, 11, 12, 13, 14, 15, 16, 17, 18, 19, 20] rfl rfl rfl rfl hl.1 rfl (Nat.le_of_ble_eq_true rfl) (Nat.le_of_ble_eq_true rfl) (Nat.le_of_ble_eq_true rfl) dX6_days_7 ?_
    refine lv_if_eq (tgt := 17) hx hb dX6_days_10 (by decide) (fun c5 => ?_) (fun c5 => ?_)
    · replace hf := it_p c5 hf
      refine lv_iload_n hx hb dX6_days_17 rfl (lv_at hl 2 rfl) ?_
      obtain ⟨r6, hc7, hf⟩ := bind_s hf
      refine cpS (v := .int r6) ⟨hx, hb, hml, hown, hts⟩ (ct_X6_noDay l dC dI cI cJ cZ x2 r6 hc7) (va_cwS 1 hts gX6_days_X6_noDay rfl rfl rfl (by decide +kernel) ⟨(Nat.le_of_ble_eq_true rfl), (Nat.le_of_ble_eq_true rfl)⟩) hK hP [] rfl rfl hl.1 rfl (Nat.le_of_ble_eq_true rfl) (Nat.le_of_ble_eq_true rfl) (Nat.le_of_ble_eq_true rfl) dX6_days_18 ?_
      refine lv_if_ne (tgt := 36) hx hb dX6_days_21 (by decide) (fun c8 => ?_) (fun c8 => ?_)
      · replace hf := it_n c8 hf
        refine lv_ldc2 (v := (-2 : Int64)) hx hb hown (hts _ mX6_days_3) dX6_days_36 ?_
        obtain rfl := Option.some.inj hf
        rw [hQ]
        exact W.lret hx hb hr (fun t ht hW => ⟨rfl, ⟨by rw [ht]; exact hP, hD⟩, hS.F ht⟩) hS.2.2 dX6_days_39
      · replace hf := it_p c8 hf
        refine lv_iload_n hx hb dX6_days_24 rfl (lv_at hl 3 rfl) ?_
        obtain ⟨r9, hc10, hf⟩ := bind_s hf
        refine cpS (v := .int r9) ⟨hx, hb, hml, hown, hts⟩ (ct_X6_noDay l dC dI cI cJ cZ x3 r9 hc10) (va_cwS 1 hts gX6_days_X6_noDay rfl rfl rfl (by decide +kernel) ⟨(Nat.le_of_ble_eq_true rfl), (Nat.le_of_ble_eq_true rfl)⟩) hK hP [] rfl rfl hl.1 rfl (Nat.le_of_ble_eq_true rfl) (Nat.le_of_ble_eq_true rfl) (Nat.le_of_ble_eq_true rfl) dX6_days_25 ?_
        refine lv_if_ne (tgt := 36) hx hb dX6_days_28 (by decide) (fun c11 => ?_) (fun c11 => ?_)
        · replace hf := it_n c11 hf
          refine lv_ldc2 (v := (-2 : Int64)) hx hb hown (hts _ mX6_days_3) dX6_days_36 ?_
          obtain rfl := Option.some.inj hf
          rw [hQ]
          exact W.lret hx hb hr (fun t ht hW => ⟨rfl, ⟨by rw [ht]; exact hP, hD⟩, hS.F ht⟩) hS.2.2 dX6_days_39
        · replace hf := it_p c11 hf
          refine lv_iload_n hx hb dX6_days_31 rfl (lv_at hl 3 rfl) ?_
          refine lv_iload_n hx hb dX6_days_32 rfl (lv_at hl 2 rfl) ?_
          refine lv_icmp_ge (tgt := 40) hx hb dX6_days_33 (by decide) (fun c12 => ?_) (fun c12 => ?_)
          · replace hf := it_p c12 hf
            refine lv_lconst (v := (0 : Int64)) hx hb dX6_days_40 (by decide) ?_
            refine lv_lstore (lv' := [(4, .long (0 : Int64)), (0, .ref (a 0)), (1, .int x1), (2, .int x2), (3, .int x3)]) hx hb dX6_days_41 hl (by decide) rfl (fun ls hl => ?_)
            refine lv_iload_n hx hb dX6_days_43 rfl (lv_at hl 3 rfl) ?_
            refine lv_istore (lv' := [(6, .int x2), (4, .long (0 : Int64)), (0, .ref (a 0)), (1, .int x1), (2, .int x2), (3, .int x3)]) hx hb dX6_days_44 hl (by decide) rfl (fun ls hl => ?_)
            obtain ⟨y24, hlp, hf⟩ := bind_s hf
            refine l46 x1 x3 fuelN (s1, (0 : Int64), x2) y24 hlp ?_ H locs ls ⟨hP, hD, hS⟩ (lv_sub hl [2, 3, 5, 1, 0] rfl)
            intro H locs ls hin hl
            obtain ⟨hP, hD, hS⟩ := hin
            refine lv_lload hx hb dX6_days_144 (lv_at hl 3 rfl) ?_
            obtain rfl := Option.some.inj hf
            rw [hQ]
            exact W.lret hx hb hr (fun t ht hW => ⟨rfl, ⟨by rw [ht]; exact hP, hD⟩, hS.F ht⟩) hS.2.2 dX6_days_146
          · replace hf := it_n c12 hf
            refine lv_ldc2 (v := (-2 : Int64)) hx hb hown (hts _ mX6_days_3) dX6_days_36 ?_
            obtain rfl := Option.some.inj hf
            rw [hQ]
            exact W.lret hx hb hr (fun t ht hW => ⟨rfl, ⟨by rw [ht]; exact hP, hD⟩, hS.F ht⟩) hS.2.2 dX6_days_39
    · replace hf := it_n c5 hf
      refine lv_ldc2 (v := (-1 : Int64)) hx hb hown (hts _ mX6_days_2) dX6_days_13 ?_
      obtain rfl := Option.some.inj hf
      rw [hQ]
      exact W.lret hx hb hr (fun t ht hW => ⟨rfl, ⟨by rw [ht]; exact hP, hD⟩, hS.F ht⟩) hS.2.2 dX6_days_16
  exact main s.heap [] ls ⟨hP, hD, va_S.rf⟩ hl
def rX6_row : Room := { frames := 2, cells := 0, slots := 0, locals := 46 }
theorem kX6_row_X6 : ∀ w ∈ wsX60, w ∈ wsX6_row := fun w h => (List.mem_cons_of_mem _ (List.mem_append_right _ h))
theorem mX6_row_1 : Cond.fieldLink RX6 76 "SmokeLedgerModel" "thrown" "I" ∈ wsX6_row := List.mem_of_getElem? (i := 1) rfl
theorem mX6_row_2 : Cond.constantLong RX6 124 (3) ∈ wsX6_row := List.mem_of_getElem? (i := 2) rfl
theorem mX6_row_3 : Cond.constantLong RX6 126 (100000) ∈ wsX6_row := List.mem_of_getElem? (i := 3) rfl
theorem mX6_row_4 : Cond.fieldLink RX6 90 "SmokeLedgerModel" "rows" "I" ∈ wsX6_row := List.mem_of_getElem? (i := 4) rfl
theorem mX6_row_5 : Cond.fieldLink RX6 26 "SmokeLedgerModel" "unitOf" "[I" ∈ wsX6_row := List.mem_of_getElem? (i := 5) rfl
theorem mX6_row_6 : Cond.fieldLink RX6 29 "SmokeLedgerModel" "kind" "[I" ∈ wsX6_row := List.mem_of_getElem? (i := 6) rfl
theorem mX6_row_7 : Cond.fieldLink RX6 32 "SmokeLedgerModel" "amount" "[I" ∈ wsX6_row := List.mem_of_getElem? (i := 7) rfl
theorem mX6_row_8 : Cond.fieldLink RX6 35 "SmokeLedgerModel" "day" "[I" ∈ wsX6_row := List.mem_of_getElem? (i := 8) rfl
theorem mX6_row_9 : Cond.fieldLink RX6 38 "SmokeLedgerModel" "seller" "[I" ∈ wsX6_row := List.mem_of_getElem? (i := 9) rfl
set_option maxHeartbeats 4000000 in
set_option maxRecDepth 100000 in
theorem ct_X6_row (l : Launch) (dC : Nat → ClassId) (dI : Nat → Nat → Nat) (a b : Nat → Nat) (cI cJ cZ : ClassId) (sz : Nat) (st : MS) (x1 : Int32) (x2 : Int32) (x3 : Int32) (x4 : Int32) (x5 : Int32) (res : Int32 × MS) (hf : fX6_row st x1 x2 x3 x4 x5 = some res) : Met l yX6_row wsX6_row rX6_row (Pm (dC, dI) (tyT cI cJ cZ) (WX6 a b cI cJ cZ st) sz [.ref (a 0), .int x1, .int x2, .int x3, .int x4, .int x5]) (Qm (dC, dI) (some (.int res.1)) (WX6 a b cI cJ cZ res.2) (va_A (WX6 a b cI cJ cZ st) sz)) 0 0 (va_A (WX6 a b cI cJ cZ st) sz) := by
  refine Met.ofW (cc := cX6_row) (maxL := 6) (ret := (some .int)) (by decide) rfl ?_
  intro p e s m args below meth c s₁ B hml hv
  obtain ⟨hargs, hsz, hP, hK, hD0⟩ := hv
  have hx := B.exec
  have hb := B.bytes
  have hr := B.returns
  have hts := atoms_spec (ws := wsX6_row) B.pre
  have hown : s.vm.findClass RX6 = some m.cls := findClass_of_methodNamed B.named
  have hlocks := B.notSynchronized
  subst hsz
  have hD := hD0.self (sz := s.heap.size)
  generalize hAe : va_A (WX6 a b cI cJ cZ st) s.heap.size = A at hD ⊢
  have hA : ∀ q : Nat, s.heap.size ≤ q → A q := fun q h => by rw [← hAe]; exact Or.inr h
  have hl := lv_entry ([.ref (a 0), .int x1, .int x2, .int x3, .int x4, .int x5]) (n := 6) (Nat.le_of_ble_eq_true rfl)
  refine W.eq (hargs ▸ lg_entry_eq m [.ref (a 0), .int x1, .int x2, .int x3, .int x4, .int x5] 6) ?_
  generalize (lg_sl ([.ref (a 0), .int x1, .int x2, .int x3, .int x4, .int x5]) ++ List.replicate (6 - (lg_sl ([.ref (a 0), .int x1, .int x2, .int x3, .int x4, .int x5])).length) Slot.unset).toArray = ls at hl ⊢
  have hl : lv_has ls 6 [(0, .ref (a 0)), (1, .int x1), (2, .int x2), (3, .int x3), (4, .int x4), (5, .int x5)] := hl
  obtain ⟨QQ, hQ⟩ : ∃ QQ : State → Prop, QQ = MQ below (Qm (dC, dI) (some (.int res.1)) (WX6 a b cI cJ cZ res.2) A) args s 0 0 (A) := ⟨_, rfl⟩
  rw [← hQ]
  have b31 : ∀ (st : MS) (x1 : Int32) (x2 : Int32) (x3 : Int32) (x4 : Int32) (x5 : Int32), fX6_row_b31 st x1 x2 x3 x4 x5 = some res → (∀ (H : Heap) (locs : List Loc) (ls : Array Slot), IN (dC, dI) (WX6 a b cI cJ cZ st) A s.heap H locs → lv_has ls 6 [(0, .ref (a 0)), (1, .int x1), (2, .int x2), (3, .int x3), (4, .int x4), (5, .int x5)] → W p l e (headSpec wsX6_row rX6_row).room s m args below meth c H locs 0 0 QQ (F0 m 31 ls [])) := by
    intro st x1 x2 x3 x4 x5 hf
    intro H locs ls hin hl
    obtain ⟨hP, hD, hS⟩ := hin
    unfold fX6_row_b31 at hf
    refine lv_iload_n hx hb dX6_row_31 rfl (lv_at hl 2 rfl) ?_
    refine lv_i2l hx hb dX6_row_32 rfl ?_
    refine lv_lconst (v := (0 : Int64)) hx hb dX6_row_33 (by decide) ?_
    refine lv_ldc2 (v := (3 : Int64)) hx hb hown (hts _ mX6_row_2) dX6_row_34 ?_
    obtain ⟨r7, hc8, hf⟩ := bind_s hf
    refine cpS (v := .int r7) ⟨hx, hb, hml, hown, hts⟩ (ct_X6_in l dC dI cI cJ cZ (Int32.toInt64 x2) (0 : Int64) (3 : Int64) r7 hc8) (va_cwS 3 hts gX6_row_X6_in rfl rfl rfl (by decide +kernel) ⟨(Nat.le_of_ble_eq_true rfl), (Nat.le_of_ble_eq_true rfl)⟩) hK hP [] rfl rfl hl.1 rfl (Nat.le_of_ble_eq_true rfl) (Nat.le_of_ble_eq_true rfl) (Nat.le_of_ble_eq_true rfl) dX6_row_37 ?_
    refine lv_if_eq (tgt := 63) hx hb dX6_row_40 (by decide) (fun c9 => ?_) (fun c9 => ?_)
    · replace hf := it_p c9 hf
      refine lv_bipush (v := (-2 : Int32)) hx hb dX6_row_63 (by decide) ?_
      obtain rfl := Option.some.inj hf
      rw [hQ]
      exact W.iret hx hb hr (fun t ht hW => ⟨rfl, ⟨by rw [ht]; exact hP, hD⟩, hS.F ht⟩) hS.2.2 dX6_row_65
    · replace hf := it_n c9 hf
      refine lv_iload_n hx hb dX6_row_43 rfl (lv_at hl 3 rfl) ?_
      refine lv_i2l hx hb dX6_row_44 rfl ?_
      refine lv_lconst (v := (1 : Int64)) hx hb dX6_row_45 (by decide) ?_
      refine lv_ldc2 (v := (100000 : Int64)) hx hb hown (hts _ mX6_row_3) dX6_row_46 ?_
      obtain ⟨r10, hc11, hf⟩ := bind_s hf
      refine cpS (v := .int r10) ⟨hx, hb, hml, hown, hts⟩ (ct_X6_in l dC dI cI cJ cZ (Int32.toInt64 x3) (1 : Int64) (100000 : Int64) r10 hc11) (va_cwS 3 hts gX6_row_X6_in rfl rfl rfl (by decide +kernel) ⟨(Nat.le_of_ble_eq_true rfl), (Nat.le_of_ble_eq_true rfl)⟩) hK hP [] rfl rfl hl.1 rfl (Nat.le_of_ble_eq_true rfl) (Nat.le_of_ble_eq_true rfl) (Nat.le_of_ble_eq_true rfl) dX6_row_49 ?_
      refine lv_if_eq (tgt := 63) hx hb dX6_row_52 (by decide) (fun c12 => ?_) (fun c12 => ?_)
      · replace hf := it_p c12 hf
        refine lv_bipush (v := (-2 : Int32)) hx hb dX6_row_63 (by decide) ?_
        obtain rfl := Option.some.inj hf
        rw [hQ]
        exact W.iret hx hb hr (fun t ht hW => ⟨rfl, ⟨by rw [ht]; exact hP, hD⟩, hS.F ht⟩) hS.2.2 dX6_row_65
      · replace hf := it_n c12 hf
        refine lv_iload hx hb dX6_row_55 (lv_at hl 4 rfl) ?_
        obtain ⟨r13, hc14, hf⟩ := bind_s hf
        refine cpS (v := .int r13) ⟨hx, hb, hml, hown, hts⟩ (ct_X6_noDay l dC dI cI cJ cZ x4 r13 hc14) (va_cwS 1 hts gX6_row_X6_noDay rfl rfl rfl (by decide +kernel) ⟨(Nat.le_of_ble_eq_true rfl), (Nat.le_of_ble_eq_true rfl)⟩) hK hP [] rfl rfl hl.1 rfl (Nat.le_of_ble_eq_true rfl) (Nat.le_of_ble_eq_true rfl) (Nat.le_of_ble_eq_true rfl) dX6_row_57 ?_
        refine lv_if_eq (tgt := 66) hx hb dX6_row_60 (by decide) (fun c15 => ?_) (fun c15 => ?_)
        · replace hf := it_p c15 hf
          refine lv_iload hx hb dX6_row_66 (lv_at hl 5 rfl) ?_
          refine lv_iload_n hx hb dX6_row_68 rfl (lv_at hl 1 rfl) ?_
          refine lv_icmp_ne (tgt := 75) hx hb dX6_row_69 (by decide) (fun c16 => ?_) (fun c16 => ?_)
          · replace hf := it_n c16 hf
            refine lv_aload_n hx hb dX6_row_75 rfl (lv_at hl 0 rfl) ?_
            refine va_get (D := (dC, dI)) (ci := 6) (v := .int (MS_rows st)) (C := RX6) (T := TX6) (N := 26) hx hb hts kX6_row_X6 hown hK hP 0 rfl rfl 7 (by decide) (hts _ mX6_row_4) (fun _ h9 => h9) rfl dX6_row_76 ?_
            refine lv_sipush (v := (200 : Int32)) hx hb dX6_row_79 (by decide) ?_
            refine lv_icmp_ne (tgt := 88) hx hb dX6_row_82 (by decide) (fun c17 => ?_) (fun c17 => ?_)
            · replace hf := it_n c17 hf
              refine lv_aload_n hx hb dX6_row_88 rfl (lv_at hl 0 rfl) ?_
              refine va_get (D := (dC, dI)) (ci := 6) (v := .ref (a 5)) (C := RX6) (T := TX6) (N := 26) hx hb hts kX6_row_X6 hown hK hP 0 rfl rfl 8 (by decide) (hts _ mX6_row_5) (fun _ h9 => h9) rfl dX6_row_89 ?_
              refine lv_aload_n hx hb dX6_row_92 rfl (lv_at hl 0 rfl) ?_
              refine va_get (D := (dC, dI)) (ci := 6) (v := .int (MS_rows st)) (C := RX6) (T := TX6) (N := 26) hx hb hts kX6_row_X6 hown hK hP 0 rfl rfl 7 (by decide) (hts _ mX6_row_4) (fun _ h9 => h9) rfl dX6_row_93 ?_
              refine lv_iload_n hx hb dX6_row_96 rfl (lv_at hl 1 rfl) ?_
              obtain ⟨hi18, hf⟩ := it_s hf
              refine va_iast hx hb hK hP hD hS 5 0 rfl rfl (inb_in hi18) dX6_row_97 (fun H locs hP hD hS => ?_)
              obtain ⟨s19, hs20, hf⟩ := bnd_e hf
              replace hP := putP_unitOf hs20 hP
              replace hD := putD_unitOf hs20 hD
              refine lv_aload_n hx hb dX6_row_98 rfl (lv_at hl 0 rfl) ?_
              refine va_get (D := (dC, dI)) (ci := 6) (v := .ref (a 6)) (C := RX6) (T := TX6) (N := 26) hx hb hts kX6_row_X6 hown hK hP 0 rfl rfl 9 (by decide) (hts _ mX6_row_6) (fun _ h9 => h9) rfl dX6_row_99 ?_
              refine lv_aload_n hx hb dX6_row_102 rfl (lv_at hl 0 rfl) ?_
              refine va_get (D := (dC, dI)) (ci := 6) (v := .int (MS_rows s19)) (C := RX6) (T := TX6) (N := 26) hx hb hts kX6_row_X6 hown hK hP 0 rfl rfl 7 (by decide) (hts _ mX6_row_4) (fun _ h9 => h9) rfl dX6_row_103 ?_
              refine lv_iload_n hx hb dX6_row_106 rfl (lv_at hl 2 rfl) ?_
              obtain ⟨hi21, hf⟩ := it_s hf
              refine va_iast hx hb hK hP hD hS 6 0 rfl rfl (inb_in hi21) dX6_row_107 (fun H locs hP hD hS => ?_)
              obtain ⟨s22, hs23, hf⟩ := bnd_e hf
              replace hP := putP_kind hs23 hP
              replace hD := putD_kind hs23 hD
              refine lv_aload_n hx hb dX6_row_108 rfl (lv_at hl 0 rfl) ?_
              refine va_get (D := (dC, dI)) (ci := 6) (v := .ref (a 7)) (C := RX6) (T := TX6) (N := 26) hx hb hts kX6_row_X6 hown hK hP 0 rfl rfl 10 (by decide) (hts _ mX6_row_7) (fun _ h9 => h9) rfl dX6_row_109 ?_
              refine lv_aload_n hx hb dX6_row_112 rfl (lv_at hl 0 rfl) ?_
              refine va_get (D := (dC, dI)) (ci := 6) (v := .int (MS_rows s22)) (C := RX6) (T := TX6) (N := 26) hx hb hts kX6_row_X6 hown hK hP 0 rfl rfl 7 (by decide) (hts _ mX6_row_4) (fun _ h9 => h9) rfl dX6_row_113 ?_
              refine lv_iload_n hx hb dX6_row_116 rfl (lv_at hl 3 rfl) ?_
              obtain ⟨hi24, hf⟩ := it_s hf
              refine va_iast hx hb hK hP hD hS 7 0 rfl rfl (inb_in hi24) dX6_row_117 (fun H locs hP hD hS => ?_)
              obtain ⟨s25, hs26, hf⟩ := bnd_e hf
              replace hP := putP_amount hs26 hP
              replace hD := putD_amount hs26 hD
              refine lv_aload_n hx hb dX6_row_118 rfl (lv_at hl 0 rfl) ?_
              refine va_get (D := (dC, dI)) (ci := 6) (v := .ref (a 8)) (C := RX6) (T := TX6) (N := 26) hx hb hts kX6_row_X6 hown hK hP 0 rfl rfl 11 (by decide) (hts _ mX6_row_8) (fun _ h9 => h9) rfl dX6_row_119 ?_
              refine lv_aload_n hx hb dX6_row_122 rfl (lv_at hl 0 rfl) ?_
              refine va_get (D := (dC, dI)) (ci := 6) (v := .int (MS_rows s25)) (C := RX6) (T := TX6) (N := 26) hx hb hts kX6_row_X6 hown hK hP 0 rfl rfl 7 (by decide) (hts _ mX6_row_4) (fun _ h9 => h9) rfl dX6_row_123 ?_
              refine lv_iload hx hb dX6_row_126 (lv_at hl 4 rfl) ?_
              obtain ⟨hi27, hf⟩ := it_s hf
              refine va_iast hx hb hK hP hD hS 8 0 rfl rfl (inb_in hi27) dX6_row_128 (fun H locs hP hD hS => ?_)
              obtain ⟨s28, hs29, hf⟩ := bnd_e hf
              replace hP := putP_day hs29 hP
              replace hD := putD_day hs29 hD
              refine lv_aload_n hx hb dX6_row_129 rfl (lv_at hl 0 rfl) ?_
              refine va_get (D := (dC, dI)) (ci := 6) (v := .ref (a 9)) (C := RX6) (T := TX6) (N := 26) hx hb hts kX6_row_X6 hown hK hP 0 rfl rfl 12 (by decide) (hts _ mX6_row_9) (fun _ h9 => h9) rfl dX6_row_130 ?_
              refine lv_aload_n hx hb dX6_row_133 rfl (lv_at hl 0 rfl) ?_
              refine va_get (D := (dC, dI)) (ci := 6) (v := .int (MS_rows s28)) (C := RX6) (T := TX6) (N := 26) hx hb hts kX6_row_X6 hown hK hP 0 rfl rfl 7 (by decide) (hts _ mX6_row_4) (fun _ h9 => h9) rfl dX6_row_134 ?_
              refine lv_iload hx hb dX6_row_137 (lv_at hl 5 rfl) ?_
              obtain ⟨hi30, hf⟩ := it_s hf
              refine va_iast hx hb hK hP hD hS 9 0 rfl rfl (inb_in hi30) dX6_row_139 (fun H locs hP hD hS => ?_)
              obtain ⟨s31, hs32, hf⟩ := bnd_e hf
              replace hP := putP_seller hs32 hP
              replace hD := putD_seller hs32 hD
              refine lv_aload_n hx hb dX6_row_140 rfl (lv_at hl 0 rfl) ?_
              refine lv_dup hx hb dX6_row_141 rfl ?_
              refine va_get (D := (dC, dI)) (ci := 6) (v := .int (MS_rows s31)) (C := RX6) (T := TX6) (N := 26) hx hb hts kX6_row_X6 hown hK hP 0 rfl rfl 7 (by decide) (hts _ mX6_row_4) (fun _ h9 => h9) rfl dX6_row_142 ?_
              refine lv_iconst (v := (1 : Int32)) hx hb dX6_row_145 (by decide) ?_
              refine lv_iadd hx hb dX6_row_146 ?_
              refine va_put (D := (dC, dI)) (ci := 6) (v := .int ((MS_rows s31) + (1 : Int32))) (ty := .int) (C := RX6) (T := TX6) (N := 26) hx hb hts kX6_row_X6 tyX6 tyX6_ok nmX6 hown hK hP hD hS 0 rfl rfl 7 (by decide) (hts _ mX6_row_4) (fun _ h9 => h9) rfl (by decide +kernel) rfl rfl (Nat.le_of_ble_eq_true rfl) dX6_row_147 (fun H locs hP hD hS => ?_)
              obtain ⟨s33, hs34, hf⟩ := bnd_e hf
              replace hP := putP_rows hs34 hP
              replace hD := putD_rows hs34 hD
              refine lv_aload_n hx hb dX6_row_150 rfl (lv_at hl 0 rfl) ?_
              refine va_get (D := (dC, dI)) (ci := 6) (v := .int (MS_rows s33)) (C := RX6) (T := TX6) (N := 26) hx hb hts kX6_row_X6 hown hK hP 0 rfl rfl 7 (by decide) (hts _ mX6_row_4) (fun _ h9 => h9) rfl dX6_row_151 ?_
              refine lv_iconst (v := (1 : Int32)) hx hb dX6_row_154 (by decide) ?_
              refine lv_isub hx hb dX6_row_155 ?_
              obtain rfl := Option.some.inj hf
              rw [hQ]
              exact W.iret hx hb hr (fun t ht hW => ⟨rfl, ⟨by rw [ht]; exact hP, hD⟩, hS.F ht⟩) hS.2.2 dX6_row_156
            · replace hf := it_p c17 hf
              refine lv_bipush (v := (-4 : Int32)) hx hb dX6_row_85 (by decide) ?_
              obtain rfl := Option.some.inj hf
              rw [hQ]
              exact W.iret hx hb hr (fun t ht hW => ⟨rfl, ⟨by rw [ht]; exact hP, hD⟩, hS.F ht⟩) hS.2.2 dX6_row_87
          · replace hf := it_p c16 hf
            refine lv_bipush (v := (-3 : Int32)) hx hb dX6_row_72 (by decide) ?_
            obtain rfl := Option.some.inj hf
            rw [hQ]
            exact W.iret hx hb hr (fun t ht hW => ⟨rfl, ⟨by rw [ht]; exact hP, hD⟩, hS.F ht⟩) hS.2.2 dX6_row_74
        · replace hf := it_n c15 hf
          refine lv_bipush (v := (-2 : Int32)) hx hb dX6_row_63 (by decide) ?_
          obtain rfl := Option.some.inj hf
          rw [hQ]
          exact W.iret hx hb hr (fun t ht hW => ⟨rfl, ⟨by rw [ht]; exact hP, hD⟩, hS.F ht⟩) hS.2.2 dX6_row_65
  have main : ∀ (H : Heap) (locs : List Loc) (ls : Array Slot), IN (dC, dI) (WX6 a b cI cJ cZ st) A s.heap H locs → lv_has ls 6 [(0, .ref (a 0)), (1, .int x1), (2, .int x2), (3, .int x3), (4, .int x4), (5, .int x5)] → W p l e (headSpec wsX6_row rX6_row).room s m args below meth c H locs 0 0 QQ (F0 m 0 ls []) := by
    intro H locs ls hin hl
    obtain ⟨hP, hD, hS⟩ := hin
    unfold fX6_row at hf
    refine lv_aload_n hx hb dX6_row_0 rfl (lv_at hl 0 rfl) ?_
    refine lv_iconst (v := (0 : Int32)) hx hb dX6_row_1 (by decide) ?_
    refine va_put (D := (dC, dI)) (ci := 6) (v := .int (0 : Int32)) (ty := .int) (C := RX6) (T := TX6) (N := 26) hx hb hts kX6_row_X6 tyX6 tyX6_ok nmX6 hown hK hP hD hS 0 rfl rfl 0 (by decide) (hts _ mX6_row_1) (fun _ h9 => h9) rfl (by decide +kernel) rfl rfl (Nat.le_of_ble_eq_true rfl) dX6_row_2 (fun H locs hP hD hS => ?_)
    obtain ⟨s1, hs2, hf⟩ := bnd_e hf
    replace hP := putP_thrown hs2 hP
    replace hD := putD_thrown hs2 hD
    refine lv_aload_n hx hb dX6_row_5 rfl (lv_at hl 0 rfl) ?_
    refine lv_iload_n hx hb dX6_row_6 rfl (lv_at hl 1 rfl) ?_
    obtain ⟨r3, hc4, hf⟩ := bind_s hf
    refine cpV (v := .int r3) ⟨hx, hb, hml, hown, hts⟩ (ct_X6_noUnit l dC dI a b cI cJ cZ s1 x1 r3 hc4) (cwV 1 hts gX6_row_X6_noUnit rfl rfl rfl (by decide +kernel) ⟨(Nat.le_of_ble_eq_true rfl), (Nat.le_of_ble_eq_true rfl)⟩) hK hP [0, 1, 2, 3, 4, 5, 6, 7, 8, 9, 10, 11, 12, 13, 14, 15, 16, 17, 18, 19, 20] rfl rfl rfl rfl hl.1 rfl (Nat.le_of_ble_eq_true rfl) (Nat.le_of_ble_eq_true rfl) (Nat.le_of_ble_eq_true rfl) dX6_row_7 ?_
    refine lv_if_ne (tgt := 29) hx hb dX6_row_10 (by decide) (fun c5 => ?_) (fun c5 => ?_)
    · replace hf := it_n c5 hf
      refine lv_iconst (v := (-1 : Int32)) hx hb dX6_row_29 (by decide) ?_
      obtain rfl := Option.some.inj hf
      rw [hQ]
      exact W.iret hx hb hr (fun t ht hW => ⟨rfl, ⟨by rw [ht]; exact hP, hD⟩, hS.F ht⟩) hS.2.2 dX6_row_30
    · replace hf := it_p c5 hf
      refine lv_iload hx hb dX6_row_13 (lv_at hl 5 rfl) ?_
      refine lv_bipush (v := (-9 : Int32)) hx hb dX6_row_15 (by decide) ?_
      refine lv_icmp_eq (tgt := 31) hx hb dX6_row_17 (by decide) (fun c6 => ?_) (fun c6 => ?_)
      · replace hf := it_p c6 hf
        exact b31 s1 x1 x2 x3 x4 x5 hf H locs ls ⟨hP, hD, hS⟩ (lv_sub hl [0, 1, 2, 3, 4, 5] rfl)
      · replace hf := it_n c6 hf
        refine lv_aload_n hx hb dX6_row_20 rfl (lv_at hl 0 rfl) ?_
        refine lv_iload hx hb dX6_row_21 (lv_at hl 5 rfl) ?_
        obtain ⟨r35, hc36, hf⟩ := bind_s hf
        refine cpV (v := .int r35) ⟨hx, hb, hml, hown, hts⟩ (ct_X6_noUnit l dC dI a b cI cJ cZ s1 x5 r35 hc36) (cwV 1 hts gX6_row_X6_noUnit rfl rfl rfl (by decide +kernel) ⟨(Nat.le_of_ble_eq_true rfl), (Nat.le_of_ble_eq_true rfl)⟩) hK hP [0, 1, 2, 3, 4, 5, 6, 7, 8, 9, 10, 11, 12, 13, 14, 15, 16, 17, 18, 19, 20] rfl rfl rfl rfl hl.1 rfl (Nat.le_of_ble_eq_true rfl) (Nat.le_of_ble_eq_true rfl) (Nat.le_of_ble_eq_true rfl) dX6_row_23 ?_
        refine lv_if_eq (tgt := 31) hx hb dX6_row_26 (by decide) (fun c37 => ?_) (fun c37 => ?_)
        · replace hf := it_p c37 hf
          exact b31 s1 x1 x2 x3 x4 x5 hf H locs ls ⟨hP, hD, hS⟩ (lv_sub hl [0, 1, 2, 3, 4, 5] rfl)
        · replace hf := it_n c37 hf
          refine lv_iconst (v := (-1 : Int32)) hx hb dX6_row_29 (by decide) ?_
          obtain rfl := Option.some.inj hf
          rw [hQ]
          exact W.iret hx hb hr (fun t ht hW => ⟨rfl, ⟨by rw [ht]; exact hP, hD⟩, hS.F ht⟩) hS.2.2 dX6_row_30
  exact main s.heap [] ls ⟨hP, hD, va_S.rf⟩ hl
def rX6_isDouble : Room := { frames := 2, cells := 0, slots := 0, locals := 49 }
theorem kX6_isDouble_X6 : ∀ w ∈ wsX60, w ∈ wsX6_isDouble := fun w h => (List.mem_cons_of_mem _ (List.mem_append_right _ h))
theorem mX6_isDouble_1 : Cond.fieldLink RX6 38 "SmokeLedgerModel" "seller" "[I" ∈ wsX6_isDouble := List.mem_of_getElem? (i := 1) rfl
theorem mX6_isDouble_2 : Cond.fieldLink RX6 65 "SmokeLedgerModel" "share" "[J" ∈ wsX6_isDouble := List.mem_of_getElem? (i := 2) rfl
theorem mX6_isDouble_3 : Cond.fieldLink RX6 26 "SmokeLedgerModel" "unitOf" "[I" ∈ wsX6_isDouble := List.mem_of_getElem? (i := 3) rfl
set_option maxHeartbeats 4000000 in
set_option maxRecDepth 100000 in
theorem ct_X6_isDouble (l : Launch) (dC : Nat → ClassId) (dI : Nat → Nat → Nat) (a b : Nat → Nat) (cI cJ cZ : ClassId) (sz : Nat) (st : MS) (x1 : Int32) (x2 : Int32) (res : Int32 × MS) (hf : fX6_isDouble st x1 x2 = some res) : Met l yX6_isDouble wsX6_isDouble rX6_isDouble (Pm (dC, dI) (tyT cI cJ cZ) (WX6 a b cI cJ cZ st) sz [.ref (a 0), .int x1, .int x2]) (Qm (dC, dI) (some (.int res.1)) (WX6 a b cI cJ cZ res.2) (va_A (WX6 a b cI cJ cZ st) sz)) 0 0 (va_A (WX6 a b cI cJ cZ st) sz) := by
  refine Met.ofW (cc := cX6_isDouble) (maxL := 3) (ret := (some .boolean)) (by decide) rfl ?_
  intro p e s m args below meth c s₁ B hml hv
  obtain ⟨hargs, hsz, hP, hK, hD0⟩ := hv
  have hx := B.exec
  have hb := B.bytes
  have hr := B.returns
  have hts := atoms_spec (ws := wsX6_isDouble) B.pre
  have hown : s.vm.findClass RX6 = some m.cls := findClass_of_methodNamed B.named
  have hlocks := B.notSynchronized
  subst hsz
  have hD := hD0.self (sz := s.heap.size)
  generalize hAe : va_A (WX6 a b cI cJ cZ st) s.heap.size = A at hD ⊢
  have hA : ∀ q : Nat, s.heap.size ≤ q → A q := fun q h => by rw [← hAe]; exact Or.inr h
  have hl := lv_entry ([.ref (a 0), .int x1, .int x2]) (n := 3) (Nat.le_of_ble_eq_true rfl)
  refine W.eq (hargs ▸ lg_entry_eq m [.ref (a 0), .int x1, .int x2] 3) ?_
  generalize (lg_sl ([.ref (a 0), .int x1, .int x2]) ++ List.replicate (3 - (lg_sl ([.ref (a 0), .int x1, .int x2])).length) Slot.unset).toArray = ls at hl ⊢
  have hl : lv_has ls 3 [(0, .ref (a 0)), (1, .int x1), (2, .int x2)] := hl
  obtain ⟨QQ, hQ⟩ : ∃ QQ : State → Prop, QQ = MQ below (Qm (dC, dI) (some (.int res.1)) (WX6 a b cI cJ cZ res.2) A) args s 0 0 (A) := ⟨_, rfl⟩
  rw [← hQ]
  have main : ∀ (H : Heap) (locs : List Loc) (ls : Array Slot), IN (dC, dI) (WX6 a b cI cJ cZ st) A s.heap H locs → lv_has ls 3 [(0, .ref (a 0)), (1, .int x1), (2, .int x2)] → W p l e (headSpec wsX6_isDouble rX6_isDouble).room s m args below meth c H locs 0 0 QQ (F0 m 0 ls []) := by
    intro H locs ls hin hl
    obtain ⟨hP, hD, hS⟩ := hin
    unfold fX6_isDouble at hf
    refine lv_aload_n hx hb dX6_isDouble_0 rfl (lv_at hl 0 rfl) ?_
    refine va_get (D := (dC, dI)) (ci := 6) (v := .ref (a 9)) (C := RX6) (T := TX6) (N := 26) hx hb hts kX6_isDouble_X6 hown hK hP 0 rfl rfl 12 (by decide) (hts _ mX6_isDouble_1) (fun _ h9 => h9) rfl dX6_isDouble_1 ?_
    refine lv_iload_n hx hb dX6_isDouble_4 rfl (lv_at hl 1 rfl) ?_
    obtain ⟨hi1, hf⟩ := it_s hf
    refine va_iald hx hb hK hP 9 0 rfl rfl (inb_in hi1) dX6_isDouble_5 ?_
    refine lv_bipush (v := (-9 : Int32)) hx hb dX6_isDouble_6 (by decide) ?_
    refine lv_icmp_ne (tgt := 13) hx hb dX6_isDouble_8 (by decide) (fun c2 => ?_) (fun c2 => ?_)
    · replace hf := it_n c2 hf
      refine lv_aload_n hx hb dX6_isDouble_13 rfl (lv_at hl 0 rfl) ?_
      refine lv_iload_n hx hb dX6_isDouble_14 rfl (lv_at hl 2 rfl) ?_
      obtain ⟨p3, hc4, hf⟩ := bind_s hf
      refine cmV (wr := []) ⟨hx, hb, hml, hown, hts⟩ (ct_X6_shares l dC dI a b cI cJ cZ H.size st x2 p3 hc4) (cwV 1 hts gX6_isDouble_X6_shares rfl rfl rfl (by decide +kernel) ⟨(Nat.le_of_ble_eq_true rfl), (Nat.le_of_ble_eq_true rfl)⟩) hK hP hD hS hA [0, 1, 2, 3, 4, 5, 6, 7, 8, 9, 10, 11, 12, 13, 14, 15, 16, 17, 18, 19, 20] [] rfl rfl (by decide) rfl (by decide) (by decide) rfl rfl rfl hl.1 rfl (Nat.le_of_ble_eq_true rfl) (Nat.le_of_ble_eq_true rfl) (Nat.le_of_ble_eq_true rfl) dX6_isDouble_15 (fun H locs hP hD hS => ?_)
      replace hP : va_P (dC, dI) vwCl (WX6 a b cI cJ cZ p3) H := hP
      replace hD : va_D A (WX6 a b cI cJ cZ p3) := hD
      refine W.eq (g2 := F0 m 18 ls []) rfl ?_
      refine lv_aload_n hx hb dX6_isDouble_18 rfl (lv_at hl 0 rfl) ?_
      refine va_get (D := (dC, dI)) (ci := 6) (v := .ref (a 18)) (C := RX6) (T := TX6) (N := 26) hx hb hts kX6_isDouble_X6 hown hK hP 0 rfl rfl 23 (by decide) (hts _ mX6_isDouble_2) (fun _ h9 => h9) rfl dX6_isDouble_19 ?_
      refine lv_aload_n hx hb dX6_isDouble_22 rfl (lv_at hl 0 rfl) ?_
      refine va_get (D := (dC, dI)) (ci := 6) (v := .ref (a 5)) (C := RX6) (T := TX6) (N := 26) hx hb hts kX6_isDouble_X6 hown hK hP 0 rfl rfl 8 (by decide) (hts _ mX6_isDouble_3) (fun _ h9 => h9) rfl dX6_isDouble_23 ?_
      refine lv_iload_n hx hb dX6_isDouble_26 rfl (lv_at hl 1 rfl) ?_
      obtain ⟨hi5, hf⟩ := it_s hf
      refine va_iald hx hb hK hP 5 0 rfl rfl (inb_in hi5) dX6_isDouble_27 ?_
      obtain ⟨hi6, hf⟩ := it_s hf
      refine va_lald hx hb hK hP 18 1 rfl rfl (inb_in hi6) dX6_isDouble_28 ?_
      refine lv_lconst (v := (0 : Int64)) hx hb dX6_isDouble_29 (by decide) ?_
      refine W.lcmp hx hb dX6_isDouble_30 ?_
      refine lv_if_le (tgt := 54) hx hb dX6_isDouble_31 (by decide) (fun c7 => ?_) (fun c7 => ?_)
      · replace hf := it_p c7 hf
        refine lv_iconst (v := (0 : Int32)) hx hb dX6_isDouble_54 (by decide) ?_
        obtain rfl := Option.some.inj hf
        rw [hQ]
        exact W.zret hx hb hr rfl (fun t ht hW => ⟨rfl, ⟨by rw [ht]; exact hP, hD⟩, hS.F ht⟩) hS.2.2 dX6_isDouble_55
      · replace hf := it_n c7 hf
        refine lv_aload_n hx hb dX6_isDouble_34 rfl (lv_at hl 0 rfl) ?_
        refine va_get (D := (dC, dI)) (ci := 6) (v := .ref (a 18)) (C := RX6) (T := TX6) (N := 26) hx hb hts kX6_isDouble_X6 hown hK hP 0 rfl rfl 23 (by decide) (hts _ mX6_isDouble_2) (fun _ h9 => h9) rfl dX6_isDouble_35 ?_
        refine lv_aload_n hx hb dX6_isDouble_38 rfl (lv_at hl 0 rfl) ?_
        refine va_get (D := (dC, dI)) (ci := 6) (v := .ref (a 9)) (C := RX6) (T := TX6) (N := 26) hx hb hts kX6_isDouble_X6 hown hK hP 0 rfl rfl 12 (by decide) (hts _ mX6_isDouble_1) (fun _ h9 => h9) rfl dX6_isDouble_39 ?_
        refine lv_iload_n hx hb dX6_isDouble_42 rfl (lv_at hl 1 rfl) ?_
        obtain ⟨hi8, hf⟩ := it_s hf
        refine va_iald hx hb hK hP 9 0 rfl rfl (inb_in hi8) dX6_isDouble_43 ?_
        obtain ⟨hi9, hf⟩ := it_s hf
        refine va_lald hx hb hK hP 18 1 rfl rfl (inb_in hi9) dX6_isDouble_44 ?_
        refine lv_lconst (v := (0 : Int64)) hx hb dX6_isDouble_45 (by decide) ?_
        refine W.lcmp hx hb dX6_isDouble_46 ?_
        refine lv_if_le (tgt := 54) hx hb dX6_isDouble_47 (by decide) (fun c10 => ?_) (fun c10 => ?_)
        · replace hf := it_p c10 hf
          refine lv_iconst (v := (0 : Int32)) hx hb dX6_isDouble_54 (by decide) ?_
          obtain rfl := Option.some.inj hf
          rw [hQ]
          exact W.zret hx hb hr rfl (fun t ht hW => ⟨rfl, ⟨by rw [ht]; exact hP, hD⟩, hS.F ht⟩) hS.2.2 dX6_isDouble_55
        · replace hf := it_n c10 hf
          refine lv_iconst (v := (1 : Int32)) hx hb dX6_isDouble_50 (by decide) ?_
          refine lv_goto (tgt := 55) hx hb dX6_isDouble_51 (by decide) ?_
          obtain rfl := Option.some.inj hf
          rw [hQ]
          exact W.zret hx hb hr rfl (fun t ht hW => ⟨rfl, ⟨by rw [ht]; exact hP, hD⟩, hS.F ht⟩) hS.2.2 dX6_isDouble_55
    · replace hf := it_p c2 hf
      refine lv_iconst (v := (0 : Int32)) hx hb dX6_isDouble_11 (by decide) ?_
      obtain rfl := Option.some.inj hf
      rw [hQ]
      exact W.zret hx hb hr rfl (fun t ht hW => ⟨rfl, ⟨by rw [ht]; exact hP, hD⟩, hS.F ht⟩) hS.2.2 dX6_isDouble_12
  exact main s.heap [] ls ⟨hP, hD, va_S.rf⟩ hl
def rX6_told : Room := { frames := 3, cells := 0, slots := 0, locals := 71 }
theorem kX6_told_X6 : ∀ w ∈ wsX60, w ∈ wsX6_told := fun w h => (List.mem_cons_of_mem _ (List.mem_append_right _ h))
theorem mX6_told_1 : Cond.fieldLink RX6 76 "SmokeLedgerModel" "thrown" "I" ∈ wsX6_told := List.mem_of_getElem? (i := 1) rfl
theorem mX6_told_2 : Cond.fieldLink RX6 26 "SmokeLedgerModel" "unitOf" "[I" ∈ wsX6_told := List.mem_of_getElem? (i := 2) rfl
theorem mX6_told_3 : Cond.fieldLink RX6 29 "SmokeLedgerModel" "kind" "[I" ∈ wsX6_told := List.mem_of_getElem? (i := 3) rfl
theorem mX6_told_4 : Cond.fieldLink RX6 32 "SmokeLedgerModel" "amount" "[I" ∈ wsX6_told := List.mem_of_getElem? (i := 4) rfl
theorem mX6_told_5 : Cond.fieldLink RX6 35 "SmokeLedgerModel" "day" "[I" ∈ wsX6_told := List.mem_of_getElem? (i := 5) rfl
theorem mX6_told_6 : Cond.fieldLink RX6 38 "SmokeLedgerModel" "seller" "[I" ∈ wsX6_told := List.mem_of_getElem? (i := 6) rfl
theorem mX6_told_7 : Cond.fieldLink RX6 41 "SmokeLedgerModel" "covered" "[I" ∈ wsX6_told := List.mem_of_getElem? (i := 7) rfl
set_option maxHeartbeats 4000000 in
set_option maxRecDepth 100000 in
theorem ct_X6_told (l : Launch) (dC : Nat → ClassId) (dI : Nat → Nat → Nat) (a b : Nat → Nat) (cI cJ cZ : ClassId) (sz : Nat) (st : MS) (x1 : Int32) (x2 : Int32) (res : Int32 × MS) (hf : fX6_told st x1 x2 = some res) : Met l yX6_told wsX6_told rX6_told (Pm (dC, dI) (tyT cI cJ cZ) (WX6 a b cI cJ cZ st) sz [.ref (a 0), .int x1, .int x2]) (Qm (dC, dI) (some (.int res.1)) (WX6 a b cI cJ cZ res.2) (va_A (WX6 a b cI cJ cZ st) sz)) 0 0 (va_A (WX6 a b cI cJ cZ st) sz) := by
  refine Met.ofW (cc := cX6_told) (maxL := 3) (ret := (some .int)) (by decide) rfl ?_
  intro p e s m args below meth c s₁ B hml hv
  obtain ⟨hargs, hsz, hP, hK, hD0⟩ := hv
  have hx := B.exec
  have hb := B.bytes
  have hr := B.returns
  have hts := atoms_spec (ws := wsX6_told) B.pre
  have hown : s.vm.findClass RX6 = some m.cls := findClass_of_methodNamed B.named
  have hlocks := B.notSynchronized
  subst hsz
  have hD := hD0.self (sz := s.heap.size)
  generalize hAe : va_A (WX6 a b cI cJ cZ st) s.heap.size = A at hD ⊢
  have hA : ∀ q : Nat, s.heap.size ≤ q → A q := fun q h => by rw [← hAe]; exact Or.inr h
  have hl := lv_entry ([.ref (a 0), .int x1, .int x2]) (n := 3) (Nat.le_of_ble_eq_true rfl)
  refine W.eq (hargs ▸ lg_entry_eq m [.ref (a 0), .int x1, .int x2] 3) ?_
  generalize (lg_sl ([.ref (a 0), .int x1, .int x2]) ++ List.replicate (3 - (lg_sl ([.ref (a 0), .int x1, .int x2])).length) Slot.unset).toArray = ls at hl ⊢
  have hl : lv_has ls 3 [(0, .ref (a 0)), (1, .int x1), (2, .int x2)] := hl
  obtain ⟨QQ, hQ⟩ : ∃ QQ : State → Prop, QQ = MQ below (Qm (dC, dI) (some (.int res.1)) (WX6 a b cI cJ cZ res.2) A) args s 0 0 (A) := ⟨_, rfl⟩
  rw [← hQ]
  have main : ∀ (H : Heap) (locs : List Loc) (ls : Array Slot), IN (dC, dI) (WX6 a b cI cJ cZ st) A s.heap H locs → lv_has ls 3 [(0, .ref (a 0)), (1, .int x1), (2, .int x2)] → W p l e (headSpec wsX6_told rX6_told).room s m args below meth c H locs 0 0 QQ (F0 m 0 ls []) := by
    intro H locs ls hin hl
    obtain ⟨hP, hD, hS⟩ := hin
    unfold fX6_told at hf
    refine lv_aload_n hx hb dX6_told_0 rfl (lv_at hl 0 rfl) ?_
    refine lv_iconst (v := (0 : Int32)) hx hb dX6_told_1 (by decide) ?_
    refine va_put (D := (dC, dI)) (ci := 6) (v := .int (0 : Int32)) (ty := .int) (C := RX6) (T := TX6) (N := 26) hx hb hts kX6_told_X6 tyX6 tyX6_ok nmX6 hown hK hP hD hS 0 rfl rfl 0 (by decide) (hts _ mX6_told_1) (fun _ h9 => h9) rfl (by decide +kernel) rfl rfl (Nat.le_of_ble_eq_true rfl) dX6_told_2 (fun H locs hP hD hS => ?_)
    obtain ⟨s1, hs2, hf⟩ := bnd_e hf
    replace hP := putP_thrown hs2 hP
    replace hD := putD_thrown hs2 hD
    refine lv_aload_n hx hb dX6_told_5 rfl (lv_at hl 0 rfl) ?_
    refine lv_iload_n hx hb dX6_told_6 rfl (lv_at hl 1 rfl) ?_
    obtain ⟨r3, hc4, hf⟩ := bind_s hf
    refine cpV (v := .int r3) ⟨hx, hb, hml, hown, hts⟩ (ct_X6_noRow l dC dI a b cI cJ cZ s1 x1 r3 hc4) (cwV 1 hts gX6_told_X6_noRow rfl rfl rfl (by decide +kernel) ⟨(Nat.le_of_ble_eq_true rfl), (Nat.le_of_ble_eq_true rfl)⟩) hK hP [0, 1, 2, 3, 4, 5, 6, 7, 8, 9, 10, 11, 12, 13, 14, 15, 16, 17, 18, 19, 20] rfl rfl rfl rfl hl.1 rfl (Nat.le_of_ble_eq_true rfl) (Nat.le_of_ble_eq_true rfl) (Nat.le_of_ble_eq_true rfl) dX6_told_7 ?_
    refine lv_if_eq (tgt := 15) hx hb dX6_told_10 (by decide) (fun c5 => ?_) (fun c5 => ?_)
    · replace hf := it_p c5 hf
      refine lv_iload_n hx hb dX6_told_15 rfl (lv_at hl 2 rfl) ?_
      by_cases c7 : x2 = 0
      · replace hf := it_p c7 hf
        refine lv_tableIn (off := 44) (tgt := 60) hx hb dX6_told_16 (by rw [c7]; decide) (by rw [c7]; decide) (by rw [c7]; rfl) (by decide) ?_
        refine lv_aload_n hx hb dX6_told_60 rfl (lv_at hl 0 rfl) ?_
        refine va_get (D := (dC, dI)) (ci := 6) (v := .ref (a 5)) (C := RX6) (T := TX6) (N := 26) hx hb hts kX6_told_X6 hown hK hP 0 rfl rfl 8 (by decide) (hts _ mX6_told_2) (fun _ h9 => h9) rfl dX6_told_61 ?_
        refine lv_iload_n hx hb dX6_told_64 rfl (lv_at hl 1 rfl) ?_
        obtain ⟨hi6, hf⟩ := it_s hf
        refine va_iald hx hb hK hP 5 0 rfl rfl (inb_in hi6) dX6_told_65 ?_
        obtain rfl := Option.some.inj hf
        rw [hQ]
        exact W.iret hx hb hr (fun t ht hW => ⟨rfl, ⟨by rw [ht]; exact hP, hD⟩, hS.F ht⟩) hS.2.2 dX6_told_66
      · replace hf := it_n c7 hf
        by_cases c9 : x2 = 1
        · replace hf := it_p c9 hf
          refine lv_tableIn (off := 51) (tgt := 67) hx hb dX6_told_16 (by rw [c9]; decide) (by rw [c9]; decide) (by rw [c9]; rfl) (by decide) ?_
          refine lv_aload_n hx hb dX6_told_67 rfl (lv_at hl 0 rfl) ?_
          refine va_get (D := (dC, dI)) (ci := 6) (v := .ref (a 6)) (C := RX6) (T := TX6) (N := 26) hx hb hts kX6_told_X6 hown hK hP 0 rfl rfl 9 (by decide) (hts _ mX6_told_3) (fun _ h9 => h9) rfl dX6_told_68 ?_
          refine lv_iload_n hx hb dX6_told_71 rfl (lv_at hl 1 rfl) ?_
          obtain ⟨hi8, hf⟩ := it_s hf
          refine va_iald hx hb hK hP 6 0 rfl rfl (inb_in hi8) dX6_told_72 ?_
          obtain rfl := Option.some.inj hf
          rw [hQ]
          exact W.iret hx hb hr (fun t ht hW => ⟨rfl, ⟨by rw [ht]; exact hP, hD⟩, hS.F ht⟩) hS.2.2 dX6_told_73
        · replace hf := it_n c9 hf
          by_cases c11 : x2 = 2
          · replace hf := it_p c11 hf
            refine lv_tableIn (off := 58) (tgt := 74) hx hb dX6_told_16 (by rw [c11]; decide) (by rw [c11]; decide) (by rw [c11]; rfl) (by decide) ?_
            refine lv_aload_n hx hb dX6_told_74 rfl (lv_at hl 0 rfl) ?_
            refine va_get (D := (dC, dI)) (ci := 6) (v := .ref (a 7)) (C := RX6) (T := TX6) (N := 26) hx hb hts kX6_told_X6 hown hK hP 0 rfl rfl 10 (by decide) (hts _ mX6_told_4) (fun _ h9 => h9) rfl dX6_told_75 ?_
            refine lv_iload_n hx hb dX6_told_78 rfl (lv_at hl 1 rfl) ?_
            obtain ⟨hi10, hf⟩ := it_s hf
            refine va_iald hx hb hK hP 7 0 rfl rfl (inb_in hi10) dX6_told_79 ?_
            obtain rfl := Option.some.inj hf
            rw [hQ]
            exact W.iret hx hb hr (fun t ht hW => ⟨rfl, ⟨by rw [ht]; exact hP, hD⟩, hS.F ht⟩) hS.2.2 dX6_told_80
          · replace hf := it_n c11 hf
            by_cases c13 : x2 = 3
            · replace hf := it_p c13 hf
              refine lv_tableIn (off := 65) (tgt := 81) hx hb dX6_told_16 (by rw [c13]; decide) (by rw [c13]; decide) (by rw [c13]; rfl) (by decide) ?_
              refine lv_aload_n hx hb dX6_told_81 rfl (lv_at hl 0 rfl) ?_
              refine va_get (D := (dC, dI)) (ci := 6) (v := .ref (a 8)) (C := RX6) (T := TX6) (N := 26) hx hb hts kX6_told_X6 hown hK hP 0 rfl rfl 11 (by decide) (hts _ mX6_told_5) (fun _ h9 => h9) rfl dX6_told_82 ?_
              refine lv_iload_n hx hb dX6_told_85 rfl (lv_at hl 1 rfl) ?_
              obtain ⟨hi12, hf⟩ := it_s hf
              refine va_iald hx hb hK hP 8 0 rfl rfl (inb_in hi12) dX6_told_86 ?_
              obtain rfl := Option.some.inj hf
              rw [hQ]
              exact W.iret hx hb hr (fun t ht hW => ⟨rfl, ⟨by rw [ht]; exact hP, hD⟩, hS.F ht⟩) hS.2.2 dX6_told_87
            · replace hf := it_n c13 hf
              by_cases c15 : x2 = 4
              · replace hf := it_p c15 hf
                refine lv_tableIn (off := 72) (tgt := 88) hx hb dX6_told_16 (by rw [c15]; decide) (by rw [c15]; decide) (by rw [c15]; rfl) (by decide) ?_
                refine lv_aload_n hx hb dX6_told_88 rfl (lv_at hl 0 rfl) ?_
                refine va_get (D := (dC, dI)) (ci := 6) (v := .ref (a 9)) (C := RX6) (T := TX6) (N := 26) hx hb hts kX6_told_X6 hown hK hP 0 rfl rfl 12 (by decide) (hts _ mX6_told_6) (fun _ h9 => h9) rfl dX6_told_89 ?_
                refine lv_iload_n hx hb dX6_told_92 rfl (lv_at hl 1 rfl) ?_
                obtain ⟨hi14, hf⟩ := it_s hf
                refine va_iald hx hb hK hP 9 0 rfl rfl (inb_in hi14) dX6_told_93 ?_
                obtain rfl := Option.some.inj hf
                rw [hQ]
                exact W.iret hx hb hr (fun t ht hW => ⟨rfl, ⟨by rw [ht]; exact hP, hD⟩, hS.F ht⟩) hS.2.2 dX6_told_94
              · replace hf := it_n c15 hf
                by_cases c20 : x2 = 5
                · replace hf := it_p c20 hf
                  refine lv_tableIn (off := 79) (tgt := 95) hx hb dX6_told_16 (by rw [c20]; decide) (by rw [c20]; decide) (by rw [c20]; rfl) (by decide) ?_
                  refine lv_aload_n hx hb dX6_told_95 rfl (lv_at hl 0 rfl) ?_
                  refine lv_iload_n hx hb dX6_told_96 rfl (lv_at hl 1 rfl) ?_
                  refine lv_aload_n hx hb dX6_told_97 rfl (lv_at hl 0 rfl) ?_
                  refine va_get (D := (dC, dI)) (ci := 6) (v := .ref (a 8)) (C := RX6) (T := TX6) (N := 26) hx hb hts kX6_told_X6 hown hK hP 0 rfl rfl 11 (by decide) (hts _ mX6_told_5) (fun _ h9 => h9) rfl dX6_told_98 ?_
                  refine lv_iload_n hx hb dX6_told_101 rfl (lv_at hl 1 rfl) ?_
                  obtain ⟨hi16, hf⟩ := it_s hf
                  refine va_iald hx hb hK hP 8 0 rfl rfl (inb_in hi16) dX6_told_102 ?_
                  obtain ⟨p17, hc18, hf⟩ := bind_s hf
                  refine cmV (wr := []) ⟨hx, hb, hml, hown, hts⟩ (ct_X6_isDouble l dC dI a b cI cJ cZ H.size s1 x1 ((MS_day s1) (x1).toNatClampNeg) p17 hc18) (cwV 2 hts gX6_told_X6_isDouble rfl rfl rfl (by decide +kernel) ⟨(Nat.le_of_ble_eq_true rfl), (Nat.le_of_ble_eq_true rfl)⟩) hK hP hD hS hA [0, 1, 2, 3, 4, 5, 6, 7, 8, 9, 10, 11, 12, 13, 14, 15, 16, 17, 18, 19, 20] [] rfl rfl (by decide) rfl (by decide) (by decide) rfl rfl rfl hl.1 rfl (Nat.le_of_ble_eq_true rfl) (Nat.le_of_ble_eq_true rfl) (Nat.le_of_ble_eq_true rfl) dX6_told_103 (fun H locs hP hD hS => ?_)
                  replace hP : va_P (dC, dI) vwCl (WX6 a b cI cJ cZ p17.2) H := hP
                  replace hD : va_D A (WX6 a b cI cJ cZ p17.2) := hD
                  refine W.eq (g2 := F0 m 106 ls [.int p17.1]) rfl ?_
                  refine lv_if_eq (tgt := 113) hx hb dX6_told_106 (by decide) (fun c19 => ?_) (fun c19 => ?_)
                  · replace hf := it_p c19 hf
                    refine lv_iconst (v := (0 : Int32)) hx hb dX6_told_113 (by decide) ?_
                    obtain rfl := Option.some.inj hf
                    rw [hQ]
                    exact W.iret hx hb hr (fun t ht hW => ⟨rfl, ⟨by rw [ht]; exact hP, hD⟩, hS.F ht⟩) hS.2.2 dX6_told_114
                  · replace hf := it_n c19 hf
                    refine lv_iconst (v := (1 : Int32)) hx hb dX6_told_109 (by decide) ?_
                    refine lv_goto (tgt := 114) hx hb dX6_told_110 (by decide) ?_
                    obtain rfl := Option.some.inj hf
                    rw [hQ]
                    exact W.iret hx hb hr (fun t ht hW => ⟨rfl, ⟨by rw [ht]; exact hP, hD⟩, hS.F ht⟩) hS.2.2 dX6_told_114
                · replace hf := it_n c20 hf
                  by_cases c22 : x2 = 6
                  · replace hf := it_p c22 hf
                    refine lv_tableIn (off := 99) (tgt := 115) hx hb dX6_told_16 (by rw [c22]; decide) (by rw [c22]; decide) (by rw [c22]; rfl) (by decide) ?_
                    refine lv_aload_n hx hb dX6_told_115 rfl (lv_at hl 0 rfl) ?_
                    refine va_get (D := (dC, dI)) (ci := 6) (v := .ref (a 10)) (C := RX6) (T := TX6) (N := 26) hx hb hts kX6_told_X6 hown hK hP 0 rfl rfl 13 (by decide) (hts _ mX6_told_7) (fun _ h9 => h9) rfl dX6_told_116 ?_
                    refine lv_iload_n hx hb dX6_told_119 rfl (lv_at hl 1 rfl) ?_
                    obtain ⟨hi21, hf⟩ := it_s hf
                    refine va_iald hx hb hK hP 10 0 rfl rfl (inb_in hi21) dX6_told_120 ?_
                    obtain rfl := Option.some.inj hf
                    rw [hQ]
                    exact W.iret hx hb hr (fun t ht hW => ⟨rfl, ⟨by rw [ht]; exact hP, hD⟩, hS.F ht⟩) hS.2.2 dX6_told_121
                  · replace hf := it_n c22 hf
                    refine lv_tableOut (tgt := 122) hx hb dX6_told_16 (by have := lv_neT (a := 0) c7 rfl; have := lv_neT (a := 1) c9 rfl; have := lv_neT (a := 2) c11 rfl; have := lv_neT (a := 3) c13 rfl; have := lv_neT (a := 4) c15 rfl; have := lv_neT (a := 5) c20 rfl; have := lv_neT (a := 6) c22 rfl; omega) (by decide) ?_
                    refine lv_bipush (v := (-2 : Int32)) hx hb dX6_told_122 (by decide) ?_
                    obtain rfl := Option.some.inj hf
                    rw [hQ]
                    exact W.iret hx hb hr (fun t ht hW => ⟨rfl, ⟨by rw [ht]; exact hP, hD⟩, hS.F ht⟩) hS.2.2 dX6_told_124
    · replace hf := it_n c5 hf
      refine lv_iconst (v := (-1 : Int32)) hx hb dX6_told_13 (by decide) ?_
      obtain rfl := Option.some.inj hf
      rw [hQ]
      exact W.iret hx hb hr (fun t ht hW => ⟨rfl, ⟨by rw [ht]; exact hP, hD⟩, hS.F ht⟩) hS.2.2 dX6_told_14
  exact main s.heap [] ls ⟨hP, hD, va_S.rf⟩ hl
