def rX1_spanOn : Room := { frames := 0, cells := 0, slots := 0, locals := 0 }
theorem kX1_spanOn_X1 : ∀ w ∈ wsX10, w ∈ wsX1_spanOn := fun w h => (List.mem_cons_of_mem _ (List.mem_append_right _ h))
theorem mX1_spanOn_1 : Cond.fieldLink RX1 44 "SmokeLedger$Holdings" "size" "I" ∈ wsX1_spanOn := List.mem_of_getElem? (i := 1) rfl
theorem mX1_spanOn_2 : Cond.fieldLink RX1 21 "SmokeLedger$Holdings" "day" "[I" ∈ wsX1_spanOn := List.mem_of_getElem? (i := 2) rfl
set_option maxHeartbeats 4000000 in
set_option maxRecDepth 100000 in
theorem ct_X1_spanOn (l : Launch) (dC : Nat → ClassId) (dI : Nat → Nat → Nat) (a b : Nat → Nat) (cI cJ cZ : ClassId) (st : HS) (x1 : Int32) (res : Int32) (hf : fX1_spanOn st x1 = some res) : Met l yX1_spanOn wsX1_spanOn rX1_spanOn (Pp (dC, dI) (tyT cI cJ cZ) (WX1 a b cI cJ cZ st) [.ref (a 1), .int x1]) (Qp (.int res)) 0 0 (fun _ => False) := by
  refine Met.ofW (cc := cX1_spanOn) (maxL := 3) (ret := (some .int)) (by decide) rfl ?_
  intro p e s m args below meth c s₁ B hml hv
  obtain ⟨hargs, hP, hK⟩ := hv
  have hx := B.exec
  have hb := B.bytes
  have hr := B.returns
  have hts := atoms_spec (ws := wsX1_spanOn) B.pre
  have hown : s.vm.findClass RX1 = some m.cls := findClass_of_methodNamed B.named
  have hlocks := B.notSynchronized
  have hP : va_P (dC, dI) vwCl (WX1 a b cI cJ cZ st) s.heap := hP
  have hl := lv_entry ([.ref (a 1), .int x1]) (n := 3) (Nat.le_of_ble_eq_true rfl)
  refine W.eq (hargs ▸ lg_entry_eq m [.ref (a 1), .int x1] 3) ?_
  generalize (lg_sl ([.ref (a 1), .int x1]) ++ List.replicate (3 - (lg_sl ([.ref (a 1), .int x1])).length) Slot.unset).toArray = ls at hl ⊢
  have hl : lv_has ls 3 [(0, .ref (a 1)), (1, .int x1)] := hl
  obtain ⟨QQ, hQ⟩ : ∃ QQ : State → Prop, QQ = MQ below (Qp (.int res)) args s 0 0 (fun _ => False) := ⟨_, rfl⟩
  rw [← hQ]
  have l2 : ∀ (x1 : Int32) (fu : Nat) (s0 : Int32) (r : Int32), loopN (fun (s : Int32) => fX1_spanOn_l2 st x1 s) fu s0 = some r → (∀ (ls : Array Slot), lv_has ls 3 [(0, .ref (a 1)), (1, .int x1), (2, .int r)] → W p l e (headSpec wsX1_spanOn rX1_spanOn).room s m args below meth c s.heap [] 0 0 QQ (F0 m 26 ls [])) → (∀ (ls : Array Slot), lv_has ls 3 [(0, .ref (a 1)), (1, .int x1), (2, .int s0)] → W p l e (headSpec wsX1_spanOn rX1_spanOn).room s m args below meth c s.heap [] 0 0 QQ (F0 m 2 ls [])) := by
    intro x1 fu s0 r
    refine loop_ind (P := fun s0 => ∀ (ls : Array Slot), lv_has ls 3 [(0, .ref (a 1)), (1, .int x1), (2, .int s0)] → W p l e (headSpec wsX1_spanOn rX1_spanOn).room s m args below meth c s.heap [] 0 0 QQ (F0 m 2 ls [])) (Q := fun r => ∀ (ls : Array Slot), lv_has ls 3 [(0, .ref (a 1)), (1, .int x1), (2, .int r)] → W p l e (headSpec wsX1_spanOn rX1_spanOn).room s m args below meth c s.heap [] 0 0 QQ (F0 m 26 ls [])) ?_ fu s0 r
    clear fu s0 r
    intro x2 x hf kc ke
    replace hf : fX1_spanOn_l2 st x1 x2 = some x := hf
    replace kc : (∀ s', x = .inl s' → (∀ (ls : Array Slot), lv_has ls 3 [(0, .ref (a 1)), (1, .int x1), (2, .int s')] → W p l e (headSpec wsX1_spanOn rX1_spanOn).room s m args below meth c s.heap [] 0 0 QQ (F0 m 2 ls []))) := kc
    replace ke : (∀ r, x = .inr r → (∀ (ls : Array Slot), lv_has ls 3 [(0, .ref (a 1)), (1, .int x1), (2, .int r)] → W p l e (headSpec wsX1_spanOn rX1_spanOn).room s m args below meth c s.heap [] 0 0 QQ (F0 m 26 ls []))) := ke
    intro ls hl
    unfold fX1_spanOn_l2 at hf
    refine lv_iload_n hx hb dX1_spanOn_2 rfl (lv_at hl 2 rfl) ?_
    refine lv_aload_n hx hb dX1_spanOn_3 rfl (lv_at hl 0 rfl) ?_
    refine va_get (D := (dC, dI)) (ci := 1) (v := .int (HS_size st)) (C := RX1) (T := TX1) (N := 11) hx hb hts kX1_spanOn_X1 hown hK hP 0 rfl rfl 4 (by decide) (hts _ mX1_spanOn_1) (fun _ h9 => h9) rfl dX1_spanOn_4 ?_
    refine lv_icmp_ge (tgt := 26) hx hb dX1_spanOn_7 (by decide) (fun c1 => ?_) (fun c1 => ?_)
    · replace hf := it_p c1 hf
      obtain rfl := Option.some.inj hf
      exact ke _ rfl ls (lv_sub hl [0, 1, 2] rfl)
    · replace hf := it_n c1 hf
      refine lv_aload_n hx hb dX1_spanOn_10 rfl (lv_at hl 0 rfl) ?_
      refine va_get (D := (dC, dI)) (ci := 1) (v := .ref (a 5)) (C := RX1) (T := TX1) (N := 11) hx hb hts kX1_spanOn_X1 hown hK hP 0 rfl rfl 3 (by decide) (hts _ mX1_spanOn_2) (fun _ h9 => h9) rfl dX1_spanOn_11 ?_
      refine lv_iload_n hx hb dX1_spanOn_14 rfl (lv_at hl 2 rfl) ?_
      obtain ⟨hi2, hf⟩ := it_s hf
      refine va_iald hx hb hK hP 4 0 rfl rfl (inb_in hi2) dX1_spanOn_15 ?_
      refine lv_iload_n hx hb dX1_spanOn_16 rfl (lv_at hl 1 rfl) ?_
      refine lv_icmp_gt (tgt := 26) hx hb dX1_spanOn_17 (by decide) (fun c3 => ?_) (fun c3 => ?_)
      · replace hf := it_p c3 hf
        obtain rfl := Option.some.inj hf
        exact ke _ rfl ls (lv_sub hl [0, 1, 2] rfl)
      · replace hf := it_n c3 hf
        refine lv_iinc (v := (x2 + (1 : Int32))) (lv' := [(2, .int (x2 + (1 : Int32))), (0, .ref (a 1)), (1, .int x1)]) hx hb dX1_spanOn_20 hl (k := 2) rfl rfl (by decide) rfl (fun ls hl => ?_)
        refine lv_goto (tgt := 2) hx hb dX1_spanOn_23 (by decide) ?_
        obtain rfl := Option.some.inj hf
        exact kc _ rfl ls (lv_sub hl [1, 2, 0] rfl)
  unfold fX1_spanOn at hf
  refine lv_iconst (v := (0 : Int32)) hx hb dX1_spanOn_0 (by decide) ?_
  refine lv_istore_n (lv' := [(2, .int (0 : Int32)), (0, .ref (a 1)), (1, .int x1)]) hx hb dX1_spanOn_1 rfl hl (by decide) rfl (fun ls hl => ?_)
  obtain ⟨y4, hlp, hf⟩ := bind_s hf
  refine l2 x1 fuelN (0 : Int32) y4 hlp ?_ ls (lv_sub hl [1, 2, 0] rfl)
  intro ls hl
  refine lv_iload_n hx hb dX1_spanOn_26 rfl (lv_at hl 2 rfl) ?_
  obtain rfl := Option.some.inj hf
  rw [hQ]
  exact W.iret hx hb hr (fun t ht hW => ⟨rfl, ht⟩) (fun q hq => absurd hq List.not_mem_nil) dX1_spanOn_27
def rX1_heldOn : Room := { frames := 1, cells := 0, slots := 0, locals := 22 }
theorem kX1_heldOn_X1 : ∀ w ∈ wsX10, w ∈ wsX1_heldOn := fun w h => (List.mem_cons_of_mem _ (List.mem_append_right _ h))
theorem mX1_heldOn_1 : Cond.fieldLink RX1 9 "SmokeLedger$Holdings" "holder" "[I" ∈ wsX1_heldOn := List.mem_of_getElem? (i := 1) rfl
theorem mX1_heldOn_2 : Cond.fieldLink RX1 15 "SmokeLedger$Holdings" "held" "[I" ∈ wsX1_heldOn := List.mem_of_getElem? (i := 2) rfl
theorem mX1_heldOn_3 : Cond.fieldLink RX1 18 "SmokeLedger$Holdings" "hundredths" "[I" ∈ wsX1_heldOn := List.mem_of_getElem? (i := 3) rfl
set_option maxHeartbeats 4000000 in
set_option maxRecDepth 100000 in
theorem ct_X1_heldOn (l : Launch) (dC : Nat → ClassId) (dI : Nat → Nat → Nat) (a b : Nat → Nat) (cI cJ cZ : ClassId) (st : HS) (x1 : Int32) (x2 : Int32) (x3 : Int32) (res : Int32) (hf : fX1_heldOn st x1 x2 x3 = some res) : Met l yX1_heldOn wsX1_heldOn rX1_heldOn (Pp (dC, dI) (tyT cI cJ cZ) (WX1 a b cI cJ cZ st) [.ref (a 1), .int x1, .int x2, .int x3]) (Qp (.int res)) 0 0 (fun _ => False) := by
  refine Met.ofW (cc := cX1_heldOn) (maxL := 5) (ret := (some .int)) (by decide) rfl ?_
  intro p e s m args below meth c s₁ B hml hv
  obtain ⟨hargs, hP, hK⟩ := hv
  have hx := B.exec
  have hb := B.bytes
  have hr := B.returns
  have hts := atoms_spec (ws := wsX1_heldOn) B.pre
  have hown : s.vm.findClass RX1 = some m.cls := findClass_of_methodNamed B.named
  have hlocks := B.notSynchronized
  have hP : va_P (dC, dI) vwCl (WX1 a b cI cJ cZ st) s.heap := hP
  have hl := lv_entry ([.ref (a 1), .int x1, .int x2, .int x3]) (n := 5) (Nat.le_of_ble_eq_true rfl)
  refine W.eq (hargs ▸ lg_entry_eq m [.ref (a 1), .int x1, .int x2, .int x3] 5) ?_
  generalize (lg_sl ([.ref (a 1), .int x1, .int x2, .int x3]) ++ List.replicate (5 - (lg_sl ([.ref (a 1), .int x1, .int x2, .int x3])).length) Slot.unset).toArray = ls at hl ⊢
  have hl : lv_has ls 5 [(0, .ref (a 1)), (1, .int x1), (2, .int x2), (3, .int x3)] := hl
  obtain ⟨QQ, hQ⟩ : ∃ QQ : State → Prop, QQ = MQ below (Qp (.int res)) args s 0 0 (fun _ => False) := ⟨_, rfl⟩
  rw [← hQ]
  have l9 : ∀ (x1 : Int32) (x2 : Int32) (fu : Nat) (s0 : Int32) (r : (Int32) ⊕ (Int32)), loopN (fun (s : Int32) => fX1_heldOn_l9 st x1 x2 s) fu s0 = some r → ((∀ s', r = .inl s' → (∀ (ls : Array Slot), lv_has ls 5 [(0, .ref (a 1)), (1, .int x1), (2, .int x2), (4, .int s')] → W p l e (headSpec wsX1_heldOn rX1_heldOn).room s m args below meth c s.heap [] 0 0 QQ (F0 m 50 ls []))) ∧ (∀ v, r = .inr v → some v = some res)) → (∀ (ls : Array Slot), lv_has ls 5 [(0, .ref (a 1)), (1, .int x1), (2, .int x2), (4, .int s0)] → W p l e (headSpec wsX1_heldOn rX1_heldOn).room s m args below meth c s.heap [] 0 0 QQ (F0 m 9 ls [])) := by
    intro x1 x2 fu s0 r
    have b44 : ∀ (x1 : Int32) (x2 : Int32) (x4 : Int32) (x : (Int32) ⊕ ((Int32) ⊕ (Int32))), fX1_heldOn_b44 st x1 x2 x4 = some x → (∀ s', x = .inl s' → (∀ (ls : Array Slot), lv_has ls 5 [(0, .ref (a 1)), (1, .int x1), (2, .int x2), (4, .int s')] → W p l e (headSpec wsX1_heldOn rX1_heldOn).room s m args below meth c s.heap [] 0 0 QQ (F0 m 9 ls []))) → (∀ r, x = .inr r → ((∀ s', r = .inl s' → (∀ (ls : Array Slot), lv_has ls 5 [(0, .ref (a 1)), (1, .int x1), (2, .int x2), (4, .int s')] → W p l e (headSpec wsX1_heldOn rX1_heldOn).room s m args below meth c s.heap [] 0 0 QQ (F0 m 50 ls []))) ∧ (∀ v, r = .inr v → some v = some res))) → (∀ (ls : Array Slot), lv_has ls 5 [(0, .ref (a 1)), (1, .int x1), (2, .int x2), (4, .int x4)] → W p l e (headSpec wsX1_heldOn rX1_heldOn).room s m args below meth c s.heap [] 0 0 QQ (F0 m 44 ls [])) := by
      intro x1 x2 x4 x hf kc ke
      intro ls hl
      unfold fX1_heldOn_b44 at hf
      refine lv_iinc (v := (x4 + (-1 : Int32))) (lv' := [(4, .int (x4 + (-1 : Int32))), (0, .ref (a 1)), (1, .int x1), (2, .int x2)]) hx hb dX1_heldOn_44 hl (k := 3) rfl rfl (by decide) rfl (fun ls hl => ?_)
      refine lv_goto (tgt := 9) hx hb dX1_heldOn_47 (by decide) ?_
      obtain rfl := Option.some.inj hf
      exact kc _ rfl ls (lv_sub hl [1, 2, 3, 0] rfl)
    refine loop_ind (P := fun s0 => ∀ (ls : Array Slot), lv_has ls 5 [(0, .ref (a 1)), (1, .int x1), (2, .int x2), (4, .int s0)] → W p l e (headSpec wsX1_heldOn rX1_heldOn).room s m args below meth c s.heap [] 0 0 QQ (F0 m 9 ls [])) (Q := fun r => (∀ s', r = .inl s' → (∀ (ls : Array Slot), lv_has ls 5 [(0, .ref (a 1)), (1, .int x1), (2, .int x2), (4, .int s')] → W p l e (headSpec wsX1_heldOn rX1_heldOn).room s m args below meth c s.heap [] 0 0 QQ (F0 m 50 ls []))) ∧ (∀ v, r = .inr v → some v = some res)) ?_ fu s0 r
    clear fu s0 r
    intro x4 x hf kc ke
    replace hf : fX1_heldOn_l9 st x1 x2 x4 = some x := hf
    replace kc : (∀ s', x = .inl s' → (∀ (ls : Array Slot), lv_has ls 5 [(0, .ref (a 1)), (1, .int x1), (2, .int x2), (4, .int s')] → W p l e (headSpec wsX1_heldOn rX1_heldOn).room s m args below meth c s.heap [] 0 0 QQ (F0 m 9 ls []))) := kc
    replace ke : (∀ r, x = .inr r → ((∀ s', r = .inl s' → (∀ (ls : Array Slot), lv_has ls 5 [(0, .ref (a 1)), (1, .int x1), (2, .int x2), (4, .int s')] → W p l e (headSpec wsX1_heldOn rX1_heldOn).room s m args below meth c s.heap [] 0 0 QQ (F0 m 50 ls []))) ∧ (∀ v, r = .inr v → some v = some res))) := ke
    intro ls hl
    unfold fX1_heldOn_l9 at hf
    refine lv_iload hx hb dX1_heldOn_9 (lv_at hl 3 rfl) ?_
    refine lv_if_lt (tgt := 50) hx hb dX1_heldOn_11 (by decide) (fun c3 => ?_) (fun c3 => ?_)
    · replace hf := it_p c3 hf
      obtain rfl := Option.some.inj hf
      exact (ke _ rfl).1 _ rfl ls (lv_sub hl [0, 1, 2, 3] rfl)
    · replace hf := it_n c3 hf
      refine lv_aload_n hx hb dX1_heldOn_14 rfl (lv_at hl 0 rfl) ?_
      refine va_get (D := (dC, dI)) (ci := 1) (v := .ref (a 2)) (C := RX1) (T := TX1) (N := 11) hx hb hts kX1_heldOn_X1 hown hK hP 0 rfl rfl 0 (by decide) (hts _ mX1_heldOn_1) (fun _ h9 => h9) rfl dX1_heldOn_15 ?_
      refine lv_iload hx hb dX1_heldOn_18 (lv_at hl 3 rfl) ?_
      obtain ⟨hi4, hf⟩ := it_s hf
      refine va_iald hx hb hK hP 1 0 rfl rfl (inb_in hi4) dX1_heldOn_20 ?_
      refine lv_iload_n hx hb dX1_heldOn_21 rfl (lv_at hl 1 rfl) ?_
      refine lv_icmp_ne (tgt := 44) hx hb dX1_heldOn_22 (by decide) (fun c5 => ?_) (fun c5 => ?_)
      · replace hf := it_n c5 hf
        exact b44 x1 x2 x4 _ hf kc ke ls (lv_sub hl [0, 1, 2, 3] rfl)
      · replace hf := it_p c5 hf
        refine lv_aload_n hx hb dX1_heldOn_25 rfl (lv_at hl 0 rfl) ?_
        refine va_get (D := (dC, dI)) (ci := 1) (v := .ref (a 3)) (C := RX1) (T := TX1) (N := 11) hx hb hts kX1_heldOn_X1 hown hK hP 0 rfl rfl 1 (by decide) (hts _ mX1_heldOn_2) (fun _ h9 => h9) rfl dX1_heldOn_26 ?_
        refine lv_iload hx hb dX1_heldOn_29 (lv_at hl 3 rfl) ?_
        obtain ⟨hi6, hf⟩ := it_s hf
        refine va_iald hx hb hK hP 2 0 rfl rfl (inb_in hi6) dX1_heldOn_31 ?_
        refine lv_iload_n hx hb dX1_heldOn_32 rfl (lv_at hl 2 rfl) ?_
        refine lv_icmp_ne (tgt := 44) hx hb dX1_heldOn_33 (by decide) (fun c7 => ?_) (fun c7 => ?_)
        · replace hf := it_n c7 hf
          exact b44 x1 x2 x4 _ hf kc ke ls (lv_sub hl [0, 1, 2, 3] rfl)
        · replace hf := it_p c7 hf
          refine lv_aload_n hx hb dX1_heldOn_36 rfl (lv_at hl 0 rfl) ?_
          refine va_get (D := (dC, dI)) (ci := 1) (v := .ref (a 4)) (C := RX1) (T := TX1) (N := 11) hx hb hts kX1_heldOn_X1 hown hK hP 0 rfl rfl 2 (by decide) (hts _ mX1_heldOn_3) (fun _ h9 => h9) rfl dX1_heldOn_37 ?_
          refine lv_iload hx hb dX1_heldOn_40 (lv_at hl 3 rfl) ?_
          obtain ⟨hi8, hf⟩ := it_s hf
          refine va_iald hx hb hK hP 3 0 rfl rfl (inb_in hi8) dX1_heldOn_42 ?_
          obtain rfl := Option.some.inj hf
          replace hf := (ke _ rfl).2 _ rfl
          obtain rfl := Option.some.inj hf
          rw [hQ]
          exact W.iret hx hb hr (fun t ht hW => ⟨rfl, ht⟩) (fun q hq => absurd hq List.not_mem_nil) dX1_heldOn_43
  unfold fX1_heldOn at hf
  refine lv_aload_n hx hb dX1_heldOn_0 rfl (lv_at hl 0 rfl) ?_
  refine lv_iload_n hx hb dX1_heldOn_1 rfl (lv_at hl 3 rfl) ?_
  obtain ⟨r1, hc2, hf⟩ := bind_s hf
  refine cpV (v := .int r1) ⟨hx, hb, hml, hown, hts⟩ (ct_X1_spanOn l dC dI a b cI cJ cZ st x3 r1 hc2) (cwV 1 hts gX1_heldOn_X1_spanOn rfl rfl rfl (by decide +kernel) ⟨(Nat.le_of_ble_eq_true rfl), (Nat.le_of_ble_eq_true rfl)⟩) hK hP [0, 1, 2, 3, 4, 5, 6, 7, 8, 9, 10] rfl rfl rfl rfl hl.1 rfl (Nat.le_of_ble_eq_true rfl) (Nat.le_of_ble_eq_true rfl) (Nat.le_of_ble_eq_true rfl) dX1_heldOn_2 ?_
  refine lv_iconst (v := (1 : Int32)) hx hb dX1_heldOn_5 (by decide) ?_
  refine lv_isub hx hb dX1_heldOn_6 ?_
  refine lv_istore (lv' := [(4, .int (r1 - (1 : Int32))), (0, .ref (a 1)), (1, .int x1), (2, .int x2), (3, .int x3)]) hx hb dX1_heldOn_7 hl (by decide) rfl (fun ls hl => ?_)
  obtain ⟨y9, hlp, hf⟩ := bind_s hf
  refine l9 x1 x2 fuelN (r1 - (1 : Int32)) y9 hlp ?_ ls (lv_sub hl [1, 2, 3, 0] rfl)
  refine ⟨fun e_ he_ => ?_, fun v_ hv_ => ?_⟩
  · subst he_
    replace hf : (some (0 : Int32)) = some res := hf
    intro ls hl
    refine lv_iconst (v := (0 : Int32)) hx hb dX1_heldOn_50 (by decide) ?_
    obtain rfl := Option.some.inj hf
    rw [hQ]
    exact W.iret hx hb hr (fun t ht hW => ⟨rfl, ht⟩) (fun q hq => absurd hq List.not_mem_nil) dX1_heldOn_51
  · subst hv_
    exact hf
def rX1_placeOf : Room := { frames := 0, cells := 0, slots := 0, locals := 0 }
theorem kX1_placeOf_X1 : ∀ w ∈ wsX10, w ∈ wsX1_placeOf := fun w h => (List.mem_cons_of_mem _ (List.mem_append_right _ h))
theorem mX1_placeOf_1 : Cond.fieldLink RX1 44 "SmokeLedger$Holdings" "size" "I" ∈ wsX1_placeOf := List.mem_of_getElem? (i := 1) rfl
theorem mX1_placeOf_2 : Cond.fieldLink RX1 9 "SmokeLedger$Holdings" "holder" "[I" ∈ wsX1_placeOf := List.mem_of_getElem? (i := 2) rfl
theorem mX1_placeOf_3 : Cond.fieldLink RX1 15 "SmokeLedger$Holdings" "held" "[I" ∈ wsX1_placeOf := List.mem_of_getElem? (i := 3) rfl
theorem mX1_placeOf_4 : Cond.fieldLink RX1 21 "SmokeLedger$Holdings" "day" "[I" ∈ wsX1_placeOf := List.mem_of_getElem? (i := 4) rfl
set_option maxHeartbeats 4000000 in
set_option maxRecDepth 100000 in
theorem ct_X1_placeOf (l : Launch) (dC : Nat → ClassId) (dI : Nat → Nat → Nat) (a b : Nat → Nat) (cI cJ cZ : ClassId) (st : HS) (x1 : Int32) (x2 : Int32) (x3 : Int32) (res : Int32) (hf : fX1_placeOf st x1 x2 x3 = some res) : Met l yX1_placeOf wsX1_placeOf rX1_placeOf (Pp (dC, dI) (tyT cI cJ cZ) (WX1 a b cI cJ cZ st) [.ref (a 1), .int x1, .int x2, .int x3]) (Qp (.int res)) 0 0 (fun _ => False) := by
  refine Met.ofW (cc := cX1_placeOf) (maxL := 5) (ret := (some .int)) (by decide) rfl ?_
  intro p e s m args below meth c s₁ B hml hv
  obtain ⟨hargs, hP, hK⟩ := hv
  have hx := B.exec
  have hb := B.bytes
  have hr := B.returns
  have hts := atoms_spec (ws := wsX1_placeOf) B.pre
  have hown : s.vm.findClass RX1 = some m.cls := findClass_of_methodNamed B.named
  have hlocks := B.notSynchronized
  have hP : va_P (dC, dI) vwCl (WX1 a b cI cJ cZ st) s.heap := hP
  have hl := lv_entry ([.ref (a 1), .int x1, .int x2, .int x3]) (n := 5) (Nat.le_of_ble_eq_true rfl)
  refine W.eq (hargs ▸ lg_entry_eq m [.ref (a 1), .int x1, .int x2, .int x3] 5) ?_
  generalize (lg_sl ([.ref (a 1), .int x1, .int x2, .int x3]) ++ List.replicate (5 - (lg_sl ([.ref (a 1), .int x1, .int x2, .int x3])).length) Slot.unset).toArray = ls at hl ⊢
  have hl : lv_has ls 5 [(0, .ref (a 1)), (1, .int x1), (2, .int x2), (3, .int x3)] := hl
  obtain ⟨QQ, hQ⟩ : ∃ QQ : State → Prop, QQ = MQ below (Qp (.int res)) args s 0 0 (fun _ => False) := ⟨_, rfl⟩
  rw [← hQ]
  have l3 : ∀ (x1 : Int32) (x2 : Int32) (x3 : Int32) (fu : Nat) (s0 : Int32) (r : (Int32) ⊕ (Int32)), loopN (fun (s : Int32) => fX1_placeOf_l3 st x1 x2 x3 s) fu s0 = some r → ((∀ s', r = .inl s' → (∀ (ls : Array Slot), lv_has ls 5 [(0, .ref (a 1)), (1, .int x1), (2, .int x2), (3, .int x3), (4, .int s')] → W p l e (headSpec wsX1_placeOf rX1_placeOf).room s m args below meth c s.heap [] 0 0 QQ (F0 m 54 ls []))) ∧ (∀ v, r = .inr v → some v = some res)) → (∀ (ls : Array Slot), lv_has ls 5 [(0, .ref (a 1)), (1, .int x1), (2, .int x2), (3, .int x3), (4, .int s0)] → W p l e (headSpec wsX1_placeOf rX1_placeOf).room s m args below meth c s.heap [] 0 0 QQ (F0 m 3 ls [])) := by
    intro x1 x2 x3 fu s0 r
    have b48 : ∀ (x1 : Int32) (x2 : Int32) (x3 : Int32) (x4 : Int32) (x : (Int32) ⊕ ((Int32) ⊕ (Int32))), fX1_placeOf_b48 st x1 x2 x3 x4 = some x → (∀ s', x = .inl s' → (∀ (ls : Array Slot), lv_has ls 5 [(0, .ref (a 1)), (1, .int x1), (2, .int x2), (3, .int x3), (4, .int s')] → W p l e (headSpec wsX1_placeOf rX1_placeOf).room s m args below meth c s.heap [] 0 0 QQ (F0 m 3 ls []))) → (∀ r, x = .inr r → ((∀ s', r = .inl s' → (∀ (ls : Array Slot), lv_has ls 5 [(0, .ref (a 1)), (1, .int x1), (2, .int x2), (3, .int x3), (4, .int s')] → W p l e (headSpec wsX1_placeOf rX1_placeOf).room s m args below meth c s.heap [] 0 0 QQ (F0 m 54 ls []))) ∧ (∀ v, r = .inr v → some v = some res))) → (∀ (ls : Array Slot), lv_has ls 5 [(0, .ref (a 1)), (1, .int x1), (2, .int x2), (3, .int x3), (4, .int x4)] → W p l e (headSpec wsX1_placeOf rX1_placeOf).room s m args below meth c s.heap [] 0 0 QQ (F0 m 48 ls [])) := by
      intro x1 x2 x3 x4 x hf kc ke
      intro ls hl
      unfold fX1_placeOf_b48 at hf
      refine lv_iinc (v := (x4 + (1 : Int32))) (lv' := [(4, .int (x4 + (1 : Int32))), (0, .ref (a 1)), (1, .int x1), (2, .int x2), (3, .int x3)]) hx hb dX1_placeOf_48 hl (k := 4) rfl rfl (by decide) rfl (fun ls hl => ?_)
      refine lv_goto (tgt := 3) hx hb dX1_placeOf_51 (by decide) ?_
      obtain rfl := Option.some.inj hf
      exact kc _ rfl ls (lv_sub hl [1, 2, 3, 4, 0] rfl)
    refine loop_ind (P := fun s0 => ∀ (ls : Array Slot), lv_has ls 5 [(0, .ref (a 1)), (1, .int x1), (2, .int x2), (3, .int x3), (4, .int s0)] → W p l e (headSpec wsX1_placeOf rX1_placeOf).room s m args below meth c s.heap [] 0 0 QQ (F0 m 3 ls [])) (Q := fun r => (∀ s', r = .inl s' → (∀ (ls : Array Slot), lv_has ls 5 [(0, .ref (a 1)), (1, .int x1), (2, .int x2), (3, .int x3), (4, .int s')] → W p l e (headSpec wsX1_placeOf rX1_placeOf).room s m args below meth c s.heap [] 0 0 QQ (F0 m 54 ls []))) ∧ (∀ v, r = .inr v → some v = some res)) ?_ fu s0 r
    clear fu s0 r
    intro x4 x hf kc ke
    replace hf : fX1_placeOf_l3 st x1 x2 x3 x4 = some x := hf
    replace kc : (∀ s', x = .inl s' → (∀ (ls : Array Slot), lv_has ls 5 [(0, .ref (a 1)), (1, .int x1), (2, .int x2), (3, .int x3), (4, .int s')] → W p l e (headSpec wsX1_placeOf rX1_placeOf).room s m args below meth c s.heap [] 0 0 QQ (F0 m 3 ls []))) := kc
    replace ke : (∀ r, x = .inr r → ((∀ s', r = .inl s' → (∀ (ls : Array Slot), lv_has ls 5 [(0, .ref (a 1)), (1, .int x1), (2, .int x2), (3, .int x3), (4, .int s')] → W p l e (headSpec wsX1_placeOf rX1_placeOf).room s m args below meth c s.heap [] 0 0 QQ (F0 m 54 ls []))) ∧ (∀ v, r = .inr v → some v = some res))) := ke
    intro ls hl
    unfold fX1_placeOf_l3 at hf
    refine lv_iload hx hb dX1_placeOf_3 (lv_at hl 4 rfl) ?_
    refine lv_aload_n hx hb dX1_placeOf_5 rfl (lv_at hl 0 rfl) ?_
    refine va_get (D := (dC, dI)) (ci := 1) (v := .int (HS_size st)) (C := RX1) (T := TX1) (N := 11) hx hb hts kX1_placeOf_X1 hown hK hP 0 rfl rfl 4 (by decide) (hts _ mX1_placeOf_1) (fun _ h9 => h9) rfl dX1_placeOf_6 ?_
    refine lv_icmp_ge (tgt := 54) hx hb dX1_placeOf_9 (by decide) (fun c1 => ?_) (fun c1 => ?_)
    · replace hf := it_p c1 hf
      obtain rfl := Option.some.inj hf
      exact (ke _ rfl).1 _ rfl ls (lv_sub hl [0, 1, 2, 3, 4] rfl)
    · replace hf := it_n c1 hf
      refine lv_aload_n hx hb dX1_placeOf_12 rfl (lv_at hl 0 rfl) ?_
      refine va_get (D := (dC, dI)) (ci := 1) (v := .ref (a 2)) (C := RX1) (T := TX1) (N := 11) hx hb hts kX1_placeOf_X1 hown hK hP 0 rfl rfl 0 (by decide) (hts _ mX1_placeOf_2) (fun _ h9 => h9) rfl dX1_placeOf_13 ?_
      refine lv_iload hx hb dX1_placeOf_16 (lv_at hl 4 rfl) ?_
      obtain ⟨hi2, hf⟩ := it_s hf
      refine va_iald hx hb hK hP 1 0 rfl rfl (inb_in hi2) dX1_placeOf_18 ?_
      refine lv_iload_n hx hb dX1_placeOf_19 rfl (lv_at hl 1 rfl) ?_
      refine lv_icmp_ne (tgt := 48) hx hb dX1_placeOf_20 (by decide) (fun c3 => ?_) (fun c3 => ?_)
      · replace hf := it_n c3 hf
        exact b48 x1 x2 x3 x4 _ hf kc ke ls (lv_sub hl [0, 1, 2, 3, 4] rfl)
      · replace hf := it_p c3 hf
        refine lv_aload_n hx hb dX1_placeOf_23 rfl (lv_at hl 0 rfl) ?_
        refine va_get (D := (dC, dI)) (ci := 1) (v := .ref (a 3)) (C := RX1) (T := TX1) (N := 11) hx hb hts kX1_placeOf_X1 hown hK hP 0 rfl rfl 1 (by decide) (hts _ mX1_placeOf_3) (fun _ h9 => h9) rfl dX1_placeOf_24 ?_
        refine lv_iload hx hb dX1_placeOf_27 (lv_at hl 4 rfl) ?_
        obtain ⟨hi4, hf⟩ := it_s hf
        refine va_iald hx hb hK hP 2 0 rfl rfl (inb_in hi4) dX1_placeOf_29 ?_
        refine lv_iload_n hx hb dX1_placeOf_30 rfl (lv_at hl 2 rfl) ?_
        refine lv_icmp_ne (tgt := 48) hx hb dX1_placeOf_31 (by decide) (fun c5 => ?_) (fun c5 => ?_)
        · replace hf := it_n c5 hf
          exact b48 x1 x2 x3 x4 _ hf kc ke ls (lv_sub hl [0, 1, 2, 3, 4] rfl)
        · replace hf := it_p c5 hf
          refine lv_aload_n hx hb dX1_placeOf_34 rfl (lv_at hl 0 rfl) ?_
          refine va_get (D := (dC, dI)) (ci := 1) (v := .ref (a 5)) (C := RX1) (T := TX1) (N := 11) hx hb hts kX1_placeOf_X1 hown hK hP 0 rfl rfl 3 (by decide) (hts _ mX1_placeOf_4) (fun _ h9 => h9) rfl dX1_placeOf_35 ?_
          refine lv_iload hx hb dX1_placeOf_38 (lv_at hl 4 rfl) ?_
          obtain ⟨hi6, hf⟩ := it_s hf
          refine va_iald hx hb hK hP 4 0 rfl rfl (inb_in hi6) dX1_placeOf_40 ?_
          refine lv_iload_n hx hb dX1_placeOf_41 rfl (lv_at hl 3 rfl) ?_
          refine lv_icmp_ne (tgt := 48) hx hb dX1_placeOf_42 (by decide) (fun c7 => ?_) (fun c7 => ?_)
          · replace hf := it_n c7 hf
            exact b48 x1 x2 x3 x4 _ hf kc ke ls (lv_sub hl [0, 1, 2, 3, 4] rfl)
          · replace hf := it_p c7 hf
            refine lv_iload hx hb dX1_placeOf_45 (lv_at hl 4 rfl) ?_
            obtain rfl := Option.some.inj hf
            replace hf := (ke _ rfl).2 _ rfl
            obtain rfl := Option.some.inj hf
            rw [hQ]
            exact W.iret hx hb hr (fun t ht hW => ⟨rfl, ht⟩) (fun q hq => absurd hq List.not_mem_nil) dX1_placeOf_47
  unfold fX1_placeOf at hf
  refine lv_iconst (v := (0 : Int32)) hx hb dX1_placeOf_0 (by decide) ?_
  refine lv_istore (lv' := [(4, .int (0 : Int32)), (0, .ref (a 1)), (1, .int x1), (2, .int x2), (3, .int x3)]) hx hb dX1_placeOf_1 hl (by decide) rfl (fun ls hl => ?_)
  obtain ⟨y8, hlp, hf⟩ := bind_s hf
  refine l3 x1 x2 x3 fuelN (0 : Int32) y8 hlp ?_ ls (lv_sub hl [1, 2, 3, 4, 0] rfl)
  refine ⟨fun e_ he_ => ?_, fun v_ hv_ => ?_⟩
  · subst he_
    replace hf : (some (-9 : Int32)) = some res := hf
    intro ls hl
    refine lv_bipush (v := (-9 : Int32)) hx hb dX1_placeOf_54 (by decide) ?_
    obtain rfl := Option.some.inj hf
    rw [hQ]
    exact W.iret hx hb hr (fun t ht hW => ⟨rfl, ht⟩) (fun q hq => absurd hq List.not_mem_nil) dX1_placeOf_56
  · subst hv_
    exact hf
def rX1_makeRoomAt : Room := { frames := 1, cells := 0, slots := 0, locals := 40 }
theorem kX1_makeRoomAt_X1 : ∀ w ∈ wsX10, w ∈ wsX1_makeRoomAt := fun w h => (List.mem_cons_of_mem _ (List.mem_append_right _ h))
theorem mX1_makeRoomAt_1 : Cond.fieldLink RX1 44 "SmokeLedger$Holdings" "size" "I" ∈ wsX1_makeRoomAt := List.mem_of_getElem? (i := 1) rfl
theorem mX1_makeRoomAt_2 : Cond.fieldLink RX1 9 "SmokeLedger$Holdings" "holder" "[I" ∈ wsX1_makeRoomAt := List.mem_of_getElem? (i := 2) rfl
theorem mX1_makeRoomAt_3 : Cond.methodLink RX1 87 arraycopyName ∈ wsX1_makeRoomAt := List.mem_of_getElem? (i := 3) rfl
theorem mX1_makeRoomAt_4 : Cond.native arraycopyName ∈ wsX1_makeRoomAt := List.mem_of_getElem? (i := 4) rfl
theorem mX1_makeRoomAt_5 : Cond.static arraycopyName ∈ wsX1_makeRoomAt := List.mem_of_getElem? (i := 5) rfl
theorem mX1_makeRoomAt_6 : Cond.initialized "java/lang/System" ∈ wsX1_makeRoomAt := List.mem_of_getElem? (i := 6) rfl
theorem mX1_makeRoomAt_7 : Cond.fieldLink RX1 15 "SmokeLedger$Holdings" "held" "[I" ∈ wsX1_makeRoomAt := List.mem_of_getElem? (i := 7) rfl
theorem mX1_makeRoomAt_8 : Cond.fieldLink RX1 18 "SmokeLedger$Holdings" "hundredths" "[I" ∈ wsX1_makeRoomAt := List.mem_of_getElem? (i := 8) rfl
theorem mX1_makeRoomAt_9 : Cond.fieldLink RX1 21 "SmokeLedger$Holdings" "day" "[I" ∈ wsX1_makeRoomAt := List.mem_of_getElem? (i := 9) rfl
set_option maxHeartbeats 4000000 in
set_option maxRecDepth 100000 in
theorem ct_X1_makeRoomAt (l : Launch) (dC : Nat → ClassId) (dI : Nat → Nat → Nat) (a b : Nat → Nat) (cI cJ cZ : ClassId) (sz : Nat) (st : HS) (x1 : Int32) (res : HS) (hf : fX1_makeRoomAt st x1 = some res) : Met l yX1_makeRoomAt wsX1_makeRoomAt rX1_makeRoomAt (Pm (dC, dI) (tyT cI cJ cZ) (WX1 a b cI cJ cZ st) sz [.ref (a 1), .int x1]) (Qm (dC, dI) none (WX1 a b cI cJ cZ res) (va_A (WX1 a b cI cJ cZ st) sz)) 0 0 (va_A (WX1 a b cI cJ cZ st) sz) := by
  refine Met.ofW (cc := cX1_makeRoomAt) (maxL := 3) (ret := none) (by decide) rfl ?_
  intro p e s m args below meth c s₁ B hml hv
  obtain ⟨hargs, hsz, hP, hK, hD0⟩ := hv
  have hx := B.exec
  have hb := B.bytes
  have hr := B.returns
  have hts := atoms_spec (ws := wsX1_makeRoomAt) B.pre
  have hown : s.vm.findClass RX1 = some m.cls := findClass_of_methodNamed B.named
  have hlocks := B.notSynchronized
  subst hsz
  have hD := hD0.self (sz := s.heap.size)
  generalize hAe : va_A (WX1 a b cI cJ cZ st) s.heap.size = A at hD ⊢
  have hA : ∀ q : Nat, s.heap.size ≤ q → A q := fun q h => by rw [← hAe]; exact Or.inr h
  have hl := lv_entry ([.ref (a 1), .int x1]) (n := 3) (Nat.le_of_ble_eq_true rfl)
  refine W.eq (hargs ▸ lg_entry_eq m [.ref (a 1), .int x1] 3) ?_
  generalize (lg_sl ([.ref (a 1), .int x1]) ++ List.replicate (3 - (lg_sl ([.ref (a 1), .int x1])).length) Slot.unset).toArray = ls at hl ⊢
  have hl : lv_has ls 3 [(0, .ref (a 1)), (1, .int x1)] := hl
  obtain ⟨QQ, hQ⟩ : ∃ QQ : State → Prop, QQ = MQ below (Qm (dC, dI) none (WX1 a b cI cJ cZ res) A) args s 0 0 (A) := ⟨_, rfl⟩
  rw [← hQ]
  have main : ∀ (H : Heap) (locs : List Loc) (ls : Array Slot), IN (dC, dI) (WX1 a b cI cJ cZ st) A s.heap H locs → lv_has ls 3 [(0, .ref (a 1)), (1, .int x1)] → W p l e (headSpec wsX1_makeRoomAt rX1_makeRoomAt).room s m args below meth c H locs 0 0 QQ (F0 m 0 ls []) := by
    intro H locs ls hin hl
    obtain ⟨hP, hD, hS⟩ := hin
    unfold fX1_makeRoomAt at hf
    refine lv_aload_n hx hb dX1_makeRoomAt_0 rfl (lv_at hl 0 rfl) ?_
    refine va_get (D := (dC, dI)) (ci := 1) (v := .int (HS_size st)) (C := RX1) (T := TX1) (N := 11) hx hb hts kX1_makeRoomAt_X1 hown hK hP 0 rfl rfl 4 (by decide) (hts _ mX1_makeRoomAt_1) (fun _ h9 => h9) rfl dX1_makeRoomAt_1 ?_
    refine lv_iload_n hx hb dX1_makeRoomAt_4 rfl (lv_at hl 1 rfl) ?_
    refine lv_isub hx hb dX1_makeRoomAt_5 ?_
    refine lv_istore_n (lv' := [(2, .int ((HS_size st) - x1)), (0, .ref (a 1)), (1, .int x1)]) hx hb dX1_makeRoomAt_6 rfl hl (by decide) rfl (fun ls hl => ?_)
    refine lv_aload_n hx hb dX1_makeRoomAt_7 rfl (lv_at hl 1 rfl) ?_
    refine va_get (D := (dC, dI)) (ci := 1) (v := .ref (a 2)) (C := RX1) (T := TX1) (N := 11) hx hb hts kX1_makeRoomAt_X1 hown hK hP 0 rfl rfl 0 (by decide) (hts _ mX1_makeRoomAt_2) (fun _ h9 => h9) rfl dX1_makeRoomAt_8 ?_
    refine lv_iload_n hx hb dX1_makeRoomAt_11 rfl (lv_at hl 2 rfl) ?_
    refine lv_aload_n hx hb dX1_makeRoomAt_12 rfl (lv_at hl 1 rfl) ?_
    refine va_get (D := (dC, dI)) (ci := 1) (v := .ref (a 2)) (C := RX1) (T := TX1) (N := 11) hx hb hts kX1_makeRoomAt_X1 hown hK hP 0 rfl rfl 0 (by decide) (hts _ mX1_makeRoomAt_2) (fun _ h9 => h9) rfl dX1_makeRoomAt_13 ?_
    refine lv_iload_n hx hb dX1_makeRoomAt_16 rfl (lv_at hl 2 rfl) ?_
    refine lv_iconst (v := (1 : Int32)) hx hb dX1_makeRoomAt_17 (by decide) ?_
    refine lv_iadd hx hb dX1_makeRoomAt_18 ?_
    refine lv_iload_n hx hb dX1_makeRoomAt_19 rfl (lv_at hl 0 rfl) ?_
    obtain ⟨ho1, hf⟩ := it_s hf
    obtain ⟨ho11, ho12, ho13, ho14, ho15⟩ := okc_iff.mp ho1
    refine va_copyi hx hb (hml.trans hl.1.symm) hown (hts _ mX1_makeRoomAt_3) (hts _ mX1_makeRoomAt_4) (hts _ mX1_makeRoomAt_5) (hts _ mX1_makeRoomAt_6) hK hP hD hS 1 1 0 0 rfl rfl rfl rfl rfl ho11 ho12 ho13 ho14 ho15 (fun _ _ => rfl) (Nat.le_of_ble_eq_true rfl) (Nat.le_of_ble_eq_true rfl) dX1_makeRoomAt_20 (fun H locs hP hD hS => ?_)
    replace hP : va_P (dC, dI) vwCl (WX1 a b cI cJ cZ (HS_holder_s st (va_cpy (HS_holder st) (HS_holder st) (x1).toNatClampNeg ((x1 + (1 : Int32))).toNatClampNeg (((HS_size st) - x1)).toNatClampNeg))) H := hP
    replace hD : va_D A (WX1 a b cI cJ cZ (HS_holder_s st (va_cpy (HS_holder st) (HS_holder st) (x1).toNatClampNeg ((x1 + (1 : Int32))).toNatClampNeg (((HS_size st) - x1)).toNatClampNeg))) := hD
    refine lv_aload_n hx hb dX1_makeRoomAt_23 rfl (lv_at hl 1 rfl) ?_
    refine va_get (D := (dC, dI)) (ci := 1) (v := .ref (a 3)) (C := RX1) (T := TX1) (N := 11) hx hb hts kX1_makeRoomAt_X1 hown hK hP 0 rfl rfl 1 (by decide) (hts _ mX1_makeRoomAt_7) (fun _ h9 => h9) rfl dX1_makeRoomAt_24 ?_
    refine lv_iload_n hx hb dX1_makeRoomAt_27 rfl (lv_at hl 2 rfl) ?_
    refine lv_aload_n hx hb dX1_makeRoomAt_28 rfl (lv_at hl 1 rfl) ?_
    refine va_get (D := (dC, dI)) (ci := 1) (v := .ref (a 3)) (C := RX1) (T := TX1) (N := 11) hx hb hts kX1_makeRoomAt_X1 hown hK hP 0 rfl rfl 1 (by decide) (hts _ mX1_makeRoomAt_7) (fun _ h9 => h9) rfl dX1_makeRoomAt_29 ?_
    refine lv_iload_n hx hb dX1_makeRoomAt_32 rfl (lv_at hl 2 rfl) ?_
    refine lv_iconst (v := (1 : Int32)) hx hb dX1_makeRoomAt_33 (by decide) ?_
    refine lv_iadd hx hb dX1_makeRoomAt_34 ?_
    refine lv_iload_n hx hb dX1_makeRoomAt_35 rfl (lv_at hl 0 rfl) ?_
    obtain ⟨ho2, hf⟩ := it_s hf
    obtain ⟨ho21, ho22, ho23, ho24, ho25⟩ := okc_iff.mp ho2
    refine va_copyi hx hb (hml.trans hl.1.symm) hown (hts _ mX1_makeRoomAt_3) (hts _ mX1_makeRoomAt_4) (hts _ mX1_makeRoomAt_5) (hts _ mX1_makeRoomAt_6) hK hP hD hS 2 2 0 0 rfl rfl rfl rfl rfl ho21 ho22 ho23 ho24 ho25 (fun _ _ => rfl) (Nat.le_of_ble_eq_true rfl) (Nat.le_of_ble_eq_true rfl) dX1_makeRoomAt_36 (fun H locs hP hD hS => ?_)
    replace hP : va_P (dC, dI) vwCl (WX1 a b cI cJ cZ (HS_held_s (HS_holder_s st (va_cpy (HS_holder st) (HS_holder st) (x1).toNatClampNeg ((x1 + (1 : Int32))).toNatClampNeg (((HS_size st) - x1)).toNatClampNeg)) (va_cpy (HS_held st) (HS_held st) (x1).toNatClampNeg ((x1 + (1 : Int32))).toNatClampNeg (((HS_size st) - x1)).toNatClampNeg))) H := hP
    replace hD : va_D A (WX1 a b cI cJ cZ (HS_held_s (HS_holder_s st (va_cpy (HS_holder st) (HS_holder st) (x1).toNatClampNeg ((x1 + (1 : Int32))).toNatClampNeg (((HS_size st) - x1)).toNatClampNeg)) (va_cpy (HS_held st) (HS_held st) (x1).toNatClampNeg ((x1 + (1 : Int32))).toNatClampNeg (((HS_size st) - x1)).toNatClampNeg))) := hD
    refine lv_aload_n hx hb dX1_makeRoomAt_39 rfl (lv_at hl 1 rfl) ?_
    refine va_get (D := (dC, dI)) (ci := 1) (v := .ref (a 4)) (C := RX1) (T := TX1) (N := 11) hx hb hts kX1_makeRoomAt_X1 hown hK hP 0 rfl rfl 2 (by decide) (hts _ mX1_makeRoomAt_8) (fun _ h9 => h9) rfl dX1_makeRoomAt_40 ?_
    refine lv_iload_n hx hb dX1_makeRoomAt_43 rfl (lv_at hl 2 rfl) ?_
    refine lv_aload_n hx hb dX1_makeRoomAt_44 rfl (lv_at hl 1 rfl) ?_
    refine va_get (D := (dC, dI)) (ci := 1) (v := .ref (a 4)) (C := RX1) (T := TX1) (N := 11) hx hb hts kX1_makeRoomAt_X1 hown hK hP 0 rfl rfl 2 (by decide) (hts _ mX1_makeRoomAt_8) (fun _ h9 => h9) rfl dX1_makeRoomAt_45 ?_
    refine lv_iload_n hx hb dX1_makeRoomAt_48 rfl (lv_at hl 2 rfl) ?_
    refine lv_iconst (v := (1 : Int32)) hx hb dX1_makeRoomAt_49 (by decide) ?_
    refine lv_iadd hx hb dX1_makeRoomAt_50 ?_
    refine lv_iload_n hx hb dX1_makeRoomAt_51 rfl (lv_at hl 0 rfl) ?_
    obtain ⟨ho3, hf⟩ := it_s hf
    obtain ⟨ho31, ho32, ho33, ho34, ho35⟩ := okc_iff.mp ho3
    refine va_copyi hx hb (hml.trans hl.1.symm) hown (hts _ mX1_makeRoomAt_3) (hts _ mX1_makeRoomAt_4) (hts _ mX1_makeRoomAt_5) (hts _ mX1_makeRoomAt_6) hK hP hD hS 3 3 0 0 rfl rfl rfl rfl rfl ho31 ho32 ho33 ho34 ho35 (fun _ _ => rfl) (Nat.le_of_ble_eq_true rfl) (Nat.le_of_ble_eq_true rfl) dX1_makeRoomAt_52 (fun H locs hP hD hS => ?_)
    replace hP : va_P (dC, dI) vwCl (WX1 a b cI cJ cZ (HS_hundredths_s (HS_held_s (HS_holder_s st (va_cpy (HS_holder st) (HS_holder st) (x1).toNatClampNeg ((x1 + (1 : Int32))).toNatClampNeg (((HS_size st) - x1)).toNatClampNeg)) (va_cpy (HS_held st) (HS_held st) (x1).toNatClampNeg ((x1 + (1 : Int32))).toNatClampNeg (((HS_size st) - x1)).toNatClampNeg)) (va_cpy (HS_hundredths st) (HS_hundredths st) (x1).toNatClampNeg ((x1 + (1 : Int32))).toNatClampNeg (((HS_size st) - x1)).toNatClampNeg))) H := hP
    replace hD : va_D A (WX1 a b cI cJ cZ (HS_hundredths_s (HS_held_s (HS_holder_s st (va_cpy (HS_holder st) (HS_holder st) (x1).toNatClampNeg ((x1 + (1 : Int32))).toNatClampNeg (((HS_size st) - x1)).toNatClampNeg)) (va_cpy (HS_held st) (HS_held st) (x1).toNatClampNeg ((x1 + (1 : Int32))).toNatClampNeg (((HS_size st) - x1)).toNatClampNeg)) (va_cpy (HS_hundredths st) (HS_hundredths st) (x1).toNatClampNeg ((x1 + (1 : Int32))).toNatClampNeg (((HS_size st) - x1)).toNatClampNeg))) := hD
    refine lv_aload_n hx hb dX1_makeRoomAt_55 rfl (lv_at hl 1 rfl) ?_
    refine va_get (D := (dC, dI)) (ci := 1) (v := .ref (a 5)) (C := RX1) (T := TX1) (N := 11) hx hb hts kX1_makeRoomAt_X1 hown hK hP 0 rfl rfl 3 (by decide) (hts _ mX1_makeRoomAt_9) (fun _ h9 => h9) rfl dX1_makeRoomAt_56 ?_
    refine lv_iload_n hx hb dX1_makeRoomAt_59 rfl (lv_at hl 2 rfl) ?_
    refine lv_aload_n hx hb dX1_makeRoomAt_60 rfl (lv_at hl 1 rfl) ?_
    refine va_get (D := (dC, dI)) (ci := 1) (v := .ref (a 5)) (C := RX1) (T := TX1) (N := 11) hx hb hts kX1_makeRoomAt_X1 hown hK hP 0 rfl rfl 3 (by decide) (hts _ mX1_makeRoomAt_9) (fun _ h9 => h9) rfl dX1_makeRoomAt_61 ?_
    refine lv_iload_n hx hb dX1_makeRoomAt_64 rfl (lv_at hl 2 rfl) ?_
    refine lv_iconst (v := (1 : Int32)) hx hb dX1_makeRoomAt_65 (by decide) ?_
    refine lv_iadd hx hb dX1_makeRoomAt_66 ?_
    refine lv_iload_n hx hb dX1_makeRoomAt_67 rfl (lv_at hl 0 rfl) ?_
    obtain ⟨ho4, hf⟩ := it_s hf
    obtain ⟨ho41, ho42, ho43, ho44, ho45⟩ := okc_iff.mp ho4
    refine va_copyi hx hb (hml.trans hl.1.symm) hown (hts _ mX1_makeRoomAt_3) (hts _ mX1_makeRoomAt_4) (hts _ mX1_makeRoomAt_5) (hts _ mX1_makeRoomAt_6) hK hP hD hS 4 4 0 0 rfl rfl rfl rfl rfl ho41 ho42 ho43 ho44 ho45 (fun _ _ => rfl) (Nat.le_of_ble_eq_true rfl) (Nat.le_of_ble_eq_true rfl) dX1_makeRoomAt_68 (fun H locs hP hD hS => ?_)
    replace hP : va_P (dC, dI) vwCl (WX1 a b cI cJ cZ (HS_day_s (HS_hundredths_s (HS_held_s (HS_holder_s st (va_cpy (HS_holder st) (HS_holder st) (x1).toNatClampNeg ((x1 + (1 : Int32))).toNatClampNeg (((HS_size st) - x1)).toNatClampNeg)) (va_cpy (HS_held st) (HS_held st) (x1).toNatClampNeg ((x1 + (1 : Int32))).toNatClampNeg (((HS_size st) - x1)).toNatClampNeg)) (va_cpy (HS_hundredths st) (HS_hundredths st) (x1).toNatClampNeg ((x1 + (1 : Int32))).toNatClampNeg (((HS_size st) - x1)).toNatClampNeg)) (va_cpy (HS_day st) (HS_day st) (x1).toNatClampNeg ((x1 + (1 : Int32))).toNatClampNeg (((HS_size st) - x1)).toNatClampNeg))) H := hP
    replace hD : va_D A (WX1 a b cI cJ cZ (HS_day_s (HS_hundredths_s (HS_held_s (HS_holder_s st (va_cpy (HS_holder st) (HS_holder st) (x1).toNatClampNeg ((x1 + (1 : Int32))).toNatClampNeg (((HS_size st) - x1)).toNatClampNeg)) (va_cpy (HS_held st) (HS_held st) (x1).toNatClampNeg ((x1 + (1 : Int32))).toNatClampNeg (((HS_size st) - x1)).toNatClampNeg)) (va_cpy (HS_hundredths st) (HS_hundredths st) (x1).toNatClampNeg ((x1 + (1 : Int32))).toNatClampNeg (((HS_size st) - x1)).toNatClampNeg)) (va_cpy (HS_day st) (HS_day st) (x1).toNatClampNeg ((x1 + (1 : Int32))).toNatClampNeg (((HS_size st) - x1)).toNatClampNeg))) := hD
    refine lv_aload_n hx hb dX1_makeRoomAt_71 rfl (lv_at hl 1 rfl) ?_
    refine lv_dup hx hb dX1_makeRoomAt_72 rfl ?_
    refine va_get (D := (dC, dI)) (ci := 1) (v := .int (HS_size st)) (C := RX1) (T := TX1) (N := 11) hx hb hts kX1_makeRoomAt_X1 hown hK hP 0 rfl rfl 4 (by decide) (hts _ mX1_makeRoomAt_1) (fun _ h9 => h9) rfl dX1_makeRoomAt_73 ?_
    refine lv_iconst (v := (1 : Int32)) hx hb dX1_makeRoomAt_76 (by decide) ?_
    refine lv_iadd hx hb dX1_makeRoomAt_77 ?_
    refine va_put (D := (dC, dI)) (ci := 1) (v := .int ((HS_size st) + (1 : Int32))) (ty := .int) (C := RX1) (T := TX1) (N := 11) hx hb hts kX1_makeRoomAt_X1 tyX1 tyX1_ok nmX1 hown hK hP hD hS 0 rfl rfl 4 (by decide) (hts _ mX1_makeRoomAt_1) (fun _ h9 => h9) rfl (by decide +kernel) rfl rfl (Nat.le_of_ble_eq_true rfl) dX1_makeRoomAt_78 (fun H locs hP hD hS => ?_)
    replace hP : va_P (dC, dI) vwCl (WX1 a b cI cJ cZ (HS_size_s (HS_day_s (HS_hundredths_s (HS_held_s (HS_holder_s st (va_cpy (HS_holder st) (HS_holder st) (x1).toNatClampNeg ((x1 + (1 : Int32))).toNatClampNeg (((HS_size st) - x1)).toNatClampNeg)) (va_cpy (HS_held st) (HS_held st) (x1).toNatClampNeg ((x1 + (1 : Int32))).toNatClampNeg (((HS_size st) - x1)).toNatClampNeg)) (va_cpy (HS_hundredths st) (HS_hundredths st) (x1).toNatClampNeg ((x1 + (1 : Int32))).toNatClampNeg (((HS_size st) - x1)).toNatClampNeg)) (va_cpy (HS_day st) (HS_day st) (x1).toNatClampNeg ((x1 + (1 : Int32))).toNatClampNeg (((HS_size st) - x1)).toNatClampNeg)) ((HS_size st) + (1 : Int32)))) H := hP
    replace hD : va_D A (WX1 a b cI cJ cZ (HS_size_s (HS_day_s (HS_hundredths_s (HS_held_s (HS_holder_s st (va_cpy (HS_holder st) (HS_holder st) (x1).toNatClampNeg ((x1 + (1 : Int32))).toNatClampNeg (((HS_size st) - x1)).toNatClampNeg)) (va_cpy (HS_held st) (HS_held st) (x1).toNatClampNeg ((x1 + (1 : Int32))).toNatClampNeg (((HS_size st) - x1)).toNatClampNeg)) (va_cpy (HS_hundredths st) (HS_hundredths st) (x1).toNatClampNeg ((x1 + (1 : Int32))).toNatClampNeg (((HS_size st) - x1)).toNatClampNeg)) (va_cpy (HS_day st) (HS_day st) (x1).toNatClampNeg ((x1 + (1 : Int32))).toNatClampNeg (((HS_size st) - x1)).toNatClampNeg)) ((HS_size st) + (1 : Int32)))) := hD
    obtain rfl := Option.some.inj hf
    rw [hQ]
    exact W.vret hx hb hr (fun t ht hW => ⟨rfl, ⟨by rw [ht]; exact hP, hD⟩, hS.F ht⟩) hS.2.2 dX1_makeRoomAt_81
  exact main s.heap [] ls ⟨hP, hD, va_S.rf⟩ hl
def rX1_forgetSpans : Room := { frames := 0, cells := 0, slots := 0, locals := 0 }
theorem kX1_forgetSpans_X1 : ∀ w ∈ wsX10, w ∈ wsX1_forgetSpans := fun w h => (List.mem_cons_of_mem _ (List.mem_append_right _ h))
theorem mX1_forgetSpans_1 : Cond.fieldLink RX1 27 "SmokeLedger$Holdings" "spanIsMade" "[Z" ∈ wsX1_forgetSpans := List.mem_of_getElem? (i := 1) rfl
set_option maxHeartbeats 4000000 in
set_option maxRecDepth 100000 in
theorem ct_X1_forgetSpans (l : Launch) (dC : Nat → ClassId) (dI : Nat → Nat → Nat) (a b : Nat → Nat) (cI cJ cZ : ClassId) (sz : Nat) (st : HS) (res : HS) (hf : fX1_forgetSpans st = some res) : Met l yX1_forgetSpans wsX1_forgetSpans rX1_forgetSpans (Pm (dC, dI) (tyT cI cJ cZ) (WX1 a b cI cJ cZ st) sz [.ref (a 1)]) (Qm (dC, dI) none (WX1 a b cI cJ cZ res) (va_A (WX1 a b cI cJ cZ st) sz)) 0 0 (va_A (WX1 a b cI cJ cZ st) sz) := by
  refine Met.ofW (cc := cX1_forgetSpans) (maxL := 2) (ret := none) (by decide) rfl ?_
  intro p e s m args below meth c s₁ B hml hv
  obtain ⟨hargs, hsz, hP, hK, hD0⟩ := hv
  have hx := B.exec
  have hb := B.bytes
  have hr := B.returns
  have hts := atoms_spec (ws := wsX1_forgetSpans) B.pre
  have hown : s.vm.findClass RX1 = some m.cls := findClass_of_methodNamed B.named
  have hlocks := B.notSynchronized
  subst hsz
  have hD := hD0.self (sz := s.heap.size)
  generalize hAe : va_A (WX1 a b cI cJ cZ st) s.heap.size = A at hD ⊢
  have hA : ∀ q : Nat, s.heap.size ≤ q → A q := fun q h => by rw [← hAe]; exact Or.inr h
  have hl := lv_entry ([.ref (a 1)]) (n := 2) (Nat.le_of_ble_eq_true rfl)
  refine W.eq (hargs ▸ lg_entry_eq m [.ref (a 1)] 2) ?_
  generalize (lg_sl ([.ref (a 1)]) ++ List.replicate (2 - (lg_sl ([.ref (a 1)])).length) Slot.unset).toArray = ls at hl ⊢
  have hl : lv_has ls 2 [(0, .ref (a 1))] := hl
  obtain ⟨QQ, hQ⟩ : ∃ QQ : State → Prop, QQ = MQ below (Qm (dC, dI) none (WX1 a b cI cJ cZ res) A) args s 0 0 (A) := ⟨_, rfl⟩
  rw [← hQ]
  have l2 : ∀ (fu : Nat) (s0 : HS × Int32) (r : HS × Int32), loopN (fun (s : HS × Int32) => fX1_forgetSpans_l2 s.1 s.2) fu s0 = some r → (∀ (H : Heap) (locs : List Loc) (ls : Array Slot), IN (dC, dI) (WX1 a b cI cJ cZ r.1) A s.heap H locs → lv_has ls 2 [(0, .ref (a 1)), (1, .int r.2)] → W p l e (headSpec wsX1_forgetSpans rX1_forgetSpans).room s m args below meth c H locs 0 0 QQ (F0 m 21 ls [])) → (∀ (H : Heap) (locs : List Loc) (ls : Array Slot), IN (dC, dI) (WX1 a b cI cJ cZ s0.1) A s.heap H locs → lv_has ls 2 [(0, .ref (a 1)), (1, .int s0.2)] → W p l e (headSpec wsX1_forgetSpans rX1_forgetSpans).room s m args below meth c H locs 0 0 QQ (F0 m 2 ls [])) := by
    intro fu s0 r
    refine loop_ind (P := fun s0 => ∀ (H : Heap) (locs : List Loc) (ls : Array Slot), IN (dC, dI) (WX1 a b cI cJ cZ s0.1) A s.heap H locs → lv_has ls 2 [(0, .ref (a 1)), (1, .int s0.2)] → W p l e (headSpec wsX1_forgetSpans rX1_forgetSpans).room s m args below meth c H locs 0 0 QQ (F0 m 2 ls [])) (Q := fun r => ∀ (H : Heap) (locs : List Loc) (ls : Array Slot), IN (dC, dI) (WX1 a b cI cJ cZ r.1) A s.heap H locs → lv_has ls 2 [(0, .ref (a 1)), (1, .int r.2)] → W p l e (headSpec wsX1_forgetSpans rX1_forgetSpans).room s m args below meth c H locs 0 0 QQ (F0 m 21 ls [])) ?_ fu s0 r
    clear fu s0 r
    rintro ⟨st, x1⟩ x hf kc ke
    replace hf : fX1_forgetSpans_l2 st x1 = some x := hf
    replace kc : (∀ s', x = .inl s' → (∀ (H : Heap) (locs : List Loc) (ls : Array Slot), IN (dC, dI) (WX1 a b cI cJ cZ s'.1) A s.heap H locs → lv_has ls 2 [(0, .ref (a 1)), (1, .int s'.2)] → W p l e (headSpec wsX1_forgetSpans rX1_forgetSpans).room s m args below meth c H locs 0 0 QQ (F0 m 2 ls []))) := kc
    replace ke : (∀ r, x = .inr r → (∀ (H : Heap) (locs : List Loc) (ls : Array Slot), IN (dC, dI) (WX1 a b cI cJ cZ r.1) A s.heap H locs → lv_has ls 2 [(0, .ref (a 1)), (1, .int r.2)] → W p l e (headSpec wsX1_forgetSpans rX1_forgetSpans).room s m args below meth c H locs 0 0 QQ (F0 m 21 ls []))) := ke
    intro H locs ls hin hl
    obtain ⟨hP, hD, hS⟩ := hin
    unfold fX1_forgetSpans_l2 at hf
    refine lv_iload_n hx hb dX1_forgetSpans_2 rfl (lv_at hl 1 rfl) ?_
    refine lv_bipush (v := (100 : Int32)) hx hb dX1_forgetSpans_3 (by decide) ?_
    refine lv_icmp_gt (tgt := 21) hx hb dX1_forgetSpans_5 (by decide) (fun c1 => ?_) (fun c1 => ?_)
    · replace hf := it_p c1 hf
      obtain rfl := Option.some.inj hf
      exact ke _ rfl H locs ls ⟨hP, hD, hS⟩ (lv_sub hl [0, 1] rfl)
    · replace hf := it_n c1 hf
      refine lv_aload_n hx hb dX1_forgetSpans_8 rfl (lv_at hl 0 rfl) ?_
      refine va_get (D := (dC, dI)) (ci := 1) (v := .ref (a 7)) (C := RX1) (T := TX1) (N := 11) hx hb hts kX1_forgetSpans_X1 hown hK hP 0 rfl rfl 6 (by decide) (hts _ mX1_forgetSpans_1) (fun _ h9 => h9) rfl dX1_forgetSpans_9 ?_
      refine lv_iload_n hx hb dX1_forgetSpans_12 rfl (lv_at hl 1 rfl) ?_
      refine lv_iconst (v := (0 : Int32)) hx hb dX1_forgetSpans_13 (by decide) ?_
      obtain ⟨hi2, hf⟩ := it_s hf
      refine va_zast hx hb hK hP hD hS 6 2 rfl rfl (inb_in hi2) dX1_forgetSpans_14 (fun H locs hP hD hS => ?_)
      replace hP : va_P (dC, dI) vwCl (WX1 a b cI cJ cZ (HS_spanIsMade_s st (upd (HS_spanIsMade st) (x1).toNatClampNeg (vp_nar .boolean (0 : Int32))))) H := hP
      replace hD : va_D A (WX1 a b cI cJ cZ (HS_spanIsMade_s st (upd (HS_spanIsMade st) (x1).toNatClampNeg (vp_nar .boolean (0 : Int32))))) := hD
      refine lv_iinc (v := (x1 + (1 : Int32))) (lv' := [(1, .int (x1 + (1 : Int32))), (0, .ref (a 1))]) hx hb dX1_forgetSpans_15 hl (k := 1) rfl rfl (by decide) rfl (fun ls hl => ?_)
      refine lv_goto (tgt := 2) hx hb dX1_forgetSpans_18 (by decide) ?_
      obtain rfl := Option.some.inj hf
      exact kc _ rfl H locs ls ⟨hP, hD, hS⟩ (lv_sub hl [1, 0] rfl)
  have main : ∀ (H : Heap) (locs : List Loc) (ls : Array Slot), IN (dC, dI) (WX1 a b cI cJ cZ st) A s.heap H locs → lv_has ls 2 [(0, .ref (a 1))] → W p l e (headSpec wsX1_forgetSpans rX1_forgetSpans).room s m args below meth c H locs 0 0 QQ (F0 m 0 ls []) := by
    intro H locs ls hin hl
    obtain ⟨hP, hD, hS⟩ := hin
    unfold fX1_forgetSpans at hf
    refine lv_iconst (v := (0 : Int32)) hx hb dX1_forgetSpans_0 (by decide) ?_
    refine lv_istore_n (lv' := [(1, .int (0 : Int32)), (0, .ref (a 1))]) hx hb dX1_forgetSpans_1 rfl hl (by decide) rfl (fun ls hl => ?_)
    obtain ⟨y3, hlp, hf⟩ := bind_s hf
    refine l2 fuelN (st, (0 : Int32)) y3 hlp ?_ H locs ls ⟨hP, hD, hS⟩ (lv_sub hl [1, 0] rfl)
    intro H locs ls hin hl
    obtain ⟨hP, hD, hS⟩ := hin
    obtain rfl := Option.some.inj hf
    rw [hQ]
    exact W.vret hx hb hr (fun t ht hW => ⟨rfl, ⟨by rw [ht]; exact hP, hD⟩, hS.F ht⟩) hS.2.2 dX1_forgetSpans_21
  exact main s.heap [] ls ⟨hP, hD, va_S.rf⟩ hl
def rX1_tell : Room := { frames := 2, cells := 0, slots := 0, locals := 62 }
theorem kX1_tell_X1 : ∀ w ∈ wsX10, w ∈ wsX1_tell := fun w h => (List.mem_cons_of_mem _ (List.mem_append_right _ h))
theorem mX1_tell_5 : Cond.fieldLink RX1 18 "SmokeLedger$Holdings" "hundredths" "[I" ∈ wsX1_tell := List.mem_of_getElem? (i := 5) rfl
theorem mX1_tell_1 : Cond.fieldLink RX1 44 "SmokeLedger$Holdings" "size" "I" ∈ wsX1_tell := List.mem_of_getElem? (i := 1) rfl
theorem mX1_tell_2 : Cond.fieldLink RX1 9 "SmokeLedger$Holdings" "holder" "[I" ∈ wsX1_tell := List.mem_of_getElem? (i := 2) rfl
theorem mX1_tell_3 : Cond.fieldLink RX1 15 "SmokeLedger$Holdings" "held" "[I" ∈ wsX1_tell := List.mem_of_getElem? (i := 3) rfl
theorem mX1_tell_4 : Cond.fieldLink RX1 21 "SmokeLedger$Holdings" "day" "[I" ∈ wsX1_tell := List.mem_of_getElem? (i := 4) rfl
set_option maxHeartbeats 4000000 in
set_option maxRecDepth 100000 in
theorem ct_X1_tell (l : Launch) (dC : Nat → ClassId) (dI : Nat → Nat → Nat) (a b : Nat → Nat) (cI cJ cZ : ClassId) (sz : Nat) (st : HS) (x1 : Int32) (x2 : Int32) (x3 : Int32) (x4 : Int32) (res : Int32 × HS) (hf : fX1_tell st x1 x2 x3 x4 = some res) : Met l yX1_tell wsX1_tell rX1_tell (Pm (dC, dI) (tyT cI cJ cZ) (WX1 a b cI cJ cZ st) sz [.ref (a 1), .int x1, .int x2, .int x3, .int x4]) (Qm (dC, dI) (some (.int res.1)) (WX1 a b cI cJ cZ res.2) (va_A (WX1 a b cI cJ cZ st) sz)) 0 0 (va_A (WX1 a b cI cJ cZ st) sz) := by
  refine Met.ofW (cc := cX1_tell) (maxL := 7) (ret := (some .int)) (by decide) rfl ?_
  intro p e s m args below meth c s₁ B hml hv
  obtain ⟨hargs, hsz, hP, hK, hD0⟩ := hv
  have hx := B.exec
  have hb := B.bytes
  have hr := B.returns
  have hts := atoms_spec (ws := wsX1_tell) B.pre
  have hown : s.vm.findClass RX1 = some m.cls := findClass_of_methodNamed B.named
  have hlocks := B.notSynchronized
  subst hsz
  have hD := hD0.self (sz := s.heap.size)
  generalize hAe : va_A (WX1 a b cI cJ cZ st) s.heap.size = A at hD ⊢
  have hA : ∀ q : Nat, s.heap.size ≤ q → A q := fun q h => by rw [← hAe]; exact Or.inr h
  have hl := lv_entry ([.ref (a 1), .int x1, .int x2, .int x3, .int x4]) (n := 7) (Nat.le_of_ble_eq_true rfl)
  refine W.eq (hargs ▸ lg_entry_eq m [.ref (a 1), .int x1, .int x2, .int x3, .int x4] 7) ?_
  generalize (lg_sl ([.ref (a 1), .int x1, .int x2, .int x3, .int x4]) ++ List.replicate (7 - (lg_sl ([.ref (a 1), .int x1, .int x2, .int x3, .int x4])).length) Slot.unset).toArray = ls at hl ⊢
  have hl : lv_has ls 7 [(0, .ref (a 1)), (1, .int x1), (2, .int x2), (3, .int x3), (4, .int x4)] := hl
  obtain ⟨QQ, hQ⟩ : ∃ QQ : State → Prop, QQ = MQ below (Qm (dC, dI) (some (.int res.1)) (WX1 a b cI cJ cZ res.2) A) args s 0 0 (A) := ⟨_, rfl⟩
  rw [← hQ]
  have b78 : ∀ (st : HS) (x3 : Int32) (x5 : Int32) (x6 : Int32), fX1_tell_b78 st x3 x5 x6 = some res → (∀ (H : Heap) (locs : List Loc) (ls : Array Slot), IN (dC, dI) (WX1 a b cI cJ cZ st) A s.heap H locs → lv_has ls 7 [(0, .ref (a 1)), (3, .int x3), (5, .int x5), (6, .int x6)] → W p l e (headSpec wsX1_tell rX1_tell).room s m args below meth c H locs 0 0 QQ (F0 m 78 ls [])) := by
    intro st x3 x5 x6 hf
    intro H locs ls hin hl
    obtain ⟨hP, hD, hS⟩ := hin
    unfold fX1_tell_b78 at hf
    refine lv_aload_n hx hb dX1_tell_78 rfl (lv_at hl 0 rfl) ?_
    refine va_get (D := (dC, dI)) (ci := 1) (v := .ref (a 4)) (C := RX1) (T := TX1) (N := 11) hx hb hts kX1_tell_X1 hown hK hP 0 rfl rfl 2 (by decide) (hts _ mX1_tell_5) (fun _ h9 => h9) rfl dX1_tell_79 ?_
    refine lv_iload hx hb dX1_tell_82 (lv_at hl 3 rfl) ?_
    refine lv_iload_n hx hb dX1_tell_84 rfl (lv_at hl 1 rfl) ?_
    obtain ⟨hi6, hf⟩ := it_s hf
    refine va_iast hx hb hK hP hD hS 3 0 rfl rfl (inb_in hi6) dX1_tell_85 (fun H locs hP hD hS => ?_)
    replace hP : va_P (dC, dI) vwCl (WX1 a b cI cJ cZ (HS_hundredths_s st (upd (HS_hundredths st) (x6).toNatClampNeg x3))) H := hP
    replace hD : va_D A (WX1 a b cI cJ cZ (HS_hundredths_s st (upd (HS_hundredths st) (x6).toNatClampNeg x3))) := hD
    refine lv_aload_n hx hb dX1_tell_86 rfl (lv_at hl 0 rfl) ?_
    obtain ⟨p7, hc8, hf⟩ := bind_s hf
    refine cmV (wr := []) ⟨hx, hb, hml, hown, hts⟩ (ct_X1_forgetSpans l dC dI a b cI cJ cZ H.size (HS_hundredths_s st (upd (HS_hundredths st) (x6).toNatClampNeg x3))  p7 hc8) (cwV 0 hts gX1_tell_X1_forgetSpans rfl rfl rfl (by decide +kernel) ⟨(Nat.le_of_ble_eq_true rfl), (Nat.le_of_ble_eq_true rfl)⟩) hK hP hD hS hA [0, 1, 2, 3, 4, 5, 6, 7, 8, 9, 10] [] rfl rfl (by decide) rfl (by decide) (by decide) rfl rfl rfl hl.1 rfl (Nat.le_of_ble_eq_true rfl) (Nat.le_of_ble_eq_true rfl) (Nat.le_of_ble_eq_true rfl) dX1_tell_87 (fun H locs hP hD hS => ?_)
    replace hP : va_P (dC, dI) vwCl (WX1 a b cI cJ cZ p7) H := hP
    replace hD : va_D A (WX1 a b cI cJ cZ p7) := hD
    refine W.eq (g2 := F0 m 90 ls []) rfl ?_
    refine lv_iload hx hb dX1_tell_90 (lv_at hl 2 rfl) ?_
    obtain rfl := Option.some.inj hf
    rw [hQ]
    exact W.iret hx hb hr (fun t ht hW => ⟨rfl, ⟨by rw [ht]; exact hP, hD⟩, hS.F ht⟩) hS.2.2 dX1_tell_92
  have main : ∀ (H : Heap) (locs : List Loc) (ls : Array Slot), IN (dC, dI) (WX1 a b cI cJ cZ st) A s.heap H locs → lv_has ls 7 [(0, .ref (a 1)), (1, .int x1), (2, .int x2), (3, .int x3), (4, .int x4)] → W p l e (headSpec wsX1_tell rX1_tell).room s m args below meth c H locs 0 0 QQ (F0 m 0 ls []) := by
    intro H locs ls hin hl
    obtain ⟨hP, hD, hS⟩ := hin
    unfold fX1_tell at hf
    refine lv_aload_n hx hb dX1_tell_0 rfl (lv_at hl 0 rfl) ?_
    refine lv_iload_n hx hb dX1_tell_1 rfl (lv_at hl 1 rfl) ?_
    refine lv_iload_n hx hb dX1_tell_2 rfl (lv_at hl 2 rfl) ?_
    refine lv_iload hx hb dX1_tell_3 (lv_at hl 4 rfl) ?_
    obtain ⟨r1, hc2, hf⟩ := bind_s hf
    refine cpV (v := .int r1) ⟨hx, hb, hml, hown, hts⟩ (ct_X1_heldOn l dC dI a b cI cJ cZ st x1 x2 x4 r1 hc2) (cwV 3 hts gX1_tell_X1_heldOn rfl rfl rfl (by decide +kernel) ⟨(Nat.le_of_ble_eq_true rfl), (Nat.le_of_ble_eq_true rfl)⟩) hK hP [0, 1, 2, 3, 4, 5, 6, 7, 8, 9, 10] rfl rfl rfl rfl hl.1 rfl (Nat.le_of_ble_eq_true rfl) (Nat.le_of_ble_eq_true rfl) (Nat.le_of_ble_eq_true rfl) dX1_tell_5 ?_
    refine lv_istore (lv' := [(5, .int r1), (0, .ref (a 1)), (1, .int x1), (2, .int x2), (3, .int x3), (4, .int x4)]) hx hb dX1_tell_8 hl (by decide) rfl (fun ls hl => ?_)
    refine lv_aload_n hx hb dX1_tell_10 rfl (lv_at hl 1 rfl) ?_
    refine lv_iload_n hx hb dX1_tell_11 rfl (lv_at hl 2 rfl) ?_
    refine lv_iload_n hx hb dX1_tell_12 rfl (lv_at hl 3 rfl) ?_
    refine lv_iload hx hb dX1_tell_13 (lv_at hl 5 rfl) ?_
    obtain ⟨r3, hc4, hf⟩ := bind_s hf
    refine cpV (v := .int r3) ⟨hx, hb, hml, hown, hts⟩ (ct_X1_placeOf l dC dI a b cI cJ cZ st x1 x2 x4 r3 hc4) (cwV 3 hts gX1_tell_X1_placeOf rfl rfl rfl (by decide +kernel) ⟨(Nat.le_of_ble_eq_true rfl), (Nat.le_of_ble_eq_true rfl)⟩) hK hP [0, 1, 2, 3, 4, 5, 6, 7, 8, 9, 10] rfl rfl rfl rfl hl.1 rfl (Nat.le_of_ble_eq_true rfl) (Nat.le_of_ble_eq_true rfl) (Nat.le_of_ble_eq_true rfl) dX1_tell_15 ?_
    refine lv_istore (lv' := [(6, .int r3), (5, .int r1), (0, .ref (a 1)), (1, .int x1), (2, .int x2), (3, .int x3), (4, .int x4)]) hx hb dX1_tell_18 hl (by decide) rfl (fun ls hl => ?_)
    refine lv_iload hx hb dX1_tell_20 (lv_at hl 0 rfl) ?_
    refine lv_bipush (v := (-9 : Int32)) hx hb dX1_tell_22 (by decide) ?_
    refine lv_icmp_ne (tgt := 78) hx hb dX1_tell_24 (by decide) (fun c5 => ?_) (fun c5 => ?_)
    · replace hf := it_n c5 hf
      exact b78 st x3 r1 r3 hf H locs ls ⟨hP, hD, hS⟩ (lv_sub hl [2, 5, 1, 0] rfl)
    · replace hf := it_p c5 hf
      refine lv_aload_n hx hb dX1_tell_27 rfl (lv_at hl 2 rfl) ?_
      refine va_get (D := (dC, dI)) (ci := 1) (v := .int (HS_size st)) (C := RX1) (T := TX1) (N := 11) hx hb hts kX1_tell_X1 hown hK hP 0 rfl rfl 4 (by decide) (hts _ mX1_tell_1) (fun _ h9 => h9) rfl dX1_tell_28 ?_
      refine lv_bipush (v := (100 : Int32)) hx hb dX1_tell_31 (by decide) ?_
      refine lv_icmp_lt (tgt := 39) hx hb dX1_tell_33 (by decide) (fun c9 => ?_) (fun c9 => ?_)
      · replace hf := it_p c9 hf
        refine lv_aload_n hx hb dX1_tell_39 rfl (lv_at hl 2 rfl) ?_
        refine lv_iload hx hb dX1_tell_40 (lv_at hl 6 rfl) ?_
        obtain ⟨r10, hc11, hf⟩ := bind_s hf
        refine cpV (v := .int r10) ⟨hx, hb, hml, hown, hts⟩ (ct_X1_spanOn l dC dI a b cI cJ cZ st x4 r10 hc11) (cwV 1 hts gX1_tell_X1_spanOn rfl rfl rfl (by decide +kernel) ⟨(Nat.le_of_ble_eq_true rfl), (Nat.le_of_ble_eq_true rfl)⟩) hK hP [0, 1, 2, 3, 4, 5, 6, 7, 8, 9, 10] rfl rfl rfl rfl hl.1 rfl (Nat.le_of_ble_eq_true rfl) (Nat.le_of_ble_eq_true rfl) (Nat.le_of_ble_eq_true rfl) dX1_tell_42 ?_
        refine lv_istore (lv' := [(6, .int r10), (5, .int r1), (0, .ref (a 1)), (1, .int x1), (2, .int x2), (3, .int x3), (4, .int x4)]) hx hb dX1_tell_45 hl (by decide) rfl (fun ls hl => ?_)
        refine lv_aload_n hx hb dX1_tell_47 rfl (lv_at hl 2 rfl) ?_
        refine lv_iload hx hb dX1_tell_48 (lv_at hl 0 rfl) ?_
        obtain ⟨p12, hc13, hf⟩ := bind_s hf
        refine cmV (wr := []) ⟨hx, hb, hml, hown, hts⟩ (ct_X1_makeRoomAt l dC dI a b cI cJ cZ H.size st r10 p12 hc13) (cwV 1 hts gX1_tell_X1_makeRoomAt rfl rfl rfl (by decide +kernel) ⟨(Nat.le_of_ble_eq_true rfl), (Nat.le_of_ble_eq_true rfl)⟩) hK hP hD hS hA [0, 1, 2, 3, 4, 5, 6, 7, 8, 9, 10] [] rfl rfl (by decide) rfl (by decide) (by decide) rfl rfl rfl hl.1 rfl (Nat.le_of_ble_eq_true rfl) (Nat.le_of_ble_eq_true rfl) (Nat.le_of_ble_eq_true rfl) dX1_tell_50 (fun H locs hP hD hS => ?_)
        replace hP : va_P (dC, dI) vwCl (WX1 a b cI cJ cZ p12) H := hP
        replace hD : va_D A (WX1 a b cI cJ cZ p12) := hD
        refine W.eq (g2 := F0 m 53 ls []) rfl ?_
        refine lv_aload_n hx hb dX1_tell_53 rfl (lv_at hl 2 rfl) ?_
        refine va_get (D := (dC, dI)) (ci := 1) (v := .ref (a 2)) (C := RX1) (T := TX1) (N := 11) hx hb hts kX1_tell_X1 hown hK hP 0 rfl rfl 0 (by decide) (hts _ mX1_tell_2) (fun _ h9 => h9) rfl dX1_tell_54 ?_
        refine lv_iload hx hb dX1_tell_57 (lv_at hl 0 rfl) ?_
        refine lv_iload_n hx hb dX1_tell_59 rfl (lv_at hl 3 rfl) ?_
        obtain ⟨hi14, hf⟩ := it_s hf
        refine va_iast hx hb hK hP hD hS 1 0 rfl rfl (inb_in hi14) dX1_tell_60 (fun H locs hP hD hS => ?_)
        replace hP : va_P (dC, dI) vwCl (WX1 a b cI cJ cZ (HS_holder_s p12 (upd (HS_holder p12) (r10).toNatClampNeg x1))) H := hP
        replace hD : va_D A (WX1 a b cI cJ cZ (HS_holder_s p12 (upd (HS_holder p12) (r10).toNatClampNeg x1))) := hD
        refine lv_aload_n hx hb dX1_tell_61 rfl (lv_at hl 2 rfl) ?_
        refine va_get (D := (dC, dI)) (ci := 1) (v := .ref (a 3)) (C := RX1) (T := TX1) (N := 11) hx hb hts kX1_tell_X1 hown hK hP 0 rfl rfl 1 (by decide) (hts _ mX1_tell_3) (fun _ h9 => h9) rfl dX1_tell_62 ?_
        refine lv_iload hx hb dX1_tell_65 (lv_at hl 0 rfl) ?_
        refine lv_iload_n hx hb dX1_tell_67 rfl (lv_at hl 4 rfl) ?_
        obtain ⟨hi15, hf⟩ := it_s hf
        refine va_iast hx hb hK hP hD hS 2 0 rfl rfl (inb_in hi15) dX1_tell_68 (fun H locs hP hD hS => ?_)
        replace hP : va_P (dC, dI) vwCl (WX1 a b cI cJ cZ (HS_held_s (HS_holder_s p12 (upd (HS_holder p12) (r10).toNatClampNeg x1)) (upd (HS_held p12) (r10).toNatClampNeg x2))) H := hP
        replace hD : va_D A (WX1 a b cI cJ cZ (HS_held_s (HS_holder_s p12 (upd (HS_holder p12) (r10).toNatClampNeg x1)) (upd (HS_held p12) (r10).toNatClampNeg x2))) := hD
        refine lv_aload_n hx hb dX1_tell_69 rfl (lv_at hl 2 rfl) ?_
        refine va_get (D := (dC, dI)) (ci := 1) (v := .ref (a 5)) (C := RX1) (T := TX1) (N := 11) hx hb hts kX1_tell_X1 hown hK hP 0 rfl rfl 3 (by decide) (hts _ mX1_tell_4) (fun _ h9 => h9) rfl dX1_tell_70 ?_
        refine lv_iload hx hb dX1_tell_73 (lv_at hl 0 rfl) ?_
        refine lv_iload hx hb dX1_tell_75 (lv_at hl 6 rfl) ?_
        obtain ⟨hi16, hf⟩ := it_s hf
        refine va_iast hx hb hK hP hD hS 4 0 rfl rfl (inb_in hi16) dX1_tell_77 (fun H locs hP hD hS => ?_)
        replace hP : va_P (dC, dI) vwCl (WX1 a b cI cJ cZ (HS_day_s (HS_held_s (HS_holder_s p12 (upd (HS_holder p12) (r10).toNatClampNeg x1)) (upd (HS_held p12) (r10).toNatClampNeg x2)) (upd (HS_day p12) (r10).toNatClampNeg x4))) H := hP
        replace hD : va_D A (WX1 a b cI cJ cZ (HS_day_s (HS_held_s (HS_holder_s p12 (upd (HS_holder p12) (r10).toNatClampNeg x1)) (upd (HS_held p12) (r10).toNatClampNeg x2)) (upd (HS_day p12) (r10).toNatClampNeg x4))) := hD
        exact b78 (HS_day_s (HS_held_s (HS_holder_s p12 (upd (HS_holder p12) (r10).toNatClampNeg x1)) (upd (HS_held p12) (r10).toNatClampNeg x2)) (upd (HS_day p12) (r10).toNatClampNeg x4)) x3 r1 r10 hf H locs ls ⟨hP, hD, hS⟩ (lv_sub hl [2, 5, 1, 0] rfl)
      · replace hf := it_n c9 hf
        refine lv_bipush (v := (-4 : Int32)) hx hb dX1_tell_36 (by decide) ?_
        obtain rfl := Option.some.inj hf
        rw [hQ]
        exact W.iret hx hb hr (fun t ht hW => ⟨rfl, ⟨by rw [ht]; exact hP, hD⟩, hS.F ht⟩) hS.2.2 dX1_tell_38
  exact main s.heap [] ls ⟨hP, hD, va_S.rf⟩ hl
def rX1_gatherTies : Room := { frames := 1, cells := 0, slots := 0, locals := 23 }
theorem kX1_gatherTies_X1 : ∀ w ∈ wsX10, w ∈ wsX1_gatherTies := fun w h => (List.mem_cons_of_mem _ (List.mem_append_right _ h))
theorem mX1_gatherTies_1 : Cond.fieldLink RX1 24 "SmokeLedger$Holdings" "tied" "[I" ∈ wsX1_gatherTies := List.mem_of_getElem? (i := 1) rfl
theorem mX1_gatherTies_2 : Cond.fieldLink RX1 44 "SmokeLedger$Holdings" "size" "I" ∈ wsX1_gatherTies := List.mem_of_getElem? (i := 2) rfl
theorem mX1_gatherTies_3 : Cond.fieldLink RX1 18 "SmokeLedger$Holdings" "hundredths" "[I" ∈ wsX1_gatherTies := List.mem_of_getElem? (i := 3) rfl
theorem mX1_gatherTies_4 : Cond.fieldLink RX1 9 "SmokeLedger$Holdings" "holder" "[I" ∈ wsX1_gatherTies := List.mem_of_getElem? (i := 4) rfl
theorem mX1_gatherTies_5 : Cond.fieldLink RX1 15 "SmokeLedger$Holdings" "held" "[I" ∈ wsX1_gatherTies := List.mem_of_getElem? (i := 5) rfl
set_option maxHeartbeats 4000000 in
set_option maxRecDepth 100000 in
theorem ct_X1_gatherTies (l : Launch) (dC : Nat → ClassId) (dI : Nat → Nat → Nat) (a b : Nat → Nat) (cI cJ cZ : ClassId) (sz : Nat) (st : HS) (res : HS) (hf : fX1_gatherTies st = some res) : Met l yX1_gatherTies wsX1_gatherTies rX1_gatherTies (Pm (dC, dI) (tyT cI cJ cZ) (WX1 a b cI cJ cZ st) sz [.ref (a 1)]) (Qm (dC, dI) none (WX1 a b cI cJ cZ res) (va_A (WX1 a b cI cJ cZ st) sz)) 0 0 (va_A (WX1 a b cI cJ cZ st) sz) := by
  refine Met.ofW (cc := cX1_gatherTies) (maxL := 2) (ret := none) (by decide) rfl ?_
  intro p e s m args below meth c s₁ B hml hv
  obtain ⟨hargs, hsz, hP, hK, hD0⟩ := hv
  have hx := B.exec
  have hb := B.bytes
  have hr := B.returns
  have hts := atoms_spec (ws := wsX1_gatherTies) B.pre
  have hown : s.vm.findClass RX1 = some m.cls := findClass_of_methodNamed B.named
  have hlocks := B.notSynchronized
  subst hsz
  have hD := hD0.self (sz := s.heap.size)
  generalize hAe : va_A (WX1 a b cI cJ cZ st) s.heap.size = A at hD ⊢
  have hA : ∀ q : Nat, s.heap.size ≤ q → A q := fun q h => by rw [← hAe]; exact Or.inr h
  have hl := lv_entry ([.ref (a 1)]) (n := 2) (Nat.le_of_ble_eq_true rfl)
  refine W.eq (hargs ▸ lg_entry_eq m [.ref (a 1)] 2) ?_
  generalize (lg_sl ([.ref (a 1)]) ++ List.replicate (2 - (lg_sl ([.ref (a 1)])).length) Slot.unset).toArray = ls at hl ⊢
  have hl : lv_has ls 2 [(0, .ref (a 1))] := hl
  obtain ⟨QQ, hQ⟩ : ∃ QQ : State → Prop, QQ = MQ below (Qm (dC, dI) none (WX1 a b cI cJ cZ res) A) args s 0 0 (A) := ⟨_, rfl⟩
  rw [← hQ]
  have l10 : ∀ (fu : Nat) (s0 : HS × Int32) (r : HS × Int32), loopN (fun (s : HS × Int32) => fX1_gatherTies_l10 s.1 s.2) fu s0 = some r → (∀ (H : Heap) (locs : List Loc) (ls : Array Slot), IN (dC, dI) (WX1 a b cI cJ cZ r.1) A s.heap H locs → lv_has ls 2 [(0, .ref (a 1)), (1, .int r.2)] → W p l e (headSpec wsX1_gatherTies rX1_gatherTies).room s m args below meth c H locs 0 0 QQ (F0 m 55 ls [])) → (∀ (H : Heap) (locs : List Loc) (ls : Array Slot), IN (dC, dI) (WX1 a b cI cJ cZ s0.1) A s.heap H locs → lv_has ls 2 [(0, .ref (a 1)), (1, .int s0.2)] → W p l e (headSpec wsX1_gatherTies rX1_gatherTies).room s m args below meth c H locs 0 0 QQ (F0 m 10 ls [])) := by
    intro fu s0 r
    have b49 : ∀ (st : HS) (x1 : Int32) (x : (HS × Int32) ⊕ (HS × Int32)), fX1_gatherTies_b49 st x1 = some x → (∀ s', x = .inl s' → (∀ (H : Heap) (locs : List Loc) (ls : Array Slot), IN (dC, dI) (WX1 a b cI cJ cZ s'.1) A s.heap H locs → lv_has ls 2 [(0, .ref (a 1)), (1, .int s'.2)] → W p l e (headSpec wsX1_gatherTies rX1_gatherTies).room s m args below meth c H locs 0 0 QQ (F0 m 10 ls []))) → (∀ r, x = .inr r → (∀ (H : Heap) (locs : List Loc) (ls : Array Slot), IN (dC, dI) (WX1 a b cI cJ cZ r.1) A s.heap H locs → lv_has ls 2 [(0, .ref (a 1)), (1, .int r.2)] → W p l e (headSpec wsX1_gatherTies rX1_gatherTies).room s m args below meth c H locs 0 0 QQ (F0 m 55 ls []))) → (∀ (H : Heap) (locs : List Loc) (ls : Array Slot), IN (dC, dI) (WX1 a b cI cJ cZ st) A s.heap H locs → lv_has ls 2 [(0, .ref (a 1)), (1, .int x1)] → W p l e (headSpec wsX1_gatherTies rX1_gatherTies).room s m args below meth c H locs 0 0 QQ (F0 m 49 ls [])) := by
      intro st x1 x hf kc ke
      intro H locs ls hin hl
      obtain ⟨hP, hD, hS⟩ := hin
      unfold fX1_gatherTies_b49 at hf
      refine lv_iinc (v := (x1 + (1 : Int32))) (lv' := [(1, .int (x1 + (1 : Int32))), (0, .ref (a 1))]) hx hb dX1_gatherTies_49 hl (k := 1) rfl rfl (by decide) rfl (fun ls hl => ?_)
      refine lv_goto (tgt := 10) hx hb dX1_gatherTies_52 (by decide) ?_
      obtain rfl := Option.some.inj hf
      exact kc _ rfl H locs ls ⟨hP, hD, hS⟩ (lv_sub hl [1, 0] rfl)
    refine loop_ind (P := fun s0 => ∀ (H : Heap) (locs : List Loc) (ls : Array Slot), IN (dC, dI) (WX1 a b cI cJ cZ s0.1) A s.heap H locs → lv_has ls 2 [(0, .ref (a 1)), (1, .int s0.2)] → W p l e (headSpec wsX1_gatherTies rX1_gatherTies).room s m args below meth c H locs 0 0 QQ (F0 m 10 ls [])) (Q := fun r => ∀ (H : Heap) (locs : List Loc) (ls : Array Slot), IN (dC, dI) (WX1 a b cI cJ cZ r.1) A s.heap H locs → lv_has ls 2 [(0, .ref (a 1)), (1, .int r.2)] → W p l e (headSpec wsX1_gatherTies rX1_gatherTies).room s m args below meth c H locs 0 0 QQ (F0 m 55 ls [])) ?_ fu s0 r
    clear fu s0 r
    rintro ⟨st, x1⟩ x hf kc ke
    replace hf : fX1_gatherTies_l10 st x1 = some x := hf
    replace kc : (∀ s', x = .inl s' → (∀ (H : Heap) (locs : List Loc) (ls : Array Slot), IN (dC, dI) (WX1 a b cI cJ cZ s'.1) A s.heap H locs → lv_has ls 2 [(0, .ref (a 1)), (1, .int s'.2)] → W p l e (headSpec wsX1_gatherTies rX1_gatherTies).room s m args below meth c H locs 0 0 QQ (F0 m 10 ls []))) := kc
    replace ke : (∀ r, x = .inr r → (∀ (H : Heap) (locs : List Loc) (ls : Array Slot), IN (dC, dI) (WX1 a b cI cJ cZ r.1) A s.heap H locs → lv_has ls 2 [(0, .ref (a 1)), (1, .int r.2)] → W p l e (headSpec wsX1_gatherTies rX1_gatherTies).room s m args below meth c H locs 0 0 QQ (F0 m 55 ls []))) := ke
    intro H locs ls hin hl
    obtain ⟨hP, hD, hS⟩ := hin
    unfold fX1_gatherTies_l10 at hf
    refine lv_iload_n hx hb dX1_gatherTies_10 rfl (lv_at hl 1 rfl) ?_
    refine lv_aload_n hx hb dX1_gatherTies_11 rfl (lv_at hl 0 rfl) ?_
    refine va_get (D := (dC, dI)) (ci := 1) (v := .int (HS_size st)) (C := RX1) (T := TX1) (N := 11) hx hb hts kX1_gatherTies_X1 hown hK hP 0 rfl rfl 4 (by decide) (hts _ mX1_gatherTies_2) (fun _ h9 => h9) rfl dX1_gatherTies_12 ?_
    refine lv_icmp_ge (tgt := 55) hx hb dX1_gatherTies_15 (by decide) (fun c3 => ?_) (fun c3 => ?_)
    · replace hf := it_p c3 hf
      obtain rfl := Option.some.inj hf
      exact ke _ rfl H locs ls ⟨hP, hD, hS⟩ (lv_sub hl [0, 1] rfl)
    · replace hf := it_n c3 hf
      refine lv_aload_n hx hb dX1_gatherTies_18 rfl (lv_at hl 0 rfl) ?_
      refine va_get (D := (dC, dI)) (ci := 1) (v := .ref (a 4)) (C := RX1) (T := TX1) (N := 11) hx hb hts kX1_gatherTies_X1 hown hK hP 0 rfl rfl 2 (by decide) (hts _ mX1_gatherTies_3) (fun _ h9 => h9) rfl dX1_gatherTies_19 ?_
      refine lv_iload_n hx hb dX1_gatherTies_22 rfl (lv_at hl 1 rfl) ?_
      obtain ⟨hi4, hf⟩ := it_s hf
      refine va_iald hx hb hK hP 3 0 rfl rfl (inb_in hi4) dX1_gatherTies_23 ?_
      refine lv_if_le (tgt := 49) hx hb dX1_gatherTies_24 (by decide) (fun c5 => ?_) (fun c5 => ?_)
      · replace hf := it_p c5 hf
        exact b49 st x1 _ hf kc ke H locs ls ⟨hP, hD, hS⟩ (lv_sub hl [0, 1] rfl)
      · replace hf := it_n c5 hf
        refine lv_aload_n hx hb dX1_gatherTies_27 rfl (lv_at hl 0 rfl) ?_
        refine va_get (D := (dC, dI)) (ci := 1) (v := .ref (a 6)) (C := RX1) (T := TX1) (N := 11) hx hb hts kX1_gatherTies_X1 hown hK hP 0 rfl rfl 5 (by decide) (hts _ mX1_gatherTies_1) (fun _ h9 => h9) rfl dX1_gatherTies_28 ?_
        refine lv_aload_n hx hb dX1_gatherTies_31 rfl (lv_at hl 0 rfl) ?_
        refine va_get (D := (dC, dI)) (ci := 1) (v := .ref (a 2)) (C := RX1) (T := TX1) (N := 11) hx hb hts kX1_gatherTies_X1 hown hK hP 0 rfl rfl 0 (by decide) (hts _ mX1_gatherTies_4) (fun _ h9 => h9) rfl dX1_gatherTies_32 ?_
        refine lv_iload_n hx hb dX1_gatherTies_35 rfl (lv_at hl 1 rfl) ?_
        obtain ⟨hi6, hf⟩ := it_s hf
        refine va_iald hx hb hK hP 1 0 rfl rfl (inb_in hi6) dX1_gatherTies_36 ?_
        refine lv_dup2_11 hx hb dX1_gatherTies_37 rfl rfl ?_
        obtain ⟨hi7, hf⟩ := it_s hf
        refine va_iald hx hb hK hP 5 0 rfl rfl (inb_in hi7) dX1_gatherTies_38 ?_
        refine lv_iconst (v := (1 : Int32)) hx hb dX1_gatherTies_39 (by decide) ?_
        refine lv_aload_n hx hb dX1_gatherTies_40 rfl (lv_at hl 0 rfl) ?_
        refine va_get (D := (dC, dI)) (ci := 1) (v := .ref (a 3)) (C := RX1) (T := TX1) (N := 11) hx hb hts kX1_gatherTies_X1 hown hK hP 0 rfl rfl 1 (by decide) (hts _ mX1_gatherTies_5) (fun _ h9 => h9) rfl dX1_gatherTies_41 ?_
        refine lv_iload_n hx hb dX1_gatherTies_44 rfl (lv_at hl 1 rfl) ?_
        obtain ⟨hi8, hf⟩ := it_s hf
        refine va_iald hx hb hK hP 2 0 rfl rfl (inb_in hi8) dX1_gatherTies_45 ?_
        refine lv_ishl hx hb dX1_gatherTies_46 ?_
        refine lv_ior hx hb dX1_gatherTies_47 ?_
        obtain ⟨hi9, hf⟩ := it_s hf
        refine va_iast hx hb hK hP hD hS 5 0 rfl rfl (inb_in hi9) dX1_gatherTies_48 (fun H locs hP hD hS => ?_)
        replace hP : va_P (dC, dI) vwCl (WX1 a b cI cJ cZ (HS_tied_s st (upd (HS_tied st) (((HS_holder st) (x1).toNatClampNeg)).toNatClampNeg (((HS_tied st) (((HS_holder st) (x1).toNatClampNeg)).toNatClampNeg) ||| ((1 : Int32) <<< (((HS_held st) (x1).toNatClampNeg) &&& 31)))))) H := hP
        replace hD : va_D A (WX1 a b cI cJ cZ (HS_tied_s st (upd (HS_tied st) (((HS_holder st) (x1).toNatClampNeg)).toNatClampNeg (((HS_tied st) (((HS_holder st) (x1).toNatClampNeg)).toNatClampNeg) ||| ((1 : Int32) <<< (((HS_held st) (x1).toNatClampNeg) &&& 31)))))) := hD
        exact b49 (HS_tied_s st (upd (HS_tied st) (((HS_holder st) (x1).toNatClampNeg)).toNatClampNeg (((HS_tied st) (((HS_holder st) (x1).toNatClampNeg)).toNatClampNeg) ||| ((1 : Int32) <<< (((HS_held st) (x1).toNatClampNeg) &&& 31))))) x1 _ hf kc ke H locs ls ⟨hP, hD, hS⟩ (lv_sub hl [0, 1] rfl)
  have main : ∀ (H : Heap) (locs : List Loc) (ls : Array Slot), IN (dC, dI) (WX1 a b cI cJ cZ st) A s.heap H locs → lv_has ls 2 [(0, .ref (a 1))] → W p l e (headSpec wsX1_gatherTies rX1_gatherTies).room s m args below meth c H locs 0 0 QQ (F0 m 0 ls []) := by
    intro H locs ls hin hl
    obtain ⟨hP, hD, hS⟩ := hin
    unfold fX1_gatherTies at hf
    refine lv_aload_n hx hb dX1_gatherTies_0 rfl (lv_at hl 0 rfl) ?_
    refine va_get (D := (dC, dI)) (ci := 1) (v := .ref (a 6)) (C := RX1) (T := TX1) (N := 11) hx hb hts kX1_gatherTies_X1 hown hK hP 0 rfl rfl 5 (by decide) (hts _ mX1_gatherTies_1) (fun _ h9 => h9) rfl dX1_gatherTies_1 ?_
    refine lv_iconst (v := (0 : Int32)) hx hb dX1_gatherTies_4 (by decide) ?_
    obtain ⟨p1, hc2, hf⟩ := bind_s hf
    refine cmS (wr := lv_pickW (WX1 a b cI cJ cZ st) [0, 1, 2, 3, 4, 6, 7, 8, 9, 10]) ⟨hx, hb, hml, hown, hts⟩ (ct_J7_fill_53178 l dC dI cI cJ cZ H.size (a 6) 10 (HS_tied st) (0 : Int32) p1 hc2) (va_cwS 2 hts gX1_gatherTies_J7_fill_53178 rfl rfl rfl (by decide +kernel) ⟨(Nat.le_of_ble_eq_true rfl), (Nat.le_of_ble_eq_true rfl)⟩) hK hP hD hS hA [5] [0, 1, 2, 3, 4, 6, 7, 8, 9, 10] rfl rfl (by decide) rfl (by decide) (by decide) rfl hl.1 rfl (Nat.le_of_ble_eq_true rfl) (Nat.le_of_ble_eq_true rfl) (Nat.le_of_ble_eq_true rfl) dX1_gatherTies_5 (fun H locs hP hD hS => ?_)
    replace hP : va_P (dC, dI) vwCl (WX1 a b cI cJ cZ (HS_tied_s st p1)) H := hP.sub [0, 1, 2, 3, 4, 10, 5, 6, 7, 8, 9] rfl
    replace hD : va_D A (WX1 a b cI cJ cZ (HS_tied_s st p1)) := hD.sub [0, 1, 2, 3, 4, 10, 5, 6, 7, 8, 9] (by decide) rfl
    refine W.eq (g2 := F0 m 8 ls []) rfl ?_
    refine lv_iconst (v := (0 : Int32)) hx hb dX1_gatherTies_8 (by decide) ?_
    refine lv_istore_n (lv' := [(1, .int (0 : Int32)), (0, .ref (a 1))]) hx hb dX1_gatherTies_9 rfl hl (by decide) rfl (fun ls hl => ?_)
    obtain ⟨y10, hlp, hf⟩ := bind_s hf
    refine l10 fuelN ((HS_tied_s st p1), (0 : Int32)) y10 hlp ?_ H locs ls ⟨hP, hD, hS⟩ (lv_sub hl [1, 0] rfl)
    intro H locs ls hin hl
    obtain ⟨hP, hD, hS⟩ := hin
    obtain rfl := Option.some.inj hf
    rw [hQ]
    exact W.vret hx hb hr (fun t ht hW => ⟨rfl, ⟨by rw [ht]; exact hP, hD⟩, hS.F ht⟩) hS.2.2 dX1_gatherTies_55
  exact main s.heap [] ls ⟨hP, hD, va_S.rf⟩ hl
def rX1_tiedToAnyOf : Room := { frames := 0, cells := 0, slots := 0, locals := 0 }
theorem kX1_tiedToAnyOf_X1 : ∀ w ∈ wsX10, w ∈ wsX1_tiedToAnyOf := fun w h => (List.mem_cons_of_mem _ (List.mem_append_right _ h))
theorem mX1_tiedToAnyOf_1 : Cond.fieldLink RX1 24 "SmokeLedger$Holdings" "tied" "[I" ∈ wsX1_tiedToAnyOf := List.mem_of_getElem? (i := 1) rfl
set_option maxHeartbeats 4000000 in
set_option maxRecDepth 100000 in
theorem ct_X1_tiedToAnyOf (l : Launch) (dC : Nat → ClassId) (dI : Nat → Nat → Nat) (a b : Nat → Nat) (cI cJ cZ : ClassId) (st : HS) (x1 : Int32) (res : Int32) (hf : fX1_tiedToAnyOf st x1 = some res) : Met l yX1_tiedToAnyOf wsX1_tiedToAnyOf rX1_tiedToAnyOf (Pp (dC, dI) (tyT cI cJ cZ) (WX1 a b cI cJ cZ st) [.ref (a 1), .int x1]) (Qp (.int res)) 0 0 (fun _ => False) := by
  refine Met.ofW (cc := cX1_tiedToAnyOf) (maxL := 4) (ret := (some .int)) (by decide) rfl ?_
  intro p e s m args below meth c s₁ B hml hv
  obtain ⟨hargs, hP, hK⟩ := hv
  have hx := B.exec
  have hb := B.bytes
  have hr := B.returns
  have hts := atoms_spec (ws := wsX1_tiedToAnyOf) B.pre
  have hown : s.vm.findClass RX1 = some m.cls := findClass_of_methodNamed B.named
  have hlocks := B.notSynchronized
  have hP : va_P (dC, dI) vwCl (WX1 a b cI cJ cZ st) s.heap := hP
  have hl := lv_entry ([.ref (a 1), .int x1]) (n := 4) (Nat.le_of_ble_eq_true rfl)
  refine W.eq (hargs ▸ lg_entry_eq m [.ref (a 1), .int x1] 4) ?_
  generalize (lg_sl ([.ref (a 1), .int x1]) ++ List.replicate (4 - (lg_sl ([.ref (a 1), .int x1])).length) Slot.unset).toArray = ls at hl ⊢
  have hl : lv_has ls 4 [(0, .ref (a 1)), (1, .int x1)] := hl
  obtain ⟨QQ, hQ⟩ : ∃ QQ : State → Prop, QQ = MQ below (Qp (.int res)) args s 0 0 (fun _ => False) := ⟨_, rfl⟩
  rw [← hQ]
  have l4 : ∀ (x1 : Int32) (fu : Nat) (s0 : Int32 × Int32) (r : Int32 × Int32), loopN (fun (s : Int32 × Int32) => fX1_tiedToAnyOf_l4 st x1 s.1 s.2) fu s0 = some r → (∀ (ls : Array Slot), lv_has ls 4 [(0, .ref (a 1)), (1, .int x1), (2, .int r.1), (3, .int r.2)] → W p l e (headSpec wsX1_tiedToAnyOf rX1_tiedToAnyOf).room s m args below meth c s.heap [] 0 0 QQ (F0 m 33 ls [])) → (∀ (ls : Array Slot), lv_has ls 4 [(0, .ref (a 1)), (1, .int x1), (2, .int s0.1), (3, .int s0.2)] → W p l e (headSpec wsX1_tiedToAnyOf rX1_tiedToAnyOf).room s m args below meth c s.heap [] 0 0 QQ (F0 m 4 ls [])) := by
    intro x1 fu s0 r
    have b27 : ∀ (x1 : Int32) (x2 : Int32) (x3 : Int32) (x : (Int32 × Int32) ⊕ (Int32 × Int32)), fX1_tiedToAnyOf_b27 st x1 x2 x3 = some x → (∀ s', x = .inl s' → (∀ (ls : Array Slot), lv_has ls 4 [(0, .ref (a 1)), (1, .int x1), (2, .int s'.1), (3, .int s'.2)] → W p l e (headSpec wsX1_tiedToAnyOf rX1_tiedToAnyOf).room s m args below meth c s.heap [] 0 0 QQ (F0 m 4 ls []))) → (∀ r, x = .inr r → (∀ (ls : Array Slot), lv_has ls 4 [(0, .ref (a 1)), (1, .int x1), (2, .int r.1), (3, .int r.2)] → W p l e (headSpec wsX1_tiedToAnyOf rX1_tiedToAnyOf).room s m args below meth c s.heap [] 0 0 QQ (F0 m 33 ls []))) → (∀ (ls : Array Slot), lv_has ls 4 [(0, .ref (a 1)), (1, .int x1), (2, .int x2), (3, .int x3)] → W p l e (headSpec wsX1_tiedToAnyOf rX1_tiedToAnyOf).room s m args below meth c s.heap [] 0 0 QQ (F0 m 27 ls [])) := by
      intro x1 x2 x3 x hf kc ke
      intro ls hl
      unfold fX1_tiedToAnyOf_b27 at hf
      refine lv_iinc (v := (x3 + (1 : Int32))) (lv' := [(3, .int (x3 + (1 : Int32))), (0, .ref (a 1)), (1, .int x1), (2, .int x2)]) hx hb dX1_tiedToAnyOf_27 hl (k := 3) rfl rfl (by decide) rfl (fun ls hl => ?_)
      refine lv_goto (tgt := 4) hx hb dX1_tiedToAnyOf_30 (by decide) ?_
      obtain rfl := Option.some.inj hf
      exact kc _ rfl ls (lv_sub hl [1, 2, 3, 0] rfl)
    refine loop_ind (P := fun s0 => ∀ (ls : Array Slot), lv_has ls 4 [(0, .ref (a 1)), (1, .int x1), (2, .int s0.1), (3, .int s0.2)] → W p l e (headSpec wsX1_tiedToAnyOf rX1_tiedToAnyOf).room s m args below meth c s.heap [] 0 0 QQ (F0 m 4 ls [])) (Q := fun r => ∀ (ls : Array Slot), lv_has ls 4 [(0, .ref (a 1)), (1, .int x1), (2, .int r.1), (3, .int r.2)] → W p l e (headSpec wsX1_tiedToAnyOf rX1_tiedToAnyOf).room s m args below meth c s.heap [] 0 0 QQ (F0 m 33 ls [])) ?_ fu s0 r
    clear fu s0 r
    rintro ⟨x2, x3⟩ x hf kc ke
    replace hf : fX1_tiedToAnyOf_l4 st x1 x2 x3 = some x := hf
    replace kc : (∀ s', x = .inl s' → (∀ (ls : Array Slot), lv_has ls 4 [(0, .ref (a 1)), (1, .int x1), (2, .int s'.1), (3, .int s'.2)] → W p l e (headSpec wsX1_tiedToAnyOf rX1_tiedToAnyOf).room s m args below meth c s.heap [] 0 0 QQ (F0 m 4 ls []))) := kc
    replace ke : (∀ r, x = .inr r → (∀ (ls : Array Slot), lv_has ls 4 [(0, .ref (a 1)), (1, .int x1), (2, .int r.1), (3, .int r.2)] → W p l e (headSpec wsX1_tiedToAnyOf rX1_tiedToAnyOf).room s m args below meth c s.heap [] 0 0 QQ (F0 m 33 ls []))) := ke
    intro ls hl
    unfold fX1_tiedToAnyOf_l4 at hf
    refine lv_iload_n hx hb dX1_tiedToAnyOf_4 rfl (lv_at hl 3 rfl) ?_
    refine lv_bipush (v := (10 : Int32)) hx hb dX1_tiedToAnyOf_5 (by decide) ?_
    refine lv_icmp_ge (tgt := 33) hx hb dX1_tiedToAnyOf_7 (by decide) (fun c1 => ?_) (fun c1 => ?_)
    · replace hf := it_p c1 hf
      obtain rfl := Option.some.inj hf
      exact ke _ rfl ls (lv_sub hl [0, 1, 2, 3] rfl)
    · replace hf := it_n c1 hf
      refine lv_iload_n hx hb dX1_tiedToAnyOf_10 rfl (lv_at hl 1 rfl) ?_
      refine lv_iconst (v := (1 : Int32)) hx hb dX1_tiedToAnyOf_11 (by decide) ?_
      refine lv_iload_n hx hb dX1_tiedToAnyOf_12 rfl (lv_at hl 3 rfl) ?_
      refine lv_ishl hx hb dX1_tiedToAnyOf_13 ?_
      refine lv_iand hx hb dX1_tiedToAnyOf_14 ?_
      refine lv_if_eq (tgt := 27) hx hb dX1_tiedToAnyOf_15 (by decide) (fun c2 => ?_) (fun c2 => ?_)
      · replace hf := it_p c2 hf
        exact b27 x1 x2 x3 _ hf kc ke ls (lv_sub hl [0, 1, 2, 3] rfl)
      · replace hf := it_n c2 hf
        refine lv_iload_n hx hb dX1_tiedToAnyOf_18 rfl (lv_at hl 2 rfl) ?_
        refine lv_aload_n hx hb dX1_tiedToAnyOf_19 rfl (lv_at hl 0 rfl) ?_
        refine va_get (D := (dC, dI)) (ci := 1) (v := .ref (a 6)) (C := RX1) (T := TX1) (N := 11) hx hb hts kX1_tiedToAnyOf_X1 hown hK hP 0 rfl rfl 5 (by decide) (hts _ mX1_tiedToAnyOf_1) (fun _ h9 => h9) rfl dX1_tiedToAnyOf_20 ?_
        refine lv_iload_n hx hb dX1_tiedToAnyOf_23 rfl (lv_at hl 3 rfl) ?_
        obtain ⟨hi3, hf⟩ := it_s hf
        refine va_iald hx hb hK hP 5 0 rfl rfl (inb_in hi3) dX1_tiedToAnyOf_24 ?_
        refine lv_ior hx hb dX1_tiedToAnyOf_25 ?_
        refine lv_istore_n (lv' := [(2, .int (x2 ||| ((HS_tied st) (x3).toNatClampNeg))), (0, .ref (a 1)), (1, .int x1), (3, .int x3)]) hx hb dX1_tiedToAnyOf_26 rfl hl (by decide) rfl (fun ls hl => ?_)
        exact b27 x1 (x2 ||| ((HS_tied st) (x3).toNatClampNeg)) x3 _ hf kc ke ls (lv_sub hl [1, 2, 0, 3] rfl)
  unfold fX1_tiedToAnyOf at hf
  refine lv_iconst (v := (0 : Int32)) hx hb dX1_tiedToAnyOf_0 (by decide) ?_
  refine lv_istore_n (lv' := [(2, .int (0 : Int32)), (0, .ref (a 1)), (1, .int x1)]) hx hb dX1_tiedToAnyOf_1 rfl hl (by decide) rfl (fun ls hl => ?_)
  refine lv_iconst (v := (0 : Int32)) hx hb dX1_tiedToAnyOf_2 (by decide) ?_
  refine lv_istore_n (lv' := [(3, .int (0 : Int32)), (2, .int (0 : Int32)), (0, .ref (a 1)), (1, .int x1)]) hx hb dX1_tiedToAnyOf_3 rfl hl (by decide) rfl (fun ls hl => ?_)
  obtain ⟨y4, hlp, hf⟩ := bind_s hf
  refine l4 x1 fuelN ((0 : Int32), (0 : Int32)) y4 hlp ?_ ls (lv_sub hl [2, 3, 1, 0] rfl)
  intro ls hl
  refine lv_iload_n hx hb dX1_tiedToAnyOf_33 rfl (lv_at hl 2 rfl) ?_
  obtain rfl := Option.some.inj hf
  rw [hQ]
  exact W.iret hx hb hr (fun t ht hW => ⟨rfl, ht⟩) (fun q hq => absurd hq List.not_mem_nil) dX1_tiedToAnyOf_34
def rX1_isTiedTo : Room := { frames := 1, cells := 0, slots := 0, locals := 23 }
set_option maxHeartbeats 4000000 in
set_option maxRecDepth 100000 in
theorem ct_X1_isTiedTo (l : Launch) (dC : Nat → ClassId) (dI : Nat → Nat → Nat) (a b : Nat → Nat) (cI cJ cZ : ClassId) (st : HS) (x1 : Int32) (x2 : Int32) (res : Int32) (hf : fX1_isTiedTo st x1 x2 = some res) : Met l yX1_isTiedTo wsX1_isTiedTo rX1_isTiedTo (Pp (dC, dI) (tyT cI cJ cZ) (WX1 a b cI cJ cZ st) [.ref (a 1), .int x1, .int x2]) (Qp (.int res)) 0 0 (fun _ => False) := by
  refine Met.ofW (cc := cX1_isTiedTo) (maxL := 5) (ret := (some .boolean)) (by decide) rfl ?_
  intro p e s m args below meth c s₁ B hml hv
  obtain ⟨hargs, hP, hK⟩ := hv
  have hx := B.exec
  have hb := B.bytes
  have hr := B.returns
  have hts := atoms_spec (ws := wsX1_isTiedTo) B.pre
  have hown : s.vm.findClass RX1 = some m.cls := findClass_of_methodNamed B.named
  have hlocks := B.notSynchronized
  have hP : va_P (dC, dI) vwCl (WX1 a b cI cJ cZ st) s.heap := hP
  have hl := lv_entry ([.ref (a 1), .int x1, .int x2]) (n := 5) (Nat.le_of_ble_eq_true rfl)
  refine W.eq (hargs ▸ lg_entry_eq m [.ref (a 1), .int x1, .int x2] 5) ?_
  generalize (lg_sl ([.ref (a 1), .int x1, .int x2]) ++ List.replicate (5 - (lg_sl ([.ref (a 1), .int x1, .int x2])).length) Slot.unset).toArray = ls at hl ⊢
  have hl : lv_has ls 5 [(0, .ref (a 1)), (1, .int x1), (2, .int x2)] := hl
  obtain ⟨QQ, hQ⟩ : ∃ QQ : State → Prop, QQ = MQ below (Qp (.int res)) args s 0 0 (fun _ => False) := ⟨_, rfl⟩
  rw [← hQ]
  have l7 : ∀ (x2 : Int32) (fu : Nat) (s0 : Int32 × Int32) (r : Int32 × Int32), loopN (fun (s : Int32 × Int32) => fX1_isTiedTo_l7 st x2 s.1 s.2) fu s0 = some r → (∀ (ls : Array Slot), lv_has ls 5 [(0, .ref (a 1)), (2, .int x2), (3, .int r.1), (4, .int r.2)] → W p l e (headSpec wsX1_isTiedTo rX1_isTiedTo).room s m args below meth c s.heap [] 0 0 QQ (F0 m 28 ls [])) → (∀ (ls : Array Slot), lv_has ls 5 [(0, .ref (a 1)), (2, .int x2), (3, .int s0.1), (4, .int s0.2)] → W p l e (headSpec wsX1_isTiedTo rX1_isTiedTo).room s m args below meth c s.heap [] 0 0 QQ (F0 m 7 ls [])) := by
    intro x2 fu s0 r
    refine loop_ind (P := fun s0 => ∀ (ls : Array Slot), lv_has ls 5 [(0, .ref (a 1)), (2, .int x2), (3, .int s0.1), (4, .int s0.2)] → W p l e (headSpec wsX1_isTiedTo rX1_isTiedTo).room s m args below meth c s.heap [] 0 0 QQ (F0 m 7 ls [])) (Q := fun r => ∀ (ls : Array Slot), lv_has ls 5 [(0, .ref (a 1)), (2, .int x2), (3, .int r.1), (4, .int r.2)] → W p l e (headSpec wsX1_isTiedTo rX1_isTiedTo).room s m args below meth c s.heap [] 0 0 QQ (F0 m 28 ls [])) ?_ fu s0 r
    clear fu s0 r
    rintro ⟨x3, x4⟩ x hf kc ke
    replace hf : fX1_isTiedTo_l7 st x2 x3 x4 = some x := hf
    replace kc : (∀ s', x = .inl s' → (∀ (ls : Array Slot), lv_has ls 5 [(0, .ref (a 1)), (2, .int x2), (3, .int s'.1), (4, .int s'.2)] → W p l e (headSpec wsX1_isTiedTo rX1_isTiedTo).room s m args below meth c s.heap [] 0 0 QQ (F0 m 7 ls []))) := kc
    replace ke : (∀ r, x = .inr r → (∀ (ls : Array Slot), lv_has ls 5 [(0, .ref (a 1)), (2, .int x2), (3, .int r.1), (4, .int r.2)] → W p l e (headSpec wsX1_isTiedTo rX1_isTiedTo).room s m args below meth c s.heap [] 0 0 QQ (F0 m 28 ls []))) := ke
    intro ls hl
    unfold fX1_isTiedTo_l7 at hf
    refine lv_iload hx hb dX1_isTiedTo_7 (lv_at hl 3 rfl) ?_
    refine lv_bipush (v := (10 : Int32)) hx hb dX1_isTiedTo_9 (by decide) ?_
    refine lv_icmp_ge (tgt := 28) hx hb dX1_isTiedTo_11 (by decide) (fun c1 => ?_) (fun c1 => ?_)
    · replace hf := it_p c1 hf
      obtain rfl := Option.some.inj hf
      exact ke _ rfl ls (lv_sub hl [0, 1, 2, 3] rfl)
    · replace hf := it_n c1 hf
      refine lv_iload_n hx hb dX1_isTiedTo_14 rfl (lv_at hl 2 rfl) ?_
      refine lv_aload_n hx hb dX1_isTiedTo_15 rfl (lv_at hl 0 rfl) ?_
      refine lv_iload_n hx hb dX1_isTiedTo_16 rfl (lv_at hl 2 rfl) ?_
      obtain ⟨r2, hc3, hf⟩ := bind_s hf
      refine cpV (v := .int r2) ⟨hx, hb, hml, hown, hts⟩ (ct_X1_tiedToAnyOf l dC dI a b cI cJ cZ st x3 r2 hc3) (cwV 1 hts gX1_isTiedTo_X1_tiedToAnyOf rfl rfl rfl (by decide +kernel) ⟨(Nat.le_of_ble_eq_true rfl), (Nat.le_of_ble_eq_true rfl)⟩) hK hP [0, 1, 2, 3, 4, 5, 6, 7, 8, 9, 10] rfl rfl rfl rfl hl.1 rfl (Nat.le_of_ble_eq_true rfl) (Nat.le_of_ble_eq_true rfl) (Nat.le_of_ble_eq_true rfl) dX1_isTiedTo_17 ?_
      refine lv_ior hx hb dX1_isTiedTo_20 ?_
      refine lv_istore_n (lv' := [(3, .int (x3 ||| r2)), (0, .ref (a 1)), (2, .int x2), (4, .int x4)]) hx hb dX1_isTiedTo_21 rfl hl (by decide) rfl (fun ls hl => ?_)
      refine lv_iinc (v := (x4 + (1 : Int32))) (lv' := [(4, .int (x4 + (1 : Int32))), (3, .int (x3 ||| r2)), (0, .ref (a 1)), (2, .int x2)]) hx hb dX1_isTiedTo_22 hl (k := 3) rfl rfl (by decide) rfl (fun ls hl => ?_)
      refine lv_goto (tgt := 7) hx hb dX1_isTiedTo_25 (by decide) ?_
      obtain rfl := Option.some.inj hf
      exact kc _ rfl ls (lv_sub hl [2, 3, 1, 0] rfl)
  unfold fX1_isTiedTo at hf
  refine lv_iconst (v := (1 : Int32)) hx hb dX1_isTiedTo_0 (by decide) ?_
  refine lv_iload_n hx hb dX1_isTiedTo_1 rfl (lv_at hl 1 rfl) ?_
  refine lv_ishl hx hb dX1_isTiedTo_2 ?_
  refine lv_istore_n (lv' := [(3, .int ((1 : Int32) <<< (x1 &&& 31))), (0, .ref (a 1)), (1, .int x1), (2, .int x2)]) hx hb dX1_isTiedTo_3 rfl hl (by decide) rfl (fun ls hl => ?_)
  refine lv_iconst (v := (1 : Int32)) hx hb dX1_isTiedTo_4 (by decide) ?_
  refine lv_istore (lv' := [(4, .int (1 : Int32)), (3, .int ((1 : Int32) <<< (x1 &&& 31))), (0, .ref (a 1)), (1, .int x1), (2, .int x2)]) hx hb dX1_isTiedTo_5 hl (by decide) rfl (fun ls hl => ?_)
  obtain ⟨y4, hlp, hf⟩ := bind_s hf
  refine l7 x2 fuelN (((1 : Int32) <<< (x1 &&& 31)), (1 : Int32)) y4 hlp ?_ ls (lv_sub hl [2, 4, 1, 0] rfl)
  intro ls hl
  refine lv_iload_n hx hb dX1_isTiedTo_28 rfl (lv_at hl 2 rfl) ?_
  refine lv_iconst (v := (1 : Int32)) hx hb dX1_isTiedTo_29 (by decide) ?_
  refine lv_iload_n hx hb dX1_isTiedTo_30 rfl (lv_at hl 1 rfl) ?_
  refine lv_ishl hx hb dX1_isTiedTo_31 ?_
  refine lv_iand hx hb dX1_isTiedTo_32 ?_
  refine lv_if_eq (tgt := 40) hx hb dX1_isTiedTo_33 (by decide) (fun c5 => ?_) (fun c5 => ?_)
  · replace hf := it_p c5 hf
    refine lv_iconst (v := (0 : Int32)) hx hb dX1_isTiedTo_40 (by decide) ?_
    obtain rfl := Option.some.inj hf
    rw [hQ]
    exact W.zret hx hb hr rfl (fun t ht hW => ⟨rfl, ht⟩) (fun q hq => absurd hq List.not_mem_nil) dX1_isTiedTo_41
  · replace hf := it_n c5 hf
    refine lv_iconst (v := (1 : Int32)) hx hb dX1_isTiedTo_36 (by decide) ?_
    refine lv_goto (tgt := 41) hx hb dX1_isTiedTo_37 (by decide) ?_
    obtain rfl := Option.some.inj hf
    rw [hQ]
    exact W.zret hx hb hr rfl (fun t ht hW => ⟨rfl, ht⟩) (fun q hq => absurd hq List.not_mem_nil) dX1_isTiedTo_41
def rX1_isTooDeep : Room := { frames := 1, cells := 0, slots := 0, locals := 23 }
set_option maxHeartbeats 4000000 in
set_option maxRecDepth 100000 in
theorem ct_X1_isTooDeep (l : Launch) (dC : Nat → ClassId) (dI : Nat → Nat → Nat) (a b : Nat → Nat) (cI cJ cZ : ClassId) (st : HS) (res : Int32) (hf : fX1_isTooDeep st = some res) : Met l yX1_isTooDeep wsX1_isTooDeep rX1_isTooDeep (Pp (dC, dI) (tyT cI cJ cZ) (WX1 a b cI cJ cZ st) [.ref (a 1)]) (Qp (.int res)) 0 0 (fun _ => False) := by
  refine Met.ofW (cc := cX1_isTooDeep) (maxL := 3) (ret := (some .boolean)) (by decide) rfl ?_
  intro p e s m args below meth c s₁ B hml hv
  obtain ⟨hargs, hP, hK⟩ := hv
  have hx := B.exec
  have hb := B.bytes
  have hr := B.returns
  have hts := atoms_spec (ws := wsX1_isTooDeep) B.pre
  have hown : s.vm.findClass RX1 = some m.cls := findClass_of_methodNamed B.named
  have hlocks := B.notSynchronized
  have hP : va_P (dC, dI) vwCl (WX1 a b cI cJ cZ st) s.heap := hP
  have hl := lv_entry ([.ref (a 1)]) (n := 3) (Nat.le_of_ble_eq_true rfl)
  refine W.eq (hargs ▸ lg_entry_eq m [.ref (a 1)] 3) ?_
  generalize (lg_sl ([.ref (a 1)]) ++ List.replicate (3 - (lg_sl ([.ref (a 1)])).length) Slot.unset).toArray = ls at hl ⊢
  have hl : lv_has ls 3 [(0, .ref (a 1))] := hl
  obtain ⟨QQ, hQ⟩ : ∃ QQ : State → Prop, QQ = MQ below (Qp (.int res)) args s 0 0 (fun _ => False) := ⟨_, rfl⟩
  rw [← hQ]
  have l4 : ∀ (fu : Nat) (s0 : Int32 × Int32) (r : Int32 × Int32), loopN (fun (s : Int32 × Int32) => fX1_isTooDeep_l4 st s.1 s.2) fu s0 = some r → (∀ (ls : Array Slot), lv_has ls 3 [(0, .ref (a 1)), (1, .int r.1), (2, .int r.2)] → W p l e (headSpec wsX1_isTooDeep rX1_isTooDeep).room s m args below meth c s.heap [] 0 0 QQ (F0 m 21 ls [])) → (∀ (ls : Array Slot), lv_has ls 3 [(0, .ref (a 1)), (1, .int s0.1), (2, .int s0.2)] → W p l e (headSpec wsX1_isTooDeep rX1_isTooDeep).room s m args below meth c s.heap [] 0 0 QQ (F0 m 4 ls [])) := by
    intro fu s0 r
    refine loop_ind (P := fun s0 => ∀ (ls : Array Slot), lv_has ls 3 [(0, .ref (a 1)), (1, .int s0.1), (2, .int s0.2)] → W p l e (headSpec wsX1_isTooDeep rX1_isTooDeep).room s m args below meth c s.heap [] 0 0 QQ (F0 m 4 ls [])) (Q := fun r => ∀ (ls : Array Slot), lv_has ls 3 [(0, .ref (a 1)), (1, .int r.1), (2, .int r.2)] → W p l e (headSpec wsX1_isTooDeep rX1_isTooDeep).room s m args below meth c s.heap [] 0 0 QQ (F0 m 21 ls [])) ?_ fu s0 r
    clear fu s0 r
    rintro ⟨x1, x2⟩ x hf kc ke
    replace hf : fX1_isTooDeep_l4 st x1 x2 = some x := hf
    replace kc : (∀ s', x = .inl s' → (∀ (ls : Array Slot), lv_has ls 3 [(0, .ref (a 1)), (1, .int s'.1), (2, .int s'.2)] → W p l e (headSpec wsX1_isTooDeep rX1_isTooDeep).room s m args below meth c s.heap [] 0 0 QQ (F0 m 4 ls []))) := kc
    replace ke : (∀ r, x = .inr r → (∀ (ls : Array Slot), lv_has ls 3 [(0, .ref (a 1)), (1, .int r.1), (2, .int r.2)] → W p l e (headSpec wsX1_isTooDeep rX1_isTooDeep).room s m args below meth c s.heap [] 0 0 QQ (F0 m 21 ls []))) := ke
    intro ls hl
    unfold fX1_isTooDeep_l4 at hf
    refine lv_iload_n hx hb dX1_isTooDeep_4 rfl (lv_at hl 2 rfl) ?_
    refine lv_iconst (v := (3 : Int32)) hx hb dX1_isTooDeep_5 (by decide) ?_
    refine lv_icmp_gt (tgt := 21) hx hb dX1_isTooDeep_6 (by decide) (fun c1 => ?_) (fun c1 => ?_)
    · replace hf := it_p c1 hf
      obtain rfl := Option.some.inj hf
      exact ke _ rfl ls (lv_sub hl [0, 1, 2] rfl)
    · replace hf := it_n c1 hf
      refine lv_aload_n hx hb dX1_isTooDeep_9 rfl (lv_at hl 0 rfl) ?_
      refine lv_iload_n hx hb dX1_isTooDeep_10 rfl (lv_at hl 1 rfl) ?_
      obtain ⟨r2, hc3, hf⟩ := bind_s hf
      refine cpV (v := .int r2) ⟨hx, hb, hml, hown, hts⟩ (ct_X1_tiedToAnyOf l dC dI a b cI cJ cZ st x1 r2 hc3) (cwV 1 hts gX1_isTooDeep_X1_tiedToAnyOf rfl rfl rfl (by decide +kernel) ⟨(Nat.le_of_ble_eq_true rfl), (Nat.le_of_ble_eq_true rfl)⟩) hK hP [0, 1, 2, 3, 4, 5, 6, 7, 8, 9, 10] rfl rfl rfl rfl hl.1 rfl (Nat.le_of_ble_eq_true rfl) (Nat.le_of_ble_eq_true rfl) (Nat.le_of_ble_eq_true rfl) dX1_isTooDeep_11 ?_
      refine lv_istore_n (lv' := [(1, .int r2), (0, .ref (a 1)), (2, .int x2)]) hx hb dX1_isTooDeep_14 rfl hl (by decide) rfl (fun ls hl => ?_)
      refine lv_iinc (v := (x2 + (1 : Int32))) (lv' := [(2, .int (x2 + (1 : Int32))), (1, .int r2), (0, .ref (a 1))]) hx hb dX1_isTooDeep_15 hl (k := 2) rfl rfl (by decide) rfl (fun ls hl => ?_)
      refine lv_goto (tgt := 4) hx hb dX1_isTooDeep_18 (by decide) ?_
      obtain rfl := Option.some.inj hf
      exact kc _ rfl ls (lv_sub hl [2, 1, 0] rfl)
  unfold fX1_isTooDeep at hf
  refine lv_iconst (v := (1 : Int32)) hx hb dX1_isTooDeep_0 (by decide) ?_
  refine lv_istore_n (lv' := [(1, .int (1 : Int32)), (0, .ref (a 1))]) hx hb dX1_isTooDeep_1 rfl hl (by decide) rfl (fun ls hl => ?_)
  refine lv_iconst (v := (0 : Int32)) hx hb dX1_isTooDeep_2 (by decide) ?_
  refine lv_istore_n (lv' := [(2, .int (0 : Int32)), (1, .int (1 : Int32)), (0, .ref (a 1))]) hx hb dX1_isTooDeep_3 rfl hl (by decide) rfl (fun ls hl => ?_)
  obtain ⟨y4, hlp, hf⟩ := bind_s hf
  refine l4 fuelN ((1 : Int32), (0 : Int32)) y4 hlp ?_ ls (lv_sub hl [2, 1, 0] rfl)
  intro ls hl
  refine lv_iload_n hx hb dX1_isTooDeep_21 rfl (lv_at hl 1 rfl) ?_
  refine lv_if_eq (tgt := 29) hx hb dX1_isTooDeep_22 (by decide) (fun c5 => ?_) (fun c5 => ?_)
  · replace hf := it_p c5 hf
    refine lv_iconst (v := (0 : Int32)) hx hb dX1_isTooDeep_29 (by decide) ?_
    obtain rfl := Option.some.inj hf
    rw [hQ]
    exact W.zret hx hb hr rfl (fun t ht hW => ⟨rfl, ht⟩) (fun q hq => absurd hq List.not_mem_nil) dX1_isTooDeep_30
  · replace hf := it_n c5 hf
    refine lv_iconst (v := (1 : Int32)) hx hb dX1_isTooDeep_25 (by decide) ?_
    refine lv_goto (tgt := 30) hx hb dX1_isTooDeep_26 (by decide) ?_
    obtain rfl := Option.some.inj hf
    rw [hQ]
    exact W.zret hx hb hr rfl (fun t ht hW => ⟨rfl, ht⟩) (fun q hq => absurd hq List.not_mem_nil) dX1_isTooDeep_30
def rX1_mayTie : Room := { frames := 2, cells := 0, slots := 0, locals := 47 }
theorem kX1_mayTie_X1 : ∀ w ∈ wsX10, w ∈ wsX1_mayTie := fun w h => (List.mem_cons_of_mem _ (List.mem_append_right _ h))
theorem mX1_mayTie_1 : Cond.fieldLink RX1 24 "SmokeLedger$Holdings" "tied" "[I" ∈ wsX1_mayTie := List.mem_of_getElem? (i := 1) rfl
set_option maxHeartbeats 4000000 in
set_option maxRecDepth 100000 in
theorem ct_X1_mayTie (l : Launch) (dC : Nat → ClassId) (dI : Nat → Nat → Nat) (a b : Nat → Nat) (cI cJ cZ : ClassId) (sz : Nat) (st : HS) (x1 : Int32) (x2 : Int32) (res : Int32 × HS) (hf : fX1_mayTie st x1 x2 = some res) : Met l yX1_mayTie wsX1_mayTie rX1_mayTie (Pm (dC, dI) (tyT cI cJ cZ) (WX1 a b cI cJ cZ st) sz [.ref (a 1), .int x1, .int x2]) (Qm (dC, dI) (some (.int res.1)) (WX1 a b cI cJ cZ res.2) (va_A (WX1 a b cI cJ cZ st) sz)) 0 0 (va_A (WX1 a b cI cJ cZ st) sz) := by
  refine Met.ofW (cc := cX1_mayTie) (maxL := 3) (ret := (some .boolean)) (by decide) rfl ?_
  intro p e s m args below meth c s₁ B hml hv
  obtain ⟨hargs, hsz, hP, hK, hD0⟩ := hv
  have hx := B.exec
  have hb := B.bytes
  have hr := B.returns
  have hts := atoms_spec (ws := wsX1_mayTie) B.pre
  have hown : s.vm.findClass RX1 = some m.cls := findClass_of_methodNamed B.named
  have hlocks := B.notSynchronized
  subst hsz
  have hD := hD0.self (sz := s.heap.size)
  generalize hAe : va_A (WX1 a b cI cJ cZ st) s.heap.size = A at hD ⊢
  have hA : ∀ q : Nat, s.heap.size ≤ q → A q := fun q h => by rw [← hAe]; exact Or.inr h
  have hl := lv_entry ([.ref (a 1), .int x1, .int x2]) (n := 3) (Nat.le_of_ble_eq_true rfl)
  refine W.eq (hargs ▸ lg_entry_eq m [.ref (a 1), .int x1, .int x2] 3) ?_
  generalize (lg_sl ([.ref (a 1), .int x1, .int x2]) ++ List.replicate (3 - (lg_sl ([.ref (a 1), .int x1, .int x2])).length) Slot.unset).toArray = ls at hl ⊢
  have hl : lv_has ls 3 [(0, .ref (a 1)), (1, .int x1), (2, .int x2)] := hl
  obtain ⟨QQ, hQ⟩ : ∃ QQ : State → Prop, QQ = MQ below (Qm (dC, dI) (some (.int res.1)) (WX1 a b cI cJ cZ res.2) A) args s 0 0 (A) := ⟨_, rfl⟩
  rw [← hQ]
  have main : ∀ (H : Heap) (locs : List Loc) (ls : Array Slot), IN (dC, dI) (WX1 a b cI cJ cZ st) A s.heap H locs → lv_has ls 3 [(0, .ref (a 1)), (1, .int x1), (2, .int x2)] → W p l e (headSpec wsX1_mayTie rX1_mayTie).room s m args below meth c H locs 0 0 QQ (F0 m 0 ls []) := by
    intro H locs ls hin hl
    obtain ⟨hP, hD, hS⟩ := hin
    unfold fX1_mayTie at hf
    refine lv_aload_n hx hb dX1_mayTie_0 rfl (lv_at hl 0 rfl) ?_
    obtain ⟨p1, hc2, hf⟩ := bind_s hf
    refine cmV (wr := []) ⟨hx, hb, hml, hown, hts⟩ (ct_X1_gatherTies l dC dI a b cI cJ cZ H.size st  p1 hc2) (cwV 0 hts gX1_mayTie_X1_gatherTies rfl rfl rfl (by decide +kernel) ⟨(Nat.le_of_ble_eq_true rfl), (Nat.le_of_ble_eq_true rfl)⟩) hK hP hD hS hA [0, 1, 2, 3, 4, 5, 6, 7, 8, 9, 10] [] rfl rfl (by decide) rfl (by decide) (by decide) rfl rfl rfl hl.1 rfl (Nat.le_of_ble_eq_true rfl) (Nat.le_of_ble_eq_true rfl) (Nat.le_of_ble_eq_true rfl) dX1_mayTie_1 (fun H locs hP hD hS => ?_)
    replace hP : va_P (dC, dI) vwCl (WX1 a b cI cJ cZ p1) H := hP
    replace hD : va_D A (WX1 a b cI cJ cZ p1) := hD
    refine W.eq (g2 := F0 m 4 ls []) rfl ?_
    refine lv_aload_n hx hb dX1_mayTie_4 rfl (lv_at hl 0 rfl) ?_
    refine va_get (D := (dC, dI)) (ci := 1) (v := .ref (a 6)) (C := RX1) (T := TX1) (N := 11) hx hb hts kX1_mayTie_X1 hown hK hP 0 rfl rfl 5 (by decide) (hts _ mX1_mayTie_1) (fun _ h9 => h9) rfl dX1_mayTie_5 ?_
    refine lv_iload_n hx hb dX1_mayTie_8 rfl (lv_at hl 1 rfl) ?_
    refine lv_dup2_11 hx hb dX1_mayTie_9 rfl rfl ?_
    obtain ⟨hi3, hf⟩ := it_s hf
    refine va_iald hx hb hK hP 5 0 rfl rfl (inb_in hi3) dX1_mayTie_10 ?_
    refine lv_iconst (v := (1 : Int32)) hx hb dX1_mayTie_11 (by decide) ?_
    refine lv_iload_n hx hb dX1_mayTie_12 rfl (lv_at hl 2 rfl) ?_
    refine lv_ishl hx hb dX1_mayTie_13 ?_
    refine lv_ior hx hb dX1_mayTie_14 ?_
    obtain ⟨hi4, hf⟩ := it_s hf
    refine va_iast hx hb hK hP hD hS 5 0 rfl rfl (inb_in hi4) dX1_mayTie_15 (fun H locs hP hD hS => ?_)
    replace hP : va_P (dC, dI) vwCl (WX1 a b cI cJ cZ (HS_tied_s p1 (upd (HS_tied p1) (x1).toNatClampNeg (((HS_tied p1) (x1).toNatClampNeg) ||| ((1 : Int32) <<< (x2 &&& 31)))))) H := hP
    replace hD : va_D A (WX1 a b cI cJ cZ (HS_tied_s p1 (upd (HS_tied p1) (x1).toNatClampNeg (((HS_tied p1) (x1).toNatClampNeg) ||| ((1 : Int32) <<< (x2 &&& 31)))))) := hD
    refine lv_aload_n hx hb dX1_mayTie_16 rfl (lv_at hl 0 rfl) ?_
    refine lv_iload_n hx hb dX1_mayTie_17 rfl (lv_at hl 2 rfl) ?_
    refine lv_iload_n hx hb dX1_mayTie_18 rfl (lv_at hl 1 rfl) ?_
    obtain ⟨r5, hc6, hf⟩ := bind_s hf
    refine cpV (v := .int r5) ⟨hx, hb, hml, hown, hts⟩ (ct_X1_isTiedTo l dC dI a b cI cJ cZ (HS_tied_s p1 (upd (HS_tied p1) (x1).toNatClampNeg (((HS_tied p1) (x1).toNatClampNeg) ||| ((1 : Int32) <<< (x2 &&& 31))))) x2 x1 r5 hc6) (cwV 2 hts gX1_mayTie_X1_isTiedTo rfl rfl rfl (by decide +kernel) ⟨(Nat.le_of_ble_eq_true rfl), (Nat.le_of_ble_eq_true rfl)⟩) hK hP [0, 1, 2, 3, 4, 5, 6, 7, 8, 9, 10] rfl rfl rfl rfl hl.1 rfl (Nat.le_of_ble_eq_true rfl) (Nat.le_of_ble_eq_true rfl) (Nat.le_of_ble_eq_true rfl) dX1_mayTie_19 ?_
    refine lv_if_ne (tgt := 36) hx hb dX1_mayTie_22 (by decide) (fun c7 => ?_) (fun c7 => ?_)
    · replace hf := it_n c7 hf
      refine lv_iconst (v := (0 : Int32)) hx hb dX1_mayTie_36 (by decide) ?_
      obtain rfl := Option.some.inj hf
      rw [hQ]
      exact W.zret hx hb hr rfl (fun t ht hW => ⟨rfl, ⟨by rw [ht]; exact hP, hD⟩, hS.F ht⟩) hS.2.2 dX1_mayTie_37
    · replace hf := it_p c7 hf
      refine lv_aload_n hx hb dX1_mayTie_25 rfl (lv_at hl 0 rfl) ?_
      obtain ⟨r8, hc9, hf⟩ := bind_s hf
      refine cpV (v := .int r8) ⟨hx, hb, hml, hown, hts⟩ (ct_X1_isTooDeep l dC dI a b cI cJ cZ (HS_tied_s p1 (upd (HS_tied p1) (x1).toNatClampNeg (((HS_tied p1) (x1).toNatClampNeg) ||| ((1 : Int32) <<< (x2 &&& 31)))))  r8 hc9) (cwV 0 hts gX1_mayTie_X1_isTooDeep rfl rfl rfl (by decide +kernel) ⟨(Nat.le_of_ble_eq_true rfl), (Nat.le_of_ble_eq_true rfl)⟩) hK hP [0, 1, 2, 3, 4, 5, 6, 7, 8, 9, 10] rfl rfl rfl rfl hl.1 rfl (Nat.le_of_ble_eq_true rfl) (Nat.le_of_ble_eq_true rfl) (Nat.le_of_ble_eq_true rfl) dX1_mayTie_26 ?_
      refine lv_if_ne (tgt := 36) hx hb dX1_mayTie_29 (by decide) (fun c10 => ?_) (fun c10 => ?_)
      · replace hf := it_n c10 hf
        refine lv_iconst (v := (0 : Int32)) hx hb dX1_mayTie_36 (by decide) ?_
        obtain rfl := Option.some.inj hf
        rw [hQ]
        exact W.zret hx hb hr rfl (fun t ht hW => ⟨rfl, ⟨by rw [ht]; exact hP, hD⟩, hS.F ht⟩) hS.2.2 dX1_mayTie_37
      · replace hf := it_p c10 hf
        refine lv_iconst (v := (1 : Int32)) hx hb dX1_mayTie_32 (by decide) ?_
        refine lv_goto (tgt := 37) hx hb dX1_mayTie_33 (by decide) ?_
        obtain rfl := Option.some.inj hf
        rw [hQ]
        exact W.zret hx hb hr rfl (fun t ht hW => ⟨rfl, ⟨by rw [ht]; exact hP, hD⟩, hS.F ht⟩) hS.2.2 dX1_mayTie_37
  exact main s.heap [] ls ⟨hP, hD, va_S.rf⟩ hl
def rX1_lookOneStepAhead : Room := { frames := 0, cells := 0, slots := 0, locals := 0 }
theorem kX1_lookOneStepAhead_X1 : ∀ w ∈ wsX10, w ∈ wsX1_lookOneStepAhead := fun w h => (List.mem_cons_of_mem _ (List.mem_append_right _ h))
theorem mX1_lookOneStepAhead_1 : Cond.fieldLink RX1 38 "SmokeLedger$Holdings" "reached" "[J" ∈ wsX1_lookOneStepAhead := List.mem_of_getElem? (i := 1) rfl
theorem mX1_lookOneStepAhead_2 : Cond.fieldLink RX1 35 "SmokeLedger$Holdings" "matrix" "[I" ∈ wsX1_lookOneStepAhead := List.mem_of_getElem? (i := 2) rfl
theorem mX1_lookOneStepAhead_3 : Cond.fieldLink RX1 41 "SmokeLedger$Holdings" "reachedNext" "[J" ∈ wsX1_lookOneStepAhead := List.mem_of_getElem? (i := 3) rfl
theorem mX1_lookOneStepAhead_4 : Cond.constantLong RX1 113 (100) ∈ wsX1_lookOneStepAhead := List.mem_of_getElem? (i := 4) rfl
set_option maxHeartbeats 4000000 in
set_option maxRecDepth 100000 in
theorem ct_X1_lookOneStepAhead (l : Launch) (dC : Nat → ClassId) (dI : Nat → Nat → Nat) (a b : Nat → Nat) (cI cJ cZ : ClassId) (sz : Nat) (st : HS) (res : HS) (hf : fX1_lookOneStepAhead st = some res) : Met l yX1_lookOneStepAhead wsX1_lookOneStepAhead rX1_lookOneStepAhead (Pm (dC, dI) (tyT cI cJ cZ) (WX1 a b cI cJ cZ st) sz [.ref (a 1)]) (Qm (dC, dI) none (WX1 a b cI cJ cZ res) (va_A (WX1 a b cI cJ cZ st) sz)) 0 0 (va_A (WX1 a b cI cJ cZ st) sz) := by
  refine Met.ofW (cc := cX1_lookOneStepAhead) (maxL := 5) (ret := none) (by decide) rfl ?_
  intro p e s m args below meth c s₁ B hml hv
  obtain ⟨hargs, hsz, hP, hK, hD0⟩ := hv
  have hx := B.exec
  have hb := B.bytes
  have hr := B.returns
  have hts := atoms_spec (ws := wsX1_lookOneStepAhead) B.pre
  have hown : s.vm.findClass RX1 = some m.cls := findClass_of_methodNamed B.named
  have hlocks := B.notSynchronized
  subst hsz
  have hD := hD0.self (sz := s.heap.size)
  generalize hAe : va_A (WX1 a b cI cJ cZ st) s.heap.size = A at hD ⊢
  have hA : ∀ q : Nat, s.heap.size ≤ q → A q := fun q h => by rw [← hAe]; exact Or.inr h
  have hl := lv_entry ([.ref (a 1)]) (n := 5) (Nat.le_of_ble_eq_true rfl)
  refine W.eq (hargs ▸ lg_entry_eq m [.ref (a 1)] 5) ?_
  generalize (lg_sl ([.ref (a 1)]) ++ List.replicate (5 - (lg_sl ([.ref (a 1)])).length) Slot.unset).toArray = ls at hl ⊢
  have hl : lv_has ls 5 [(0, .ref (a 1))] := hl
  obtain ⟨QQ, hQ⟩ : ∃ QQ : State → Prop, QQ = MQ below (Qm (dC, dI) none (WX1 a b cI cJ cZ res) A) args s 0 0 (A) := ⟨_, rfl⟩
  rw [← hQ]
  have l2 : ∀ (fu : Nat) (s0 : HS × Int32) (r : HS × Int32), loopN (fun (s : HS × Int32) => fX1_lookOneStepAhead_l2 s.1 s.2) fu s0 = some r → (∀ (H : Heap) (locs : List Loc) (ls : Array Slot), IN (dC, dI) (WX1 a b cI cJ cZ r.1) A s.heap H locs → lv_has ls 5 [(0, .ref (a 1)), (1, .int r.2)] → W p l e (headSpec wsX1_lookOneStepAhead rX1_lookOneStepAhead).room s m args below meth c H locs 0 0 QQ (F0 m 67 ls [])) → (∀ (H : Heap) (locs : List Loc) (ls : Array Slot), IN (dC, dI) (WX1 a b cI cJ cZ s0.1) A s.heap H locs → lv_has ls 5 [(0, .ref (a 1)), (1, .int s0.2)] → W p l e (headSpec wsX1_lookOneStepAhead rX1_lookOneStepAhead).room s m args below meth c H locs 0 0 QQ (F0 m 2 ls [])) := by
    intro fu s0 r
    have l13 : ∀ (st : HS) (x1 : Int32) (fu : Nat) (s0 : Int64 × Int32) (r : Int64 × Int32), loopN (fun (s : Int64 × Int32) => fX1_lookOneStepAhead_l13 st x1 s.1 s.2) fu s0 = some r → (∀ (H : Heap) (locs : List Loc) (ls : Array Slot), IN (dC, dI) (WX1 a b cI cJ cZ st) A s.heap H locs → lv_has ls 5 [(0, .ref (a 1)), (1, .int x1), (2, .long r.1), (4, .int r.2)] → W p l e (headSpec wsX1_lookOneStepAhead rX1_lookOneStepAhead).room s m args below meth c H locs 0 0 QQ (F0 m 50 ls [])) → (∀ (H : Heap) (locs : List Loc) (ls : Array Slot), IN (dC, dI) (WX1 a b cI cJ cZ st) A s.heap H locs → lv_has ls 5 [(0, .ref (a 1)), (1, .int x1), (2, .long s0.1), (4, .int s0.2)] → W p l e (headSpec wsX1_lookOneStepAhead rX1_lookOneStepAhead).room s m args below meth c H locs 0 0 QQ (F0 m 13 ls [])) := by
      intro st x1 fu s0 r
      refine loop_ind (P := fun s0 => ∀ (H : Heap) (locs : List Loc) (ls : Array Slot), IN (dC, dI) (WX1 a b cI cJ cZ st) A s.heap H locs → lv_has ls 5 [(0, .ref (a 1)), (1, .int x1), (2, .long s0.1), (4, .int s0.2)] → W p l e (headSpec wsX1_lookOneStepAhead rX1_lookOneStepAhead).room s m args below meth c H locs 0 0 QQ (F0 m 13 ls [])) (Q := fun r => ∀ (H : Heap) (locs : List Loc) (ls : Array Slot), IN (dC, dI) (WX1 a b cI cJ cZ st) A s.heap H locs → lv_has ls 5 [(0, .ref (a 1)), (1, .int x1), (2, .long r.1), (4, .int r.2)] → W p l e (headSpec wsX1_lookOneStepAhead rX1_lookOneStepAhead).room s m args below meth c H locs 0 0 QQ (F0 m 50 ls [])) ?_ fu s0 r
      clear fu s0 r
      rintro ⟨x2, x4⟩ x hf kc ke
      replace hf : fX1_lookOneStepAhead_l13 st x1 x2 x4 = some x := hf
      replace kc : (∀ s', x = .inl s' → (∀ (H : Heap) (locs : List Loc) (ls : Array Slot), IN (dC, dI) (WX1 a b cI cJ cZ st) A s.heap H locs → lv_has ls 5 [(0, .ref (a 1)), (1, .int x1), (2, .long s'.1), (4, .int s'.2)] → W p l e (headSpec wsX1_lookOneStepAhead rX1_lookOneStepAhead).room s m args below meth c H locs 0 0 QQ (F0 m 13 ls []))) := kc
      replace ke : (∀ r, x = .inr r → (∀ (H : Heap) (locs : List Loc) (ls : Array Slot), IN (dC, dI) (WX1 a b cI cJ cZ st) A s.heap H locs → lv_has ls 5 [(0, .ref (a 1)), (1, .int x1), (2, .long r.1), (4, .int r.2)] → W p l e (headSpec wsX1_lookOneStepAhead rX1_lookOneStepAhead).room s m args below meth c H locs 0 0 QQ (F0 m 50 ls []))) := ke
      intro H locs ls hin hl
      obtain ⟨hP, hD, hS⟩ := hin
      unfold fX1_lookOneStepAhead_l13 at hf
      refine lv_iload hx hb dX1_lookOneStepAhead_13 (lv_at hl 3 rfl) ?_
      refine lv_bipush (v := (10 : Int32)) hx hb dX1_lookOneStepAhead_15 (by decide) ?_
      refine lv_icmp_ge (tgt := 50) hx hb dX1_lookOneStepAhead_17 (by decide) (fun c2 => ?_) (fun c2 => ?_)
      · replace hf := it_p c2 hf
        obtain rfl := Option.some.inj hf
        exact ke _ rfl H locs ls ⟨hP, hD, hS⟩ (lv_sub hl [0, 1, 2, 3] rfl)
      · replace hf := it_n c2 hf
        refine lv_lload_n hx hb dX1_lookOneStepAhead_20 rfl (lv_at hl 2 rfl) ?_
        refine lv_aload_n hx hb dX1_lookOneStepAhead_21 rfl (lv_at hl 0 rfl) ?_
        refine va_get (D := (dC, dI)) (ci := 1) (v := .ref (a 10)) (C := RX1) (T := TX1) (N := 11) hx hb hts kX1_lookOneStepAhead_X1 hown hK hP 0 rfl rfl 9 (by decide) (hts _ mX1_lookOneStepAhead_1) (fun _ h9 => h9) rfl dX1_lookOneStepAhead_22 ?_
        refine lv_iload hx hb dX1_lookOneStepAhead_25 (lv_at hl 3 rfl) ?_
        obtain ⟨hi3, hf⟩ := it_s hf
        refine va_lald hx hb hK hP 9 1 rfl rfl (inb_in hi3) dX1_lookOneStepAhead_27 ?_
        refine lv_aload_n hx hb dX1_lookOneStepAhead_28 rfl (lv_at hl 0 rfl) ?_
        refine va_get (D := (dC, dI)) (ci := 1) (v := .ref (a 9)) (C := RX1) (T := TX1) (N := 11) hx hb hts kX1_lookOneStepAhead_X1 hown hK hP 0 rfl rfl 8 (by decide) (hts _ mX1_lookOneStepAhead_2) (fun _ h9 => h9) rfl dX1_lookOneStepAhead_29 ?_
        refine lv_iload hx hb dX1_lookOneStepAhead_32 (lv_at hl 3 rfl) ?_
        refine lv_bipush (v := (10 : Int32)) hx hb dX1_lookOneStepAhead_34 (by decide) ?_
        refine lv_imul hx hb dX1_lookOneStepAhead_36 ?_
        refine lv_iload_n hx hb dX1_lookOneStepAhead_37 rfl (lv_at hl 1 rfl) ?_
        refine lv_iadd hx hb dX1_lookOneStepAhead_38 ?_
        obtain ⟨hi4, hf⟩ := it_s hf
        refine va_iald hx hb hK hP 8 0 rfl rfl (inb_in hi4) dX1_lookOneStepAhead_39 ?_
        refine lv_i2l hx hb dX1_lookOneStepAhead_40 rfl ?_
        refine lv_lmul hx hb dX1_lookOneStepAhead_41 ?_
        refine lv_ladd hx hb dX1_lookOneStepAhead_42 ?_
        refine lv_lstore_n (lv' := [(2, .long (x2 + (((HS_reached st) (x4).toNatClampNeg) * (Int32.toInt64 ((HS_matrix st) (((x4 * (10 : Int32)) + x1)).toNatClampNeg))))), (0, .ref (a 1)), (1, .int x1), (4, .int x4)]) hx hb dX1_lookOneStepAhead_43 rfl hl (by decide) rfl (fun ls hl => ?_)
        refine lv_iinc (v := (x4 + (1 : Int32))) (lv' := [(4, .int (x4 + (1 : Int32))), (2, .long (x2 + (((HS_reached st) (x4).toNatClampNeg) * (Int32.toInt64 ((HS_matrix st) (((x4 * (10 : Int32)) + x1)).toNatClampNeg))))), (0, .ref (a 1)), (1, .int x1)]) hx hb dX1_lookOneStepAhead_44 hl (k := 3) rfl rfl (by decide) rfl (fun ls hl => ?_)
        refine lv_goto (tgt := 13) hx hb dX1_lookOneStepAhead_47 (by decide) ?_
        obtain rfl := Option.some.inj hf
        exact kc _ rfl H locs ls ⟨hP, hD, hS⟩ (lv_sub hl [2, 3, 1, 0] rfl)
    refine loop_ind (P := fun s0 => ∀ (H : Heap) (locs : List Loc) (ls : Array Slot), IN (dC, dI) (WX1 a b cI cJ cZ s0.1) A s.heap H locs → lv_has ls 5 [(0, .ref (a 1)), (1, .int s0.2)] → W p l e (headSpec wsX1_lookOneStepAhead rX1_lookOneStepAhead).room s m args below meth c H locs 0 0 QQ (F0 m 2 ls [])) (Q := fun r => ∀ (H : Heap) (locs : List Loc) (ls : Array Slot), IN (dC, dI) (WX1 a b cI cJ cZ r.1) A s.heap H locs → lv_has ls 5 [(0, .ref (a 1)), (1, .int r.2)] → W p l e (headSpec wsX1_lookOneStepAhead rX1_lookOneStepAhead).room s m args below meth c H locs 0 0 QQ (F0 m 67 ls [])) ?_ fu s0 r
    clear fu s0 r
    rintro ⟨st, x1⟩ x hf kc ke
    replace hf : fX1_lookOneStepAhead_l2 st x1 = some x := hf
    replace kc : (∀ s', x = .inl s' → (∀ (H : Heap) (locs : List Loc) (ls : Array Slot), IN (dC, dI) (WX1 a b cI cJ cZ s'.1) A s.heap H locs → lv_has ls 5 [(0, .ref (a 1)), (1, .int s'.2)] → W p l e (headSpec wsX1_lookOneStepAhead rX1_lookOneStepAhead).room s m args below meth c H locs 0 0 QQ (F0 m 2 ls []))) := kc
    replace ke : (∀ r, x = .inr r → (∀ (H : Heap) (locs : List Loc) (ls : Array Slot), IN (dC, dI) (WX1 a b cI cJ cZ r.1) A s.heap H locs → lv_has ls 5 [(0, .ref (a 1)), (1, .int r.2)] → W p l e (headSpec wsX1_lookOneStepAhead rX1_lookOneStepAhead).room s m args below meth c H locs 0 0 QQ (F0 m 67 ls []))) := ke
    intro H locs ls hin hl
    obtain ⟨hP, hD, hS⟩ := hin
    unfold fX1_lookOneStepAhead_l2 at hf
    refine lv_iload_n hx hb dX1_lookOneStepAhead_2 rfl (lv_at hl 1 rfl) ?_
    refine lv_bipush (v := (10 : Int32)) hx hb dX1_lookOneStepAhead_3 (by decide) ?_
    refine lv_icmp_ge (tgt := 67) hx hb dX1_lookOneStepAhead_5 (by decide) (fun c1 => ?_) (fun c1 => ?_)
    · replace hf := it_p c1 hf
      obtain rfl := Option.some.inj hf
      exact ke _ rfl H locs ls ⟨hP, hD, hS⟩ (lv_sub hl [0, 1] rfl)
    · replace hf := it_n c1 hf
      refine lv_lconst (v := (0 : Int64)) hx hb dX1_lookOneStepAhead_8 (by decide) ?_
      refine lv_lstore_n (lv' := [(2, .long (0 : Int64)), (0, .ref (a 1)), (1, .int x1)]) hx hb dX1_lookOneStepAhead_9 rfl hl (by decide) rfl (fun ls hl => ?_)
      refine lv_iconst (v := (0 : Int32)) hx hb dX1_lookOneStepAhead_10 (by decide) ?_
      refine lv_istore (lv' := [(4, .int (0 : Int32)), (2, .long (0 : Int64)), (0, .ref (a 1)), (1, .int x1)]) hx hb dX1_lookOneStepAhead_11 hl (by decide) rfl (fun ls hl => ?_)
      obtain ⟨y5, hlp, hf⟩ := bind_s hf
      refine l13 st x1 fuelN ((0 : Int64), (0 : Int32)) y5 hlp ?_ H locs ls ⟨hP, hD, hS⟩ (lv_sub hl [2, 3, 1, 0] rfl)
      intro H locs ls hin hl
      obtain ⟨hP, hD, hS⟩ := hin
      refine lv_aload_n hx hb dX1_lookOneStepAhead_50 rfl (lv_at hl 0 rfl) ?_
      refine va_get (D := (dC, dI)) (ci := 1) (v := .ref (a 11)) (C := RX1) (T := TX1) (N := 11) hx hb hts kX1_lookOneStepAhead_X1 hown hK hP 0 rfl rfl 10 (by decide) (hts _ mX1_lookOneStepAhead_3) (fun _ h9 => h9) rfl dX1_lookOneStepAhead_51 ?_
      refine lv_iload_n hx hb dX1_lookOneStepAhead_54 rfl (lv_at hl 1 rfl) ?_
      refine lv_lload_n hx hb dX1_lookOneStepAhead_55 rfl (lv_at hl 2 rfl) ?_
      refine lv_ldc2 (v := (100 : Int64)) hx hb hown (hts _ mX1_lookOneStepAhead_4) dX1_lookOneStepAhead_56 ?_
      refine lv_ldiv hx hb dX1_lookOneStepAhead_59 (by decide) ?_
      obtain ⟨hi6, hf⟩ := it_s hf
      refine va_last hx hb hK hP hD hS 10 1 rfl rfl (inb_in hi6) dX1_lookOneStepAhead_60 (fun H locs hP hD hS => ?_)
      replace hP : va_P (dC, dI) vwCl (WX1 a b cI cJ cZ (HS_reachedNext_s st (vp_updL (HS_reachedNext st) (x1).toNatClampNeg (y5.1 / (100 : Int64))))) H := hP
      replace hD : va_D A (WX1 a b cI cJ cZ (HS_reachedNext_s st (vp_updL (HS_reachedNext st) (x1).toNatClampNeg (y5.1 / (100 : Int64))))) := hD
      refine lv_iinc (v := (x1 + (1 : Int32))) (lv' := [(1, .int (x1 + (1 : Int32))), (0, .ref (a 1)), (2, .long y5.1), (4, .int y5.2)]) hx hb dX1_lookOneStepAhead_61 hl (k := 1) rfl rfl (by decide) rfl (fun ls hl => ?_)
      refine lv_goto (tgt := 2) hx hb dX1_lookOneStepAhead_64 (by decide) ?_
      obtain rfl := Option.some.inj hf
      exact kc _ rfl H locs ls ⟨hP, hD, hS⟩ (lv_sub hl [1, 0] rfl)
  have main : ∀ (H : Heap) (locs : List Loc) (ls : Array Slot), IN (dC, dI) (WX1 a b cI cJ cZ st) A s.heap H locs → lv_has ls 5 [(0, .ref (a 1))] → W p l e (headSpec wsX1_lookOneStepAhead rX1_lookOneStepAhead).room s m args below meth c H locs 0 0 QQ (F0 m 0 ls []) := by
    intro H locs ls hin hl
    obtain ⟨hP, hD, hS⟩ := hin
    unfold fX1_lookOneStepAhead at hf
    refine lv_iconst (v := (0 : Int32)) hx hb dX1_lookOneStepAhead_0 (by decide) ?_
    refine lv_istore_n (lv' := [(1, .int (0 : Int32)), (0, .ref (a 1))]) hx hb dX1_lookOneStepAhead_1 rfl hl (by decide) rfl (fun ls hl => ?_)
    obtain ⟨y7, hlp, hf⟩ := bind_s hf
    refine l2 fuelN (st, (0 : Int32)) y7 hlp ?_ H locs ls ⟨hP, hD, hS⟩ (lv_sub hl [1, 0] rfl)
    intro H locs ls hin hl
    obtain ⟨hP, hD, hS⟩ := hin
    obtain rfl := Option.some.inj hf
    rw [hQ]
    exact W.vret hx hb hr (fun t ht hW => ⟨rfl, ⟨by rw [ht]; exact hP, hD⟩, hS.F ht⟩) hS.2.2 dX1_lookOneStepAhead_67
  exact main s.heap [] ls ⟨hP, hD, va_S.rf⟩ hl
def rX1_makeSpan : Room := { frames := 1, cells := 0, slots := 0, locals := 40 }
theorem kX1_makeSpan_X1 : ∀ w ∈ wsX10, w ∈ wsX1_makeSpan := fun w h => (List.mem_cons_of_mem _ (List.mem_append_right _ h))
theorem mX1_makeSpan_1 : Cond.fieldLink RX1 35 "SmokeLedger$Holdings" "matrix" "[I" ∈ wsX1_makeSpan := List.mem_of_getElem? (i := 1) rfl
theorem mX1_makeSpan_2 : Cond.fieldLink RX1 9 "SmokeLedger$Holdings" "holder" "[I" ∈ wsX1_makeSpan := List.mem_of_getElem? (i := 2) rfl
theorem mX1_makeSpan_3 : Cond.fieldLink RX1 15 "SmokeLedger$Holdings" "held" "[I" ∈ wsX1_makeSpan := List.mem_of_getElem? (i := 3) rfl
theorem mX1_makeSpan_4 : Cond.fieldLink RX1 18 "SmokeLedger$Holdings" "hundredths" "[I" ∈ wsX1_makeSpan := List.mem_of_getElem? (i := 4) rfl
theorem mX1_makeSpan_5 : Cond.fieldLink RX1 38 "SmokeLedger$Holdings" "reached" "[J" ∈ wsX1_makeSpan := List.mem_of_getElem? (i := 5) rfl
theorem mX1_makeSpan_6 : Cond.constantLong RX1 108 (1000000) ∈ wsX1_makeSpan := List.mem_of_getElem? (i := 6) rfl
theorem mX1_makeSpan_7 : Cond.fieldLink RX1 31 "SmokeLedger$Holdings" "spanShares" "[J" ∈ wsX1_makeSpan := List.mem_of_getElem? (i := 7) rfl
theorem mX1_makeSpan_8 : Cond.methodLink RX1 87 arraycopyName ∈ wsX1_makeSpan := List.mem_of_getElem? (i := 8) rfl
theorem mX1_makeSpan_9 : Cond.native arraycopyName ∈ wsX1_makeSpan := List.mem_of_getElem? (i := 9) rfl
theorem mX1_makeSpan_10 : Cond.static arraycopyName ∈ wsX1_makeSpan := List.mem_of_getElem? (i := 10) rfl
theorem mX1_makeSpan_11 : Cond.initialized "java/lang/System" ∈ wsX1_makeSpan := List.mem_of_getElem? (i := 11) rfl
theorem mX1_makeSpan_12 : Cond.fieldLink RX1 41 "SmokeLedger$Holdings" "reachedNext" "[J" ∈ wsX1_makeSpan := List.mem_of_getElem? (i := 12) rfl
theorem mX1_makeSpan_13 : Cond.fieldLink RX1 27 "SmokeLedger$Holdings" "spanIsMade" "[Z" ∈ wsX1_makeSpan := List.mem_of_getElem? (i := 13) rfl
set_option maxHeartbeats 4000000 in
set_option maxRecDepth 100000 in
theorem ct_X1_makeSpan (l : Launch) (dC : Nat → ClassId) (dI : Nat → Nat → Nat) (a b : Nat → Nat) (cI cJ cZ : ClassId) (sz : Nat) (st : HS) (x1 : Int32) (res : HS) (hf : fX1_makeSpan st x1 = some res) : Met l yX1_makeSpan wsX1_makeSpan rX1_makeSpan (Pm (dC, dI) (tyT cI cJ cZ) (WX1 a b cI cJ cZ st) sz [.ref (a 1), .int x1]) (Qm (dC, dI) none (WX1 a b cI cJ cZ res) (va_A (WX1 a b cI cJ cZ st) sz)) 0 0 (va_A (WX1 a b cI cJ cZ st) sz) := by
  refine Met.ofW (cc := cX1_makeSpan) (maxL := 5) (ret := none) (by decide) rfl ?_
  intro p e s m args below meth c s₁ B hml hv
  obtain ⟨hargs, hsz, hP, hK, hD0⟩ := hv
  have hx := B.exec
  have hb := B.bytes
  have hr := B.returns
  have hts := atoms_spec (ws := wsX1_makeSpan) B.pre
  have hown : s.vm.findClass RX1 = some m.cls := findClass_of_methodNamed B.named
  have hlocks := B.notSynchronized
  subst hsz
  have hD := hD0.self (sz := s.heap.size)
  generalize hAe : va_A (WX1 a b cI cJ cZ st) s.heap.size = A at hD ⊢
  have hA : ∀ q : Nat, s.heap.size ≤ q → A q := fun q h => by rw [← hAe]; exact Or.inr h
  have hl := lv_entry ([.ref (a 1), .int x1]) (n := 5) (Nat.le_of_ble_eq_true rfl)
  refine W.eq (hargs ▸ lg_entry_eq m [.ref (a 1), .int x1] 5) ?_
  generalize (lg_sl ([.ref (a 1), .int x1]) ++ List.replicate (5 - (lg_sl ([.ref (a 1), .int x1])).length) Slot.unset).toArray = ls at hl ⊢
  have hl : lv_has ls 5 [(0, .ref (a 1)), (1, .int x1)] := hl
  obtain ⟨QQ, hQ⟩ : ∃ QQ : State → Prop, QQ = MQ below (Qm (dC, dI) none (WX1 a b cI cJ cZ res) A) args s 0 0 (A) := ⟨_, rfl⟩
  rw [← hQ]
  have l10 : ∀ (x1 : Int32) (fu : Nat) (s0 : HS × Int32) (r : HS × Int32), loopN (fun (s : HS × Int32) => fX1_makeSpan_l10 x1 s.1 s.2) fu s0 = some r → (∀ (H : Heap) (locs : List Loc) (ls : Array Slot), IN (dC, dI) (WX1 a b cI cJ cZ r.1) A s.heap H locs → lv_has ls 5 [(0, .ref (a 1)), (1, .int x1), (2, .int r.2)] → W p l e (headSpec wsX1_makeSpan rX1_makeSpan).room s m args below meth c H locs 0 0 QQ (F0 m 48 ls [])) → (∀ (H : Heap) (locs : List Loc) (ls : Array Slot), IN (dC, dI) (WX1 a b cI cJ cZ s0.1) A s.heap H locs → lv_has ls 5 [(0, .ref (a 1)), (1, .int x1), (2, .int s0.2)] → W p l e (headSpec wsX1_makeSpan rX1_makeSpan).room s m args below meth c H locs 0 0 QQ (F0 m 10 ls [])) := by
    intro x1 fu s0 r
    refine loop_ind (P := fun s0 => ∀ (H : Heap) (locs : List Loc) (ls : Array Slot), IN (dC, dI) (WX1 a b cI cJ cZ s0.1) A s.heap H locs → lv_has ls 5 [(0, .ref (a 1)), (1, .int x1), (2, .int s0.2)] → W p l e (headSpec wsX1_makeSpan rX1_makeSpan).room s m args below meth c H locs 0 0 QQ (F0 m 10 ls [])) (Q := fun r => ∀ (H : Heap) (locs : List Loc) (ls : Array Slot), IN (dC, dI) (WX1 a b cI cJ cZ r.1) A s.heap H locs → lv_has ls 5 [(0, .ref (a 1)), (1, .int x1), (2, .int r.2)] → W p l e (headSpec wsX1_makeSpan rX1_makeSpan).room s m args below meth c H locs 0 0 QQ (F0 m 48 ls [])) ?_ fu s0 r
    clear fu s0 r
    rintro ⟨st, x2⟩ x hf kc ke
    replace hf : fX1_makeSpan_l10 x1 st x2 = some x := hf
    replace kc : (∀ s', x = .inl s' → (∀ (H : Heap) (locs : List Loc) (ls : Array Slot), IN (dC, dI) (WX1 a b cI cJ cZ s'.1) A s.heap H locs → lv_has ls 5 [(0, .ref (a 1)), (1, .int x1), (2, .int s'.2)] → W p l e (headSpec wsX1_makeSpan rX1_makeSpan).room s m args below meth c H locs 0 0 QQ (F0 m 10 ls []))) := kc
    replace ke : (∀ r, x = .inr r → (∀ (H : Heap) (locs : List Loc) (ls : Array Slot), IN (dC, dI) (WX1 a b cI cJ cZ r.1) A s.heap H locs → lv_has ls 5 [(0, .ref (a 1)), (1, .int x1), (2, .int r.2)] → W p l e (headSpec wsX1_makeSpan rX1_makeSpan).room s m args below meth c H locs 0 0 QQ (F0 m 48 ls []))) := ke
    intro H locs ls hin hl
    obtain ⟨hP, hD, hS⟩ := hin
    unfold fX1_makeSpan_l10 at hf
    refine lv_iload_n hx hb dX1_makeSpan_10 rfl (lv_at hl 2 rfl) ?_
    refine lv_iload_n hx hb dX1_makeSpan_11 rfl (lv_at hl 1 rfl) ?_
    refine lv_icmp_ge (tgt := 48) hx hb dX1_makeSpan_12 (by decide) (fun c3 => ?_) (fun c3 => ?_)
    · replace hf := it_p c3 hf
      obtain rfl := Option.some.inj hf
      exact ke _ rfl H locs ls ⟨hP, hD, hS⟩ (lv_sub hl [0, 1, 2] rfl)
    · replace hf := it_n c3 hf
      refine lv_aload_n hx hb dX1_makeSpan_15 rfl (lv_at hl 0 rfl) ?_
      refine va_get (D := (dC, dI)) (ci := 1) (v := .ref (a 9)) (C := RX1) (T := TX1) (N := 11) hx hb hts kX1_makeSpan_X1 hown hK hP 0 rfl rfl 8 (by decide) (hts _ mX1_makeSpan_1) (fun _ h9 => h9) rfl dX1_makeSpan_16 ?_
      refine lv_aload_n hx hb dX1_makeSpan_19 rfl (lv_at hl 0 rfl) ?_
      refine va_get (D := (dC, dI)) (ci := 1) (v := .ref (a 2)) (C := RX1) (T := TX1) (N := 11) hx hb hts kX1_makeSpan_X1 hown hK hP 0 rfl rfl 0 (by decide) (hts _ mX1_makeSpan_2) (fun _ h9 => h9) rfl dX1_makeSpan_20 ?_
      refine lv_iload_n hx hb dX1_makeSpan_23 rfl (lv_at hl 2 rfl) ?_
      obtain ⟨hi4, hf⟩ := it_s hf
      refine va_iald hx hb hK hP 1 0 rfl rfl (inb_in hi4) dX1_makeSpan_24 ?_
      refine lv_bipush (v := (10 : Int32)) hx hb dX1_makeSpan_25 (by decide) ?_
      refine lv_imul hx hb dX1_makeSpan_27 ?_
      refine lv_aload_n hx hb dX1_makeSpan_28 rfl (lv_at hl 0 rfl) ?_
      refine va_get (D := (dC, dI)) (ci := 1) (v := .ref (a 3)) (C := RX1) (T := TX1) (N := 11) hx hb hts kX1_makeSpan_X1 hown hK hP 0 rfl rfl 1 (by decide) (hts _ mX1_makeSpan_3) (fun _ h9 => h9) rfl dX1_makeSpan_29 ?_
      refine lv_iload_n hx hb dX1_makeSpan_32 rfl (lv_at hl 2 rfl) ?_
      obtain ⟨hi5, hf⟩ := it_s hf
      refine va_iald hx hb hK hP 2 0 rfl rfl (inb_in hi5) dX1_makeSpan_33 ?_
      refine lv_iadd hx hb dX1_makeSpan_34 ?_
      refine lv_aload_n hx hb dX1_makeSpan_35 rfl (lv_at hl 0 rfl) ?_
      refine va_get (D := (dC, dI)) (ci := 1) (v := .ref (a 4)) (C := RX1) (T := TX1) (N := 11) hx hb hts kX1_makeSpan_X1 hown hK hP 0 rfl rfl 2 (by decide) (hts _ mX1_makeSpan_4) (fun _ h9 => h9) rfl dX1_makeSpan_36 ?_
      refine lv_iload_n hx hb dX1_makeSpan_39 rfl (lv_at hl 2 rfl) ?_
      obtain ⟨hi6, hf⟩ := it_s hf
      refine va_iald hx hb hK hP 3 0 rfl rfl (inb_in hi6) dX1_makeSpan_40 ?_
      obtain ⟨hi7, hf⟩ := it_s hf
      refine va_iast hx hb hK hP hD hS 8 0 rfl rfl (inb_in hi7) dX1_makeSpan_41 (fun H locs hP hD hS => ?_)
      replace hP : va_P (dC, dI) vwCl (WX1 a b cI cJ cZ (HS_matrix_s st (upd (HS_matrix st) (((((HS_holder st) (x2).toNatClampNeg) * (10 : Int32)) + ((HS_held st) (x2).toNatClampNeg))).toNatClampNeg ((HS_hundredths st) (x2).toNatClampNeg)))) H := hP
      replace hD : va_D A (WX1 a b cI cJ cZ (HS_matrix_s st (upd (HS_matrix st) (((((HS_holder st) (x2).toNatClampNeg) * (10 : Int32)) + ((HS_held st) (x2).toNatClampNeg))).toNatClampNeg ((HS_hundredths st) (x2).toNatClampNeg)))) := hD
      refine lv_iinc (v := (x2 + (1 : Int32))) (lv' := [(2, .int (x2 + (1 : Int32))), (0, .ref (a 1)), (1, .int x1)]) hx hb dX1_makeSpan_42 hl (k := 2) rfl rfl (by decide) rfl (fun ls hl => ?_)
      refine lv_goto (tgt := 10) hx hb dX1_makeSpan_45 (by decide) ?_
      obtain rfl := Option.some.inj hf
      exact kc _ rfl H locs ls ⟨hP, hD, hS⟩ (lv_sub hl [1, 2, 0] rfl)
  have l87 : ∀ (x1 : Int32) (x2 : Int32) (fu : Nat) (s0 : HS × Int32) (r : HS × Int32), loopN (fun (s : HS × Int32) => fX1_makeSpan_l87 x1 x2 s.1 s.2) fu s0 = some r → (∀ (H : Heap) (locs : List Loc) (ls : Array Slot), IN (dC, dI) (WX1 a b cI cJ cZ r.1) A s.heap H locs → lv_has ls 5 [(0, .ref (a 1)), (1, .int x1), (2, .int x2), (3, .int r.2)] → W p l e (headSpec wsX1_makeSpan rX1_makeSpan).room s m args below meth c H locs 0 0 QQ (F0 m 151 ls [])) → (∀ (H : Heap) (locs : List Loc) (ls : Array Slot), IN (dC, dI) (WX1 a b cI cJ cZ s0.1) A s.heap H locs → lv_has ls 5 [(0, .ref (a 1)), (1, .int x1), (2, .int x2), (3, .int s0.2)] → W p l e (headSpec wsX1_makeSpan rX1_makeSpan).room s m args below meth c H locs 0 0 QQ (F0 m 87 ls [])) := by
    intro x1 x2 fu s0 r
    have l99 : ∀ (x1 : Int32) (x2 : Int32) (x3 : Int32) (fu : Nat) (s0 : HS × Int32) (r : HS × Int32), loopN (fun (s : HS × Int32) => fX1_makeSpan_l99 x1 x2 x3 s.1 s.2) fu s0 = some r → (∀ (H : Heap) (locs : List Loc) (ls : Array Slot), IN (dC, dI) (WX1 a b cI cJ cZ r.1) A s.heap H locs → lv_has ls 5 [(0, .ref (a 1)), (1, .int x1), (2, .int x2), (3, .int x3), (4, .int r.2)] → W p l e (headSpec wsX1_makeSpan rX1_makeSpan).room s m args below meth c H locs 0 0 QQ (F0 m 145 ls [])) → (∀ (H : Heap) (locs : List Loc) (ls : Array Slot), IN (dC, dI) (WX1 a b cI cJ cZ s0.1) A s.heap H locs → lv_has ls 5 [(0, .ref (a 1)), (1, .int x1), (2, .int x2), (3, .int x3), (4, .int s0.2)] → W p l e (headSpec wsX1_makeSpan rX1_makeSpan).room s m args below meth c H locs 0 0 QQ (F0 m 99 ls [])) := by
      intro x1 x2 x3 fu s0 r
      refine loop_ind (P := fun s0 => ∀ (H : Heap) (locs : List Loc) (ls : Array Slot), IN (dC, dI) (WX1 a b cI cJ cZ s0.1) A s.heap H locs → lv_has ls 5 [(0, .ref (a 1)), (1, .int x1), (2, .int x2), (3, .int x3), (4, .int s0.2)] → W p l e (headSpec wsX1_makeSpan rX1_makeSpan).room s m args below meth c H locs 0 0 QQ (F0 m 99 ls [])) (Q := fun r => ∀ (H : Heap) (locs : List Loc) (ls : Array Slot), IN (dC, dI) (WX1 a b cI cJ cZ r.1) A s.heap H locs → lv_has ls 5 [(0, .ref (a 1)), (1, .int x1), (2, .int x2), (3, .int x3), (4, .int r.2)] → W p l e (headSpec wsX1_makeSpan rX1_makeSpan).room s m args below meth c H locs 0 0 QQ (F0 m 145 ls [])) ?_ fu s0 r
      clear fu s0 r
      rintro ⟨st, x4⟩ x hf kc ke
      replace hf : fX1_makeSpan_l99 x1 x2 x3 st x4 = some x := hf
      replace kc : (∀ s', x = .inl s' → (∀ (H : Heap) (locs : List Loc) (ls : Array Slot), IN (dC, dI) (WX1 a b cI cJ cZ s'.1) A s.heap H locs → lv_has ls 5 [(0, .ref (a 1)), (1, .int x1), (2, .int x2), (3, .int x3), (4, .int s'.2)] → W p l e (headSpec wsX1_makeSpan rX1_makeSpan).room s m args below meth c H locs 0 0 QQ (F0 m 99 ls []))) := kc
      replace ke : (∀ r, x = .inr r → (∀ (H : Heap) (locs : List Loc) (ls : Array Slot), IN (dC, dI) (WX1 a b cI cJ cZ r.1) A s.heap H locs → lv_has ls 5 [(0, .ref (a 1)), (1, .int x1), (2, .int x2), (3, .int x3), (4, .int r.2)] → W p l e (headSpec wsX1_makeSpan rX1_makeSpan).room s m args below meth c H locs 0 0 QQ (F0 m 145 ls []))) := ke
      intro H locs ls hin hl
      obtain ⟨hP, hD, hS⟩ := hin
      unfold fX1_makeSpan_l99 at hf
      refine lv_iload hx hb dX1_makeSpan_99 (lv_at hl 4 rfl) ?_
      refine lv_bipush (v := (10 : Int32)) hx hb dX1_makeSpan_101 (by decide) ?_
      refine lv_icmp_ge (tgt := 145) hx hb dX1_makeSpan_103 (by decide) (fun c16 => ?_) (fun c16 => ?_)
      · replace hf := it_p c16 hf
        obtain rfl := Option.some.inj hf
        exact ke _ rfl H locs ls ⟨hP, hD, hS⟩ (lv_sub hl [0, 1, 2, 3, 4] rfl)
      · replace hf := it_n c16 hf
        refine lv_aload_n hx hb dX1_makeSpan_106 rfl (lv_at hl 0 rfl) ?_
        refine va_get (D := (dC, dI)) (ci := 1) (v := .ref (a 10)) (C := RX1) (T := TX1) (N := 11) hx hb hts kX1_makeSpan_X1 hown hK hP 0 rfl rfl 9 (by decide) (hts _ mX1_makeSpan_5) (fun _ h9 => h9) rfl dX1_makeSpan_107 ?_
        refine lv_iload hx hb dX1_makeSpan_110 (lv_at hl 4 rfl) ?_
        refine lv_aload_n hx hb dX1_makeSpan_112 rfl (lv_at hl 0 rfl) ?_
        refine va_get (D := (dC, dI)) (ci := 1) (v := .ref (a 11)) (C := RX1) (T := TX1) (N := 11) hx hb hts kX1_makeSpan_X1 hown hK hP 0 rfl rfl 10 (by decide) (hts _ mX1_makeSpan_12) (fun _ h9 => h9) rfl dX1_makeSpan_113 ?_
        refine lv_iload hx hb dX1_makeSpan_116 (lv_at hl 4 rfl) ?_
        obtain ⟨hi17, hf⟩ := it_s hf
        refine va_lald hx hb hK hP 10 1 rfl rfl (inb_in hi17) dX1_makeSpan_118 ?_
        obtain ⟨hi18, hf⟩ := it_s hf
        refine va_last hx hb hK hP hD hS 9 1 rfl rfl (inb_in hi18) dX1_makeSpan_119 (fun H locs hP hD hS => ?_)
        replace hP : va_P (dC, dI) vwCl (WX1 a b cI cJ cZ (HS_reached_s st (vp_updL (HS_reached st) (x4).toNatClampNeg ((HS_reachedNext st) (x4).toNatClampNeg)))) H := hP
        replace hD : va_D A (WX1 a b cI cJ cZ (HS_reached_s st (vp_updL (HS_reached st) (x4).toNatClampNeg ((HS_reachedNext st) (x4).toNatClampNeg)))) := hD
        refine lv_aload_n hx hb dX1_makeSpan_120 rfl (lv_at hl 0 rfl) ?_
        refine va_get (D := (dC, dI)) (ci := 1) (v := .ref (a 8)) (C := RX1) (T := TX1) (N := 11) hx hb hts kX1_makeSpan_X1 hown hK hP 0 rfl rfl 7 (by decide) (hts _ mX1_makeSpan_7) (fun _ h9 => h9) rfl dX1_makeSpan_121 ?_
        refine lv_iload_n hx hb dX1_makeSpan_124 rfl (lv_at hl 2 rfl) ?_
        refine lv_iload hx hb dX1_makeSpan_125 (lv_at hl 4 rfl) ?_
        refine lv_iadd hx hb dX1_makeSpan_127 ?_
        refine lv_dup2_11 hx hb dX1_makeSpan_128 rfl rfl ?_
        obtain ⟨hi19, hf⟩ := it_s hf
        refine va_lald hx hb hK hP 7 1 rfl rfl (inb_in hi19) dX1_makeSpan_129 ?_
        refine lv_aload_n hx hb dX1_makeSpan_130 rfl (lv_at hl 0 rfl) ?_
        refine va_get (D := (dC, dI)) (ci := 1) (v := .ref (a 10)) (C := RX1) (T := TX1) (N := 11) hx hb hts kX1_makeSpan_X1 hown hK hP 0 rfl rfl 9 (by decide) (hts _ mX1_makeSpan_5) (fun _ h9 => h9) rfl dX1_makeSpan_131 ?_
        refine lv_iload hx hb dX1_makeSpan_134 (lv_at hl 4 rfl) ?_
        obtain ⟨hi20, hf⟩ := it_s hf
        refine va_lald hx hb hK hP 9 1 rfl rfl (inb_in hi20) dX1_makeSpan_136 ?_
        refine lv_ladd hx hb dX1_makeSpan_137 ?_
        obtain ⟨hi21, hf⟩ := it_s hf
        refine va_last hx hb hK hP hD hS 7 1 rfl rfl (inb_in hi21) dX1_makeSpan_138 (fun H locs hP hD hS => ?_)
        replace hP : va_P (dC, dI) vwCl (WX1 a b cI cJ cZ (HS_reached_s (HS_spanShares_s st (vp_updL (HS_spanShares st) ((x2 + x4)).toNatClampNeg (((HS_spanShares st) ((x2 + x4)).toNatClampNeg) + ((vp_updL (HS_reached st) (x4).toNatClampNeg ((HS_reachedNext st) (x4).toNatClampNeg)) (x4).toNatClampNeg)))) (vp_updL (HS_reached st) (x4).toNatClampNeg ((HS_reachedNext st) (x4).toNatClampNeg)))) H := hP
        replace hD : va_D A (WX1 a b cI cJ cZ (HS_reached_s (HS_spanShares_s st (vp_updL (HS_spanShares st) ((x2 + x4)).toNatClampNeg (((HS_spanShares st) ((x2 + x4)).toNatClampNeg) + ((vp_updL (HS_reached st) (x4).toNatClampNeg ((HS_reachedNext st) (x4).toNatClampNeg)) (x4).toNatClampNeg)))) (vp_updL (HS_reached st) (x4).toNatClampNeg ((HS_reachedNext st) (x4).toNatClampNeg)))) := hD
        refine lv_iinc (v := (x4 + (1 : Int32))) (lv' := [(4, .int (x4 + (1 : Int32))), (0, .ref (a 1)), (1, .int x1), (2, .int x2), (3, .int x3)]) hx hb dX1_makeSpan_139 hl (k := 4) rfl rfl (by decide) rfl (fun ls hl => ?_)
        refine lv_goto (tgt := 99) hx hb dX1_makeSpan_142 (by decide) ?_
        obtain rfl := Option.some.inj hf
        exact kc _ rfl H locs ls ⟨hP, hD, hS⟩ (lv_sub hl [1, 2, 3, 4, 0] rfl)
    refine loop_ind (P := fun s0 => ∀ (H : Heap) (locs : List Loc) (ls : Array Slot), IN (dC, dI) (WX1 a b cI cJ cZ s0.1) A s.heap H locs → lv_has ls 5 [(0, .ref (a 1)), (1, .int x1), (2, .int x2), (3, .int s0.2)] → W p l e (headSpec wsX1_makeSpan rX1_makeSpan).room s m args below meth c H locs 0 0 QQ (F0 m 87 ls [])) (Q := fun r => ∀ (H : Heap) (locs : List Loc) (ls : Array Slot), IN (dC, dI) (WX1 a b cI cJ cZ r.1) A s.heap H locs → lv_has ls 5 [(0, .ref (a 1)), (1, .int x1), (2, .int x2), (3, .int r.2)] → W p l e (headSpec wsX1_makeSpan rX1_makeSpan).room s m args below meth c H locs 0 0 QQ (F0 m 151 ls [])) ?_ fu s0 r
    clear fu s0 r
    rintro ⟨st, x3⟩ x hf kc ke
    replace hf : fX1_makeSpan_l87 x1 x2 st x3 = some x := hf
    replace kc : (∀ s', x = .inl s' → (∀ (H : Heap) (locs : List Loc) (ls : Array Slot), IN (dC, dI) (WX1 a b cI cJ cZ s'.1) A s.heap H locs → lv_has ls 5 [(0, .ref (a 1)), (1, .int x1), (2, .int x2), (3, .int s'.2)] → W p l e (headSpec wsX1_makeSpan rX1_makeSpan).room s m args below meth c H locs 0 0 QQ (F0 m 87 ls []))) := kc
    replace ke : (∀ r, x = .inr r → (∀ (H : Heap) (locs : List Loc) (ls : Array Slot), IN (dC, dI) (WX1 a b cI cJ cZ r.1) A s.heap H locs → lv_has ls 5 [(0, .ref (a 1)), (1, .int x1), (2, .int x2), (3, .int r.2)] → W p l e (headSpec wsX1_makeSpan rX1_makeSpan).room s m args below meth c H locs 0 0 QQ (F0 m 151 ls []))) := ke
    intro H locs ls hin hl
    obtain ⟨hP, hD, hS⟩ := hin
    unfold fX1_makeSpan_l87 at hf
    refine lv_iload_n hx hb dX1_makeSpan_87 rfl (lv_at hl 3 rfl) ?_
    refine lv_iconst (v := (3 : Int32)) hx hb dX1_makeSpan_88 (by decide) ?_
    refine lv_icmp_ge (tgt := 151) hx hb dX1_makeSpan_89 (by decide) (fun c13 => ?_) (fun c13 => ?_)
    · replace hf := it_p c13 hf
      obtain rfl := Option.some.inj hf
      exact ke _ rfl H locs ls ⟨hP, hD, hS⟩ (lv_sub hl [0, 1, 2, 3] rfl)
    · replace hf := it_n c13 hf
      refine lv_aload_n hx hb dX1_makeSpan_92 rfl (lv_at hl 0 rfl) ?_
      obtain ⟨p14, hc15, hf⟩ := bind_s hf
      refine cmV (wr := []) ⟨hx, hb, hml, hown, hts⟩ (ct_X1_lookOneStepAhead l dC dI a b cI cJ cZ H.size st  p14 hc15) (cwV 0 hts gX1_makeSpan_X1_lookOneStepAhead rfl rfl rfl (by decide +kernel) ⟨(Nat.le_of_ble_eq_true rfl), (Nat.le_of_ble_eq_true rfl)⟩) hK hP hD hS hA [0, 1, 2, 3, 4, 5, 6, 7, 8, 9, 10] [] rfl rfl (by decide) rfl (by decide) (by decide) rfl rfl rfl hl.1 rfl (Nat.le_of_ble_eq_true rfl) (Nat.le_of_ble_eq_true rfl) (Nat.le_of_ble_eq_true rfl) dX1_makeSpan_93 (fun H locs hP hD hS => ?_)
      replace hP : va_P (dC, dI) vwCl (WX1 a b cI cJ cZ p14) H := hP
      replace hD : va_D A (WX1 a b cI cJ cZ p14) := hD
      refine W.eq (g2 := F0 m 96 ls []) rfl ?_
      refine lv_iconst (v := (0 : Int32)) hx hb dX1_makeSpan_96 (by decide) ?_
      refine lv_istore (lv' := [(4, .int (0 : Int32)), (0, .ref (a 1)), (1, .int x1), (2, .int x2), (3, .int x3)]) hx hb dX1_makeSpan_97 hl (by decide) rfl (fun ls hl => ?_)
      obtain ⟨y22, hlp, hf⟩ := bind_s hf
      refine l99 x1 x2 x3 fuelN (p14, (0 : Int32)) y22 hlp ?_ H locs ls ⟨hP, hD, hS⟩ (lv_sub hl [1, 2, 3, 4, 0] rfl)
      intro H locs ls hin hl
      obtain ⟨hP, hD, hS⟩ := hin
      refine lv_iinc (v := (x3 + (1 : Int32))) (lv' := [(3, .int (x3 + (1 : Int32))), (0, .ref (a 1)), (1, .int x1), (2, .int x2), (4, .int y22.2)]) hx hb dX1_makeSpan_145 hl (k := 3) rfl rfl (by decide) rfl (fun ls hl => ?_)
      refine lv_goto (tgt := 87) hx hb dX1_makeSpan_148 (by decide) ?_
      obtain rfl := Option.some.inj hf
      exact kc _ rfl H locs ls ⟨hP, hD, hS⟩ (lv_sub hl [1, 2, 3, 0] rfl)
  have main : ∀ (H : Heap) (locs : List Loc) (ls : Array Slot), IN (dC, dI) (WX1 a b cI cJ cZ st) A s.heap H locs → lv_has ls 5 [(0, .ref (a 1)), (1, .int x1)] → W p l e (headSpec wsX1_makeSpan rX1_makeSpan).room s m args below meth c H locs 0 0 QQ (F0 m 0 ls []) := by
    intro H locs ls hin hl
    obtain ⟨hP, hD, hS⟩ := hin
    unfold fX1_makeSpan at hf
    refine lv_aload_n hx hb dX1_makeSpan_0 rfl (lv_at hl 0 rfl) ?_
    refine va_get (D := (dC, dI)) (ci := 1) (v := .ref (a 9)) (C := RX1) (T := TX1) (N := 11) hx hb hts kX1_makeSpan_X1 hown hK hP 0 rfl rfl 8 (by decide) (hts _ mX1_makeSpan_1) (fun _ h9 => h9) rfl dX1_makeSpan_1 ?_
    refine lv_iconst (v := (0 : Int32)) hx hb dX1_makeSpan_4 (by decide) ?_
    obtain ⟨p1, hc2, hf⟩ := bind_s hf
    refine cmS (wr := lv_pickW (WX1 a b cI cJ cZ st) [0, 1, 2, 3, 4, 5, 6, 7, 9, 10]) ⟨hx, hb, hml, hown, hts⟩ (ct_J7_fill_53178 l dC dI cI cJ cZ H.size (a 9) 100 (HS_matrix st) (0 : Int32) p1 hc2) (va_cwS 2 hts gX1_makeSpan_J7_fill_53178 rfl rfl rfl (by decide +kernel) ⟨(Nat.le_of_ble_eq_true rfl), (Nat.le_of_ble_eq_true rfl)⟩) hK hP hD hS hA [8] [0, 1, 2, 3, 4, 5, 6, 7, 9, 10] rfl rfl (by decide) rfl (by decide) (by decide) rfl hl.1 rfl (Nat.le_of_ble_eq_true rfl) (Nat.le_of_ble_eq_true rfl) (Nat.le_of_ble_eq_true rfl) dX1_makeSpan_5 (fun H locs hP hD hS => ?_)
    replace hP : va_P (dC, dI) vwCl (WX1 a b cI cJ cZ (HS_matrix_s st p1)) H := hP.sub [0, 1, 2, 3, 4, 5, 6, 7, 10, 8, 9] rfl
    replace hD : va_D A (WX1 a b cI cJ cZ (HS_matrix_s st p1)) := hD.sub [0, 1, 2, 3, 4, 5, 6, 7, 10, 8, 9] (by decide) rfl
    refine W.eq (g2 := F0 m 8 ls []) rfl ?_
    refine lv_iconst (v := (0 : Int32)) hx hb dX1_makeSpan_8 (by decide) ?_
    refine lv_istore_n (lv' := [(2, .int (0 : Int32)), (0, .ref (a 1)), (1, .int x1)]) hx hb dX1_makeSpan_9 rfl hl (by decide) rfl (fun ls hl => ?_)
    obtain ⟨y8, hlp, hf⟩ := bind_s hf
    refine l10 x1 fuelN ((HS_matrix_s st p1), (0 : Int32)) y8 hlp ?_ H locs ls ⟨hP, hD, hS⟩ (lv_sub hl [1, 2, 0] rfl)
    intro H locs ls hin hl
    obtain ⟨hP, hD, hS⟩ := hin
    refine lv_aload_n hx hb dX1_makeSpan_48 rfl (lv_at hl 0 rfl) ?_
    refine va_get (D := (dC, dI)) (ci := 1) (v := .ref (a 10)) (C := RX1) (T := TX1) (N := 11) hx hb hts kX1_makeSpan_X1 hown hK hP 0 rfl rfl 9 (by decide) (hts _ mX1_makeSpan_5) (fun _ h9 => h9) rfl dX1_makeSpan_49 ?_
    refine lv_lconst (v := (0 : Int64)) hx hb dX1_makeSpan_52 (by decide) ?_
    obtain ⟨p9, hc10, hf⟩ := bind_s hf
    refine cmS (wr := lv_pickW (WX1 a b cI cJ cZ y8.1) [0, 1, 2, 3, 4, 5, 6, 7, 8, 10]) ⟨hx, hb, hml, hown, hts⟩ (ct_J7_fill_d0a16 l dC dI cI cJ cZ H.size (a 10) 10 (HS_reached y8.1) (0 : Int64) p9 hc10) (va_cwS 2 hts gX1_makeSpan_J7_fill_d0a16 rfl rfl rfl (by decide +kernel) ⟨(Nat.le_of_ble_eq_true rfl), (Nat.le_of_ble_eq_true rfl)⟩) hK hP hD hS hA [9] [0, 1, 2, 3, 4, 5, 6, 7, 8, 10] rfl rfl (by decide) rfl (by decide) (by decide) rfl hl.1 rfl (Nat.le_of_ble_eq_true rfl) (Nat.le_of_ble_eq_true rfl) (Nat.le_of_ble_eq_true rfl) dX1_makeSpan_53 (fun H locs hP hD hS => ?_)
    replace hP : va_P (dC, dI) vwCl (WX1 a b cI cJ cZ (HS_reached_s y8.1 p9)) H := hP.sub [0, 1, 2, 3, 4, 5, 6, 7, 8, 10, 9] rfl
    replace hD : va_D A (WX1 a b cI cJ cZ (HS_reached_s y8.1 p9)) := hD.sub [0, 1, 2, 3, 4, 5, 6, 7, 8, 10, 9] (by decide) rfl
    refine W.eq (g2 := F0 m 56 ls []) rfl ?_
    refine lv_aload_n hx hb dX1_makeSpan_56 rfl (lv_at hl 0 rfl) ?_
    refine va_get (D := (dC, dI)) (ci := 1) (v := .ref (a 10)) (C := RX1) (T := TX1) (N := 11) hx hb hts kX1_makeSpan_X1 hown hK hP 0 rfl rfl 9 (by decide) (hts _ mX1_makeSpan_5) (fun _ h9 => h9) rfl dX1_makeSpan_57 ?_
    refine lv_iconst (v := (0 : Int32)) hx hb dX1_makeSpan_60 (by decide) ?_
    refine lv_ldc2 (v := (1000000 : Int64)) hx hb hown (hts _ mX1_makeSpan_6) dX1_makeSpan_61 ?_
    obtain ⟨hi11, hf⟩ := it_s hf
    refine va_last hx hb hK hP hD hS 9 1 rfl rfl (inb_in hi11) dX1_makeSpan_64 (fun H locs hP hD hS => ?_)
    replace hP : va_P (dC, dI) vwCl (WX1 a b cI cJ cZ (HS_reached_s y8.1 (vp_updL p9 ((0 : Int32)).toNatClampNeg (1000000 : Int64)))) H := hP
    replace hD : va_D A (WX1 a b cI cJ cZ (HS_reached_s y8.1 (vp_updL p9 ((0 : Int32)).toNatClampNeg (1000000 : Int64)))) := hD
    refine lv_iload_n hx hb dX1_makeSpan_65 rfl (lv_at hl 1 rfl) ?_
    refine lv_bipush (v := (10 : Int32)) hx hb dX1_makeSpan_66 (by decide) ?_
    refine lv_imul hx hb dX1_makeSpan_68 ?_
    refine lv_istore_n (lv' := [(2, .int (x1 * (10 : Int32))), (0, .ref (a 1)), (1, .int x1)]) hx hb dX1_makeSpan_69 rfl hl (by decide) rfl (fun ls hl => ?_)
    refine lv_aload_n hx hb dX1_makeSpan_70 rfl (lv_at hl 1 rfl) ?_
    refine va_get (D := (dC, dI)) (ci := 1) (v := .ref (a 10)) (C := RX1) (T := TX1) (N := 11) hx hb hts kX1_makeSpan_X1 hown hK hP 0 rfl rfl 9 (by decide) (hts _ mX1_makeSpan_5) (fun _ h9 => h9) rfl dX1_makeSpan_71 ?_
    refine lv_iconst (v := (0 : Int32)) hx hb dX1_makeSpan_74 (by decide) ?_
    refine lv_aload_n hx hb dX1_makeSpan_75 rfl (lv_at hl 1 rfl) ?_
    refine va_get (D := (dC, dI)) (ci := 1) (v := .ref (a 8)) (C := RX1) (T := TX1) (N := 11) hx hb hts kX1_makeSpan_X1 hown hK hP 0 rfl rfl 7 (by decide) (hts _ mX1_makeSpan_7) (fun _ h9 => h9) rfl dX1_makeSpan_76 ?_
    refine lv_iload_n hx hb dX1_makeSpan_79 rfl (lv_at hl 0 rfl) ?_
    refine lv_bipush (v := (10 : Int32)) hx hb dX1_makeSpan_80 (by decide) ?_
    obtain ⟨ho12, hf⟩ := it_s hf
    obtain ⟨ho121, ho122, ho123, ho124, ho125⟩ := okc_iff.mp ho12
    refine va_copyl hx hb (hml.trans hl.1.symm) hown (hts _ mX1_makeSpan_8) (hts _ mX1_makeSpan_9) (hts _ mX1_makeSpan_10) (hts _ mX1_makeSpan_11) hK hP hD hS 9 7 1 1 rfl rfl rfl rfl rfl ho121 ho122 ho123 ho124 ho125 (fun _ _ => rfl) (Nat.le_of_ble_eq_true rfl) (Nat.le_of_ble_eq_true rfl) dX1_makeSpan_82 (fun H locs hP hD hS => ?_)
    replace hP : va_P (dC, dI) vwCl (WX1 a b cI cJ cZ (HS_reached_s (HS_spanShares_s y8.1 (va_cpy (vp_updL p9 ((0 : Int32)).toNatClampNeg (1000000 : Int64)) (HS_spanShares y8.1) ((0 : Int32)).toNatClampNeg ((x1 * (10 : Int32))).toNatClampNeg ((10 : Int32)).toNatClampNeg)) (vp_updL p9 ((0 : Int32)).toNatClampNeg (1000000 : Int64)))) H := hP
    replace hD : va_D A (WX1 a b cI cJ cZ (HS_reached_s (HS_spanShares_s y8.1 (va_cpy (vp_updL p9 ((0 : Int32)).toNatClampNeg (1000000 : Int64)) (HS_spanShares y8.1) ((0 : Int32)).toNatClampNeg ((x1 * (10 : Int32))).toNatClampNeg ((10 : Int32)).toNatClampNeg)) (vp_updL p9 ((0 : Int32)).toNatClampNeg (1000000 : Int64)))) := hD
    refine lv_iconst (v := (0 : Int32)) hx hb dX1_makeSpan_85 (by decide) ?_
    refine lv_istore_n (lv' := [(3, .int (0 : Int32)), (2, .int (x1 * (10 : Int32))), (0, .ref (a 1)), (1, .int x1)]) hx hb dX1_makeSpan_86 rfl hl (by decide) rfl (fun ls hl => ?_)
    obtain ⟨y23, hlp, hf⟩ := bind_s hf
    refine l87 x1 (x1 * (10 : Int32)) fuelN ((HS_reached_s (HS_spanShares_s y8.1 (va_cpy (vp_updL p9 ((0 : Int32)).toNatClampNeg (1000000 : Int64)) (HS_spanShares y8.1) ((0 : Int32)).toNatClampNeg ((x1 * (10 : Int32))).toNatClampNeg ((10 : Int32)).toNatClampNeg)) (vp_updL p9 ((0 : Int32)).toNatClampNeg (1000000 : Int64))), (0 : Int32)) y23 hlp ?_ H locs ls ⟨hP, hD, hS⟩ (lv_sub hl [2, 3, 1, 0] rfl)
    intro H locs ls hin hl
    obtain ⟨hP, hD, hS⟩ := hin
    refine lv_aload_n hx hb dX1_makeSpan_151 rfl (lv_at hl 0 rfl) ?_
    refine va_get (D := (dC, dI)) (ci := 1) (v := .ref (a 7)) (C := RX1) (T := TX1) (N := 11) hx hb hts kX1_makeSpan_X1 hown hK hP 0 rfl rfl 6 (by decide) (hts _ mX1_makeSpan_13) (fun _ h9 => h9) rfl dX1_makeSpan_152 ?_
    refine lv_iload_n hx hb dX1_makeSpan_155 rfl (lv_at hl 1 rfl) ?_
    refine lv_iconst (v := (1 : Int32)) hx hb dX1_makeSpan_156 (by decide) ?_
    obtain ⟨hi24, hf⟩ := it_s hf
    refine va_zast hx hb hK hP hD hS 6 2 rfl rfl (inb_in hi24) dX1_makeSpan_157 (fun H locs hP hD hS => ?_)
    replace hP : va_P (dC, dI) vwCl (WX1 a b cI cJ cZ (HS_spanIsMade_s y23.1 (upd (HS_spanIsMade y23.1) (x1).toNatClampNeg (vp_nar .boolean (1 : Int32))))) H := hP
    replace hD : va_D A (WX1 a b cI cJ cZ (HS_spanIsMade_s y23.1 (upd (HS_spanIsMade y23.1) (x1).toNatClampNeg (vp_nar .boolean (1 : Int32))))) := hD
    obtain rfl := Option.some.inj hf
    rw [hQ]
    exact W.vret hx hb hr (fun t ht hW => ⟨rfl, ⟨by rw [ht]; exact hP, hD⟩, hS.F ht⟩) hS.2.2 dX1_makeSpan_158
  exact main s.heap [] ls ⟨hP, hD, va_S.rf⟩ hl
def rX1_shareIn : Room := { frames := 2, cells := 0, slots := 0, locals := 64 }
theorem kX1_shareIn_X1 : ∀ w ∈ wsX10, w ∈ wsX1_shareIn := fun w h => (List.mem_cons_of_mem _ (List.mem_append_right _ h))
theorem mX1_shareIn_1 : Cond.fieldLink RX1 27 "SmokeLedger$Holdings" "spanIsMade" "[Z" ∈ wsX1_shareIn := List.mem_of_getElem? (i := 1) rfl
theorem mX1_shareIn_2 : Cond.fieldLink RX1 31 "SmokeLedger$Holdings" "spanShares" "[J" ∈ wsX1_shareIn := List.mem_of_getElem? (i := 2) rfl
set_option maxHeartbeats 4000000 in
set_option maxRecDepth 100000 in
theorem ct_X1_shareIn (l : Launch) (dC : Nat → ClassId) (dI : Nat → Nat → Nat) (a b : Nat → Nat) (cI cJ cZ : ClassId) (sz : Nat) (st : HS) (x1 : Int32) (x2 : Int32) (res : Int64 × HS) (hf : fX1_shareIn st x1 x2 = some res) : Met l yX1_shareIn wsX1_shareIn rX1_shareIn (Pm (dC, dI) (tyT cI cJ cZ) (WX1 a b cI cJ cZ st) sz [.ref (a 1), .int x1, .int x2]) (Qm (dC, dI) (some (.long res.1)) (WX1 a b cI cJ cZ res.2) (va_A (WX1 a b cI cJ cZ st) sz)) 0 0 (va_A (WX1 a b cI cJ cZ st) sz) := by
  refine Met.ofW (cc := cX1_shareIn) (maxL := 3) (ret := (some .long)) (by decide) rfl ?_
  intro p e s m args below meth c s₁ B hml hv
  obtain ⟨hargs, hsz, hP, hK, hD0⟩ := hv
  have hx := B.exec
  have hb := B.bytes
  have hr := B.returns
  have hts := atoms_spec (ws := wsX1_shareIn) B.pre
  have hown : s.vm.findClass RX1 = some m.cls := findClass_of_methodNamed B.named
  have hlocks := B.notSynchronized
  subst hsz
  have hD := hD0.self (sz := s.heap.size)
  generalize hAe : va_A (WX1 a b cI cJ cZ st) s.heap.size = A at hD ⊢
  have hA : ∀ q : Nat, s.heap.size ≤ q → A q := fun q h => by rw [← hAe]; exact Or.inr h
  have hl := lv_entry ([.ref (a 1), .int x1, .int x2]) (n := 3) (Nat.le_of_ble_eq_true rfl)
  refine W.eq (hargs ▸ lg_entry_eq m [.ref (a 1), .int x1, .int x2] 3) ?_
  generalize (lg_sl ([.ref (a 1), .int x1, .int x2]) ++ List.replicate (3 - (lg_sl ([.ref (a 1), .int x1, .int x2])).length) Slot.unset).toArray = ls at hl ⊢
  have hl : lv_has ls 3 [(0, .ref (a 1)), (1, .int x1), (2, .int x2)] := hl
  obtain ⟨QQ, hQ⟩ : ∃ QQ : State → Prop, QQ = MQ below (Qm (dC, dI) (some (.long res.1)) (WX1 a b cI cJ cZ res.2) A) args s 0 0 (A) := ⟨_, rfl⟩
  rw [← hQ]
  have b14 : ∀ (st : HS) (x1 : Int32) (x2 : Int32), fX1_shareIn_b14 st x1 x2 = some res → (∀ (H : Heap) (locs : List Loc) (ls : Array Slot), IN (dC, dI) (WX1 a b cI cJ cZ st) A s.heap H locs → lv_has ls 3 [(0, .ref (a 1)), (1, .int x1), (2, .int x2)] → W p l e (headSpec wsX1_shareIn rX1_shareIn).room s m args below meth c H locs 0 0 QQ (F0 m 14 ls [])) := by
    intro st x1 x2 hf
    intro H locs ls hin hl
    obtain ⟨hP, hD, hS⟩ := hin
    unfold fX1_shareIn_b14 at hf
    refine lv_aload_n hx hb dX1_shareIn_14 rfl (lv_at hl 0 rfl) ?_
    refine va_get (D := (dC, dI)) (ci := 1) (v := .ref (a 8)) (C := RX1) (T := TX1) (N := 11) hx hb hts kX1_shareIn_X1 hown hK hP 0 rfl rfl 7 (by decide) (hts _ mX1_shareIn_2) (fun _ h9 => h9) rfl dX1_shareIn_15 ?_
    refine lv_iload_n hx hb dX1_shareIn_18 rfl (lv_at hl 1 rfl) ?_
    refine lv_bipush (v := (10 : Int32)) hx hb dX1_shareIn_19 (by decide) ?_
    refine lv_imul hx hb dX1_shareIn_21 ?_
    refine lv_iload_n hx hb dX1_shareIn_22 rfl (lv_at hl 2 rfl) ?_
    refine lv_iadd hx hb dX1_shareIn_23 ?_
    obtain ⟨hi3, hf⟩ := it_s hf
    refine va_lald hx hb hK hP 7 1 rfl rfl (inb_in hi3) dX1_shareIn_24 ?_
    obtain rfl := Option.some.inj hf
    rw [hQ]
    exact W.lret hx hb hr (fun t ht hW => ⟨rfl, ⟨by rw [ht]; exact hP, hD⟩, hS.F ht⟩) hS.2.2 dX1_shareIn_25
  have main : ∀ (H : Heap) (locs : List Loc) (ls : Array Slot), IN (dC, dI) (WX1 a b cI cJ cZ st) A s.heap H locs → lv_has ls 3 [(0, .ref (a 1)), (1, .int x1), (2, .int x2)] → W p l e (headSpec wsX1_shareIn rX1_shareIn).room s m args below meth c H locs 0 0 QQ (F0 m 0 ls []) := by
    intro H locs ls hin hl
    obtain ⟨hP, hD, hS⟩ := hin
    unfold fX1_shareIn at hf
    refine lv_aload_n hx hb dX1_shareIn_0 rfl (lv_at hl 0 rfl) ?_
    refine va_get (D := (dC, dI)) (ci := 1) (v := .ref (a 7)) (C := RX1) (T := TX1) (N := 11) hx hb hts kX1_shareIn_X1 hown hK hP 0 rfl rfl 6 (by decide) (hts _ mX1_shareIn_1) (fun _ h9 => h9) rfl dX1_shareIn_1 ?_
    refine lv_iload_n hx hb dX1_shareIn_4 rfl (lv_at hl 1 rfl) ?_
    obtain ⟨hi1, hf⟩ := it_s hf
    refine va_zald hx hb hK hP 6 2 rfl rfl (inb_in hi1) dX1_shareIn_5 ?_
    refine lv_if_ne (tgt := 14) hx hb dX1_shareIn_6 (by decide) (fun c2 => ?_) (fun c2 => ?_)
    · replace hf := it_n c2 hf
      exact b14 st x1 x2 hf H locs ls ⟨hP, hD, hS⟩ (lv_sub hl [0, 1, 2] rfl)
    · replace hf := it_p c2 hf
      refine lv_aload_n hx hb dX1_shareIn_9 rfl (lv_at hl 0 rfl) ?_
      refine lv_iload_n hx hb dX1_shareIn_10 rfl (lv_at hl 1 rfl) ?_
      obtain ⟨p4, hc5, hf⟩ := bind_s hf
      refine cmV (wr := []) ⟨hx, hb, hml, hown, hts⟩ (ct_X1_makeSpan l dC dI a b cI cJ cZ H.size st x1 p4 hc5) (cwV 1 hts gX1_shareIn_X1_makeSpan rfl rfl rfl (by decide +kernel) ⟨(Nat.le_of_ble_eq_true rfl), (Nat.le_of_ble_eq_true rfl)⟩) hK hP hD hS hA [0, 1, 2, 3, 4, 5, 6, 7, 8, 9, 10] [] rfl rfl (by decide) rfl (by decide) (by decide) rfl rfl rfl hl.1 rfl (Nat.le_of_ble_eq_true rfl) (Nat.le_of_ble_eq_true rfl) (Nat.le_of_ble_eq_true rfl) dX1_shareIn_11 (fun H locs hP hD hS => ?_)
      replace hP : va_P (dC, dI) vwCl (WX1 a b cI cJ cZ p4) H := hP
      replace hD : va_D A (WX1 a b cI cJ cZ p4) := hD
      refine W.eq (g2 := F0 m 14 ls []) rfl ?_
      exact b14 p4 x1 x2 hf H locs ls ⟨hP, hD, hS⟩ (lv_sub hl [0, 1, 2] rfl)
  exact main s.heap [] ls ⟨hP, hD, va_S.rf⟩ hl
def rX1_shareOn : Room := { frames := 3, cells := 0, slots := 0, locals := 86 }
set_option maxHeartbeats 4000000 in
set_option maxRecDepth 100000 in
theorem ct_X1_shareOn (l : Launch) (dC : Nat → ClassId) (dI : Nat → Nat → Nat) (a b : Nat → Nat) (cI cJ cZ : ClassId) (sz : Nat) (st : HS) (x1 : Int32) (x2 : Int32) (res : Int64 × HS) (hf : fX1_shareOn st x1 x2 = some res) : Met l yX1_shareOn wsX1_shareOn rX1_shareOn (Pm (dC, dI) (tyT cI cJ cZ) (WX1 a b cI cJ cZ st) sz [.ref (a 1), .int x1, .int x2]) (Qm (dC, dI) (some (.long res.1)) (WX1 a b cI cJ cZ res.2) (va_A (WX1 a b cI cJ cZ st) sz)) 0 0 (va_A (WX1 a b cI cJ cZ st) sz) := by
  refine Met.ofW (cc := cX1_shareOn) (maxL := 3) (ret := (some .long)) (by decide) rfl ?_
  intro p e s m args below meth c s₁ B hml hv
  obtain ⟨hargs, hsz, hP, hK, hD0⟩ := hv
  have hx := B.exec
  have hb := B.bytes
  have hr := B.returns
  have hts := atoms_spec (ws := wsX1_shareOn) B.pre
  have hown : s.vm.findClass RX1 = some m.cls := findClass_of_methodNamed B.named
  have hlocks := B.notSynchronized
  subst hsz
  have hD := hD0.self (sz := s.heap.size)
  generalize hAe : va_A (WX1 a b cI cJ cZ st) s.heap.size = A at hD ⊢
  have hA : ∀ q : Nat, s.heap.size ≤ q → A q := fun q h => by rw [← hAe]; exact Or.inr h
  have hl := lv_entry ([.ref (a 1), .int x1, .int x2]) (n := 3) (Nat.le_of_ble_eq_true rfl)
  refine W.eq (hargs ▸ lg_entry_eq m [.ref (a 1), .int x1, .int x2] 3) ?_
  generalize (lg_sl ([.ref (a 1), .int x1, .int x2]) ++ List.replicate (3 - (lg_sl ([.ref (a 1), .int x1, .int x2])).length) Slot.unset).toArray = ls at hl ⊢
  have hl : lv_has ls 3 [(0, .ref (a 1)), (1, .int x1), (2, .int x2)] := hl
  obtain ⟨QQ, hQ⟩ : ∃ QQ : State → Prop, QQ = MQ below (Qm (dC, dI) (some (.long res.1)) (WX1 a b cI cJ cZ res.2) A) args s 0 0 (A) := ⟨_, rfl⟩
  rw [← hQ]
  have main : ∀ (H : Heap) (locs : List Loc) (ls : Array Slot), IN (dC, dI) (WX1 a b cI cJ cZ st) A s.heap H locs → lv_has ls 3 [(0, .ref (a 1)), (1, .int x1), (2, .int x2)] → W p l e (headSpec wsX1_shareOn rX1_shareOn).room s m args below meth c H locs 0 0 QQ (F0 m 0 ls []) := by
    intro H locs ls hin hl
    obtain ⟨hP, hD, hS⟩ := hin
    unfold fX1_shareOn at hf
    refine lv_aload_n hx hb dX1_shareOn_0 rfl (lv_at hl 0 rfl) ?_
    refine lv_aload_n hx hb dX1_shareOn_1 rfl (lv_at hl 0 rfl) ?_
    refine lv_iload_n hx hb dX1_shareOn_2 rfl (lv_at hl 2 rfl) ?_
    obtain ⟨r1, hc2, hf⟩ := bind_s hf
    refine cpV (v := .int r1) ⟨hx, hb, hml, hown, hts⟩ (ct_X1_spanOn l dC dI a b cI cJ cZ st x2 r1 hc2) (cwV 1 hts gX1_shareOn_X1_spanOn rfl rfl rfl (by decide +kernel) ⟨(Nat.le_of_ble_eq_true rfl), (Nat.le_of_ble_eq_true rfl)⟩) hK hP [0, 1, 2, 3, 4, 5, 6, 7, 8, 9, 10] rfl rfl rfl rfl hl.1 rfl (Nat.le_of_ble_eq_true rfl) (Nat.le_of_ble_eq_true rfl) (Nat.le_of_ble_eq_true rfl) dX1_shareOn_3 ?_
    refine lv_iload_n hx hb dX1_shareOn_6 rfl (lv_at hl 1 rfl) ?_
    obtain ⟨p3, hc4, hf⟩ := bind_s hf
    refine cmV (wr := []) ⟨hx, hb, hml, hown, hts⟩ (ct_X1_shareIn l dC dI a b cI cJ cZ H.size st r1 x1 p3 hc4) (cwV 2 hts gX1_shareOn_X1_shareIn rfl rfl rfl (by decide +kernel) ⟨(Nat.le_of_ble_eq_true rfl), (Nat.le_of_ble_eq_true rfl)⟩) hK hP hD hS hA [0, 1, 2, 3, 4, 5, 6, 7, 8, 9, 10] [] rfl rfl (by decide) rfl (by decide) (by decide) rfl rfl rfl hl.1 rfl (Nat.le_of_ble_eq_true rfl) (Nat.le_of_ble_eq_true rfl) (Nat.le_of_ble_eq_true rfl) dX1_shareOn_7 (fun H locs hP hD hS => ?_)
    replace hP : va_P (dC, dI) vwCl (WX1 a b cI cJ cZ p3.2) H := hP
    replace hD : va_D A (WX1 a b cI cJ cZ p3.2) := hD
    refine W.eq (g2 := F0 m 10 ls [.long p3.1]) rfl ?_
    obtain rfl := Option.some.inj hf
    rw [hQ]
    exact W.lret hx hb hr (fun t ht hW => ⟨rfl, ⟨by rw [ht]; exact hP, hD⟩, hS.F ht⟩) hS.2.2 dX1_shareOn_10
  exact main s.heap [] ls ⟨hP, hD, va_S.rf⟩ hl
def rX1_sharesSummed : Room := { frames := 3, cells := 0, slots := 0, locals := 86 }
theorem kX1_sharesSummed_X1 : ∀ w ∈ wsX10, w ∈ wsX1_sharesSummed := fun w h => (List.mem_cons_of_mem _ (List.mem_append_right _ h))
theorem mX1_sharesSummed_1 : Cond.fieldLink RX1 44 "SmokeLedger$Holdings" "size" "I" ∈ wsX1_sharesSummed := List.mem_of_getElem? (i := 1) rfl
theorem mX1_sharesSummed_2 : Cond.fieldLink RX1 21 "SmokeLedger$Holdings" "day" "[I" ∈ wsX1_sharesSummed := List.mem_of_getElem? (i := 2) rfl
theorem mX1_sharesSummed_3 : Cond.methodLink RX1 81 Lib.Math.min.name ∈ wsX1_sharesSummed := List.mem_of_getElem? (i := 3) rfl
theorem mX1_sharesSummed_4 : Cond.static Lib.Math.min.name ∈ wsX1_sharesSummed := List.mem_of_getElem? (i := 4) rfl
theorem mX1_sharesSummed_5 : Cond.initialized "java/lang/Math" ∈ wsX1_sharesSummed := List.mem_of_getElem? (i := 5) rfl
theorem mX1_sharesSummed_6 : Cond.code Lib.Math.min.name Lib.Math.min.code 2 (some .int) ∈ wsX1_sharesSummed := List.mem_of_getElem? (i := 6) rfl
set_option maxHeartbeats 4000000 in
set_option maxRecDepth 100000 in
theorem ct_X1_sharesSummed (l : Launch) (dC : Nat → ClassId) (dI : Nat → Nat → Nat) (a b : Nat → Nat) (cI cJ cZ : ClassId) (sz : Nat) (st : HS) (x1 : Int32) (x2 : Int32) (x3 : Int32) (res : Int64 × HS) (hf : fX1_sharesSummed st x1 x2 x3 = some res) : Met l yX1_sharesSummed wsX1_sharesSummed rX1_sharesSummed (Pm (dC, dI) (tyT cI cJ cZ) (WX1 a b cI cJ cZ st) sz [.ref (a 1), .int x1, .int x2, .int x3]) (Qm (dC, dI) (some (.long res.1)) (WX1 a b cI cJ cZ res.2) (va_A (WX1 a b cI cJ cZ st) sz)) 0 0 (va_A (WX1 a b cI cJ cZ st) sz) := by
  refine Met.ofW (cc := cX1_sharesSummed) (maxL := 9) (ret := (some .long)) (by decide) rfl ?_
  intro p e s m args below meth c s₁ B hml hv
  obtain ⟨hargs, hsz, hP, hK, hD0⟩ := hv
  have hx := B.exec
  have hb := B.bytes
  have hr := B.returns
  have hts := atoms_spec (ws := wsX1_sharesSummed) B.pre
  have hown : s.vm.findClass RX1 = some m.cls := findClass_of_methodNamed B.named
  have hlocks := B.notSynchronized
  subst hsz
  have hD := hD0.self (sz := s.heap.size)
  generalize hAe : va_A (WX1 a b cI cJ cZ st) s.heap.size = A at hD ⊢
  have hA : ∀ q : Nat, s.heap.size ≤ q → A q := fun q h => by rw [← hAe]; exact Or.inr h
  have hl := lv_entry ([.ref (a 1), .int x1, .int x2, .int x3]) (n := 9) (Nat.le_of_ble_eq_true rfl)
  refine W.eq (hargs ▸ lg_entry_eq m [.ref (a 1), .int x1, .int x2, .int x3] 9) ?_
  generalize (lg_sl ([.ref (a 1), .int x1, .int x2, .int x3]) ++ List.replicate (9 - (lg_sl ([.ref (a 1), .int x1, .int x2, .int x3])).length) Slot.unset).toArray = ls at hl ⊢
  have hl : lv_has ls 9 [(0, .ref (a 1)), (1, .int x1), (2, .int x2), (3, .int x3)] := hl
  obtain ⟨QQ, hQ⟩ : ∃ QQ : State → Prop, QQ = MQ below (Qm (dC, dI) (some (.long res.1)) (WX1 a b cI cJ cZ res.2) A) args s 0 0 (A) := ⟨_, rfl⟩
  rw [← hQ]
  have l13 : ∀ (x1 : Int32) (x3 : Int32) (fu : Nat) (s0 : HS × Int64 × Int32 × Int32) (r : HS × Int64 × Int32 × Int32), loopN (fun (s : HS × Int64 × Int32 × Int32) => fX1_sharesSummed_l13 x1 x3 s.1 s.2.1 s.2.2.1 s.2.2.2) fu s0 = some r → (∀ (H : Heap) (locs : List Loc) (ls : Array Slot), IN (dC, dI) (WX1 a b cI cJ cZ r.1) A s.heap H locs → lv_has ls 9 [(0, .ref (a 1)), (1, .int x1), (3, .int x3), (4, .long r.2.1), (6, .int r.2.2.1), (7, .int r.2.2.2)] → W p l e (headSpec wsX1_sharesSummed rX1_sharesSummed).room s m args below meth c H locs 0 0 QQ (F0 m 90 ls [])) → (∀ (H : Heap) (locs : List Loc) (ls : Array Slot), IN (dC, dI) (WX1 a b cI cJ cZ s0.1) A s.heap H locs → lv_has ls 9 [(0, .ref (a 1)), (1, .int x1), (3, .int x3), (4, .long s0.2.1), (6, .int s0.2.2.1), (7, .int s0.2.2.2)] → W p l e (headSpec wsX1_sharesSummed rX1_sharesSummed).room s m args below meth c H locs 0 0 QQ (F0 m 13 ls [])) := by
    intro x1 x3 fu s0 r
    have b84 : ∀ (st : HS) (x1 : Int32) (x3 : Int32) (x4 : Int64) (x6 : Int32) (x7 : Int32) (x : (HS × Int64 × Int32 × Int32) ⊕ (HS × Int64 × Int32 × Int32)), fX1_sharesSummed_b84 st x1 x3 x4 x6 x7 = some x → (∀ s', x = .inl s' → (∀ (H : Heap) (locs : List Loc) (ls : Array Slot), IN (dC, dI) (WX1 a b cI cJ cZ s'.1) A s.heap H locs → lv_has ls 9 [(0, .ref (a 1)), (1, .int x1), (3, .int x3), (4, .long s'.2.1), (6, .int s'.2.2.1), (7, .int s'.2.2.2)] → W p l e (headSpec wsX1_sharesSummed rX1_sharesSummed).room s m args below meth c H locs 0 0 QQ (F0 m 13 ls []))) → (∀ r, x = .inr r → (∀ (H : Heap) (locs : List Loc) (ls : Array Slot), IN (dC, dI) (WX1 a b cI cJ cZ r.1) A s.heap H locs → lv_has ls 9 [(0, .ref (a 1)), (1, .int x1), (3, .int x3), (4, .long r.2.1), (6, .int r.2.2.1), (7, .int r.2.2.2)] → W p l e (headSpec wsX1_sharesSummed rX1_sharesSummed).room s m args below meth c H locs 0 0 QQ (F0 m 90 ls []))) → (∀ (H : Heap) (locs : List Loc) (ls : Array Slot), IN (dC, dI) (WX1 a b cI cJ cZ st) A s.heap H locs → lv_has ls 9 [(0, .ref (a 1)), (1, .int x1), (3, .int x3), (4, .long x4), (6, .int x6), (7, .int x7)] → W p l e (headSpec wsX1_sharesSummed rX1_sharesSummed).room s m args below meth c H locs 0 0 QQ (F0 m 84 ls [])) := by
      intro st x1 x3 x4 x6 x7 x hf kc ke
      intro H locs ls hin hl
      obtain ⟨hP, hD, hS⟩ := hin
      unfold fX1_sharesSummed_b84 at hf
      refine lv_iinc (v := (x7 + (1 : Int32))) (lv' := [(7, .int (x7 + (1 : Int32))), (0, .ref (a 1)), (1, .int x1), (3, .int x3), (4, .long x4), (6, .int x6)]) hx hb dX1_sharesSummed_84 hl (k := 5) rfl rfl (by decide) rfl (fun ls hl => ?_)
      refine lv_goto (tgt := 13) hx hb dX1_sharesSummed_87 (by decide) ?_
      obtain rfl := Option.some.inj hf
      exact kc _ rfl H locs ls ⟨hP, hD, hS⟩ (lv_sub hl [1, 2, 3, 4, 5, 0] rfl)
    have b48 : ∀ (st : HS) (x1 : Int32) (x3 : Int32) (x4 : Int64) (x6 : Int32) (x7 : Int32) (k0 : Int32) (x : (HS × Int64 × Int32 × Int32) ⊕ (HS × Int64 × Int32 × Int32)), fX1_sharesSummed_b48 st x1 x3 x4 x6 x7 k0 = some x → (∀ s', x = .inl s' → (∀ (H : Heap) (locs : List Loc) (ls : Array Slot), IN (dC, dI) (WX1 a b cI cJ cZ s'.1) A s.heap H locs → lv_has ls 9 [(0, .ref (a 1)), (1, .int x1), (3, .int x3), (4, .long s'.2.1), (6, .int s'.2.2.1), (7, .int s'.2.2.2)] → W p l e (headSpec wsX1_sharesSummed rX1_sharesSummed).room s m args below meth c H locs 0 0 QQ (F0 m 13 ls []))) → (∀ r, x = .inr r → (∀ (H : Heap) (locs : List Loc) (ls : Array Slot), IN (dC, dI) (WX1 a b cI cJ cZ r.1) A s.heap H locs → lv_has ls 9 [(0, .ref (a 1)), (1, .int x1), (3, .int x3), (4, .long r.2.1), (6, .int r.2.2.1), (7, .int r.2.2.2)] → W p l e (headSpec wsX1_sharesSummed rX1_sharesSummed).room s m args below meth c H locs 0 0 QQ (F0 m 90 ls []))) → (∀ (H : Heap) (locs : List Loc) (ls : Array Slot), IN (dC, dI) (WX1 a b cI cJ cZ st) A s.heap H locs → lv_has ls 9 [(0, .ref (a 1)), (1, .int x1), (3, .int x3), (4, .long x4), (6, .int x6), (7, .int x7)] → W p l e (headSpec wsX1_sharesSummed rX1_sharesSummed).room s m args below meth c H locs 0 0 QQ (F0 m 48 ls [.int k0])) := by
      intro st x1 x3 x4 x6 x7 k0 x hf kc ke
      intro H locs ls hin hl
      obtain ⟨hP, hD, hS⟩ := hin
      unfold fX1_sharesSummed_b48 at hf
      refine lv_istore (lv' := [(8, .int k0), (0, .ref (a 1)), (1, .int x1), (3, .int x3), (4, .long x4), (6, .int x6), (7, .int x7)]) hx hb dX1_sharesSummed_48 hl (by decide) rfl (fun ls hl => ?_)
      refine lv_iload hx hb dX1_sharesSummed_50 (lv_at hl 0 rfl) ?_
      refine lv_iload hx hb dX1_sharesSummed_52 (lv_at hl 5 rfl) ?_
      refine lv_icmp_lt (tgt := 84) hx hb dX1_sharesSummed_54 (by decide) (fun c5 => ?_) (fun c5 => ?_)
      · replace hf := it_p c5 hf
        exact b84 st x1 x3 x4 x6 x7 _ hf kc ke H locs ls ⟨hP, hD, hS⟩ (lv_sub hl [1, 2, 3, 4, 5, 6] rfl)
      · replace hf := it_n c5 hf
        refine lv_lload hx hb dX1_sharesSummed_57 (lv_at hl 4 rfl) ?_
        refine lv_aload_n hx hb dX1_sharesSummed_59 rfl (lv_at hl 1 rfl) ?_
        refine lv_iload hx hb dX1_sharesSummed_60 (lv_at hl 6 rfl) ?_
        refine lv_iload_n hx hb dX1_sharesSummed_62 rfl (lv_at hl 2 rfl) ?_
        obtain ⟨p6, hc7, hf⟩ := bind_s hf
        refine cmV (wr := []) ⟨hx, hb, hml, hown, hts⟩ (ct_X1_shareIn l dC dI a b cI cJ cZ H.size st x7 x1 p6 hc7) (cwV 2 hts gX1_sharesSummed_X1_shareIn rfl rfl rfl (by decide +kernel) ⟨(Nat.le_of_ble_eq_true rfl), (Nat.le_of_ble_eq_true rfl)⟩) hK hP hD hS hA [0, 1, 2, 3, 4, 5, 6, 7, 8, 9, 10] [] rfl rfl (by decide) rfl (by decide) (by decide) rfl rfl rfl hl.1 rfl (Nat.le_of_ble_eq_true rfl) (Nat.le_of_ble_eq_true rfl) (Nat.le_of_ble_eq_true rfl) dX1_sharesSummed_63 (fun H locs hP hD hS => ?_)
        replace hP : va_P (dC, dI) vwCl (WX1 a b cI cJ cZ p6.2) H := hP
        replace hD : va_D A (WX1 a b cI cJ cZ p6.2) := hD
        refine W.eq (g2 := F0 m 66 ls [.long p6.1, .long x4]) rfl ?_
        refine lv_iload hx hb dX1_sharesSummed_66 (lv_at hl 0 rfl) ?_
        refine lv_iload hx hb dX1_sharesSummed_68 (lv_at hl 5 rfl) ?_
        refine lv_isub hx hb dX1_sharesSummed_70 ?_
        refine lv_iconst (v := (1 : Int32)) hx hb dX1_sharesSummed_71 (by decide) ?_
        refine lv_iadd hx hb dX1_sharesSummed_72 ?_
        refine lv_i2l hx hb dX1_sharesSummed_73 rfl ?_
        refine lv_lmul hx hb dX1_sharesSummed_74 ?_
        refine lv_ladd hx hb dX1_sharesSummed_75 ?_
        refine lv_lstore (lv' := [(4, .long (x4 + (p6.1 * (Int32.toInt64 ((k0 - x6) + (1 : Int32)))))), (8, .int k0), (0, .ref (a 1)), (1, .int x1), (3, .int x3), (6, .int x6), (7, .int x7)]) hx hb dX1_sharesSummed_76 hl (by decide) rfl (fun ls hl => ?_)
        refine lv_iload hx hb dX1_sharesSummed_78 (lv_at hl 1 rfl) ?_
        refine lv_iconst (v := (1 : Int32)) hx hb dX1_sharesSummed_80 (by decide) ?_
        refine lv_iadd hx hb dX1_sharesSummed_81 ?_
        refine lv_istore (lv' := [(6, .int (k0 + (1 : Int32))), (4, .long (x4 + (p6.1 * (Int32.toInt64 ((k0 - x6) + (1 : Int32)))))), (8, .int k0), (0, .ref (a 1)), (1, .int x1), (3, .int x3), (7, .int x7)]) hx hb dX1_sharesSummed_82 hl (by decide) rfl (fun ls hl => ?_)
        exact b84 p6.2 x1 x3 (x4 + (p6.1 * (Int32.toInt64 ((k0 - x6) + (1 : Int32))))) (k0 + (1 : Int32)) x7 _ hf kc ke H locs ls ⟨hP, hD, hS⟩ (lv_sub hl [3, 4, 5, 1, 0, 6] rfl)
    refine loop_ind (P := fun s0 => ∀ (H : Heap) (locs : List Loc) (ls : Array Slot), IN (dC, dI) (WX1 a b cI cJ cZ s0.1) A s.heap H locs → lv_has ls 9 [(0, .ref (a 1)), (1, .int x1), (3, .int x3), (4, .long s0.2.1), (6, .int s0.2.2.1), (7, .int s0.2.2.2)] → W p l e (headSpec wsX1_sharesSummed rX1_sharesSummed).room s m args below meth c H locs 0 0 QQ (F0 m 13 ls [])) (Q := fun r => ∀ (H : Heap) (locs : List Loc) (ls : Array Slot), IN (dC, dI) (WX1 a b cI cJ cZ r.1) A s.heap H locs → lv_has ls 9 [(0, .ref (a 1)), (1, .int x1), (3, .int x3), (4, .long r.2.1), (6, .int r.2.2.1), (7, .int r.2.2.2)] → W p l e (headSpec wsX1_sharesSummed rX1_sharesSummed).room s m args below meth c H locs 0 0 QQ (F0 m 90 ls [])) ?_ fu s0 r
    clear fu s0 r
    rintro ⟨st, x4, x6, x7⟩ x hf kc ke
    replace hf : fX1_sharesSummed_l13 x1 x3 st x4 x6 x7 = some x := hf
    replace kc : (∀ s', x = .inl s' → (∀ (H : Heap) (locs : List Loc) (ls : Array Slot), IN (dC, dI) (WX1 a b cI cJ cZ s'.1) A s.heap H locs → lv_has ls 9 [(0, .ref (a 1)), (1, .int x1), (3, .int x3), (4, .long s'.2.1), (6, .int s'.2.2.1), (7, .int s'.2.2.2)] → W p l e (headSpec wsX1_sharesSummed rX1_sharesSummed).room s m args below meth c H locs 0 0 QQ (F0 m 13 ls []))) := kc
    replace ke : (∀ r, x = .inr r → (∀ (H : Heap) (locs : List Loc) (ls : Array Slot), IN (dC, dI) (WX1 a b cI cJ cZ r.1) A s.heap H locs → lv_has ls 9 [(0, .ref (a 1)), (1, .int x1), (3, .int x3), (4, .long r.2.1), (6, .int r.2.2.1), (7, .int r.2.2.2)] → W p l e (headSpec wsX1_sharesSummed rX1_sharesSummed).room s m args below meth c H locs 0 0 QQ (F0 m 90 ls []))) := ke
    intro H locs ls hin hl
    obtain ⟨hP, hD, hS⟩ := hin
    unfold fX1_sharesSummed_l13 at hf
    refine lv_iload hx hb dX1_sharesSummed_13 (lv_at hl 5 rfl) ?_
    refine lv_aload_n hx hb dX1_sharesSummed_15 rfl (lv_at hl 0 rfl) ?_
    refine va_get (D := (dC, dI)) (ci := 1) (v := .int (HS_size st)) (C := RX1) (T := TX1) (N := 11) hx hb hts kX1_sharesSummed_X1 hown hK hP 0 rfl rfl 4 (by decide) (hts _ mX1_sharesSummed_1) (fun _ h9 => h9) rfl dX1_sharesSummed_16 ?_
    refine lv_icmp_gt (tgt := 90) hx hb dX1_sharesSummed_19 (by decide) (fun c3 => ?_) (fun c3 => ?_)
    · replace hf := it_p c3 hf
      obtain rfl := Option.some.inj hf
      exact ke _ rfl H locs ls ⟨hP, hD, hS⟩ (lv_sub hl [0, 1, 2, 3, 4, 5] rfl)
    · replace hf := it_n c3 hf
      refine lv_iload hx hb dX1_sharesSummed_22 (lv_at hl 5 rfl) ?_
      refine lv_aload_n hx hb dX1_sharesSummed_24 rfl (lv_at hl 0 rfl) ?_
      refine va_get (D := (dC, dI)) (ci := 1) (v := .int (HS_size st)) (C := RX1) (T := TX1) (N := 11) hx hb hts kX1_sharesSummed_X1 hown hK hP 0 rfl rfl 4 (by decide) (hts _ mX1_sharesSummed_1) (fun _ h9 => h9) rfl dX1_sharesSummed_25 ?_
      refine lv_icmp_ge (tgt := 47) hx hb dX1_sharesSummed_28 (by decide) (fun c4 => ?_) (fun c4 => ?_)
      · replace hf := it_p c4 hf
        refine lv_iload_n hx hb dX1_sharesSummed_47 rfl (lv_at hl 2 rfl) ?_
        exact b48 st x1 x3 x4 x6 x7 x3 _ hf kc ke H locs ls ⟨hP, hD, hS⟩ (lv_sub hl [0, 1, 2, 3, 4, 5] rfl)
      · replace hf := it_n c4 hf
        refine lv_iload_n hx hb dX1_sharesSummed_31 rfl (lv_at hl 2 rfl) ?_
        refine lv_aload_n hx hb dX1_sharesSummed_32 rfl (lv_at hl 0 rfl) ?_
        refine va_get (D := (dC, dI)) (ci := 1) (v := .ref (a 5)) (C := RX1) (T := TX1) (N := 11) hx hb hts kX1_sharesSummed_X1 hown hK hP 0 rfl rfl 3 (by decide) (hts _ mX1_sharesSummed_2) (fun _ h9 => h9) rfl dX1_sharesSummed_33 ?_
        refine lv_iload hx hb dX1_sharesSummed_36 (lv_at hl 5 rfl) ?_
        obtain ⟨hi8, hf⟩ := it_s hf
        refine va_iald hx hb hK hP 4 0 rfl rfl (inb_in hi8) dX1_sharesSummed_38 ?_
        refine lv_iconst (v := (1 : Int32)) hx hb dX1_sharesSummed_39 (by decide) ?_
        refine lv_isub hx hb dX1_sharesSummed_40 ?_
        refine va_mmin hx hb (hml.trans hl.1.symm) hown (hts _ mX1_sharesSummed_3) (hts _ mX1_sharesSummed_4) (hts _ mX1_sharesSummed_5) (hts _ mX1_sharesSummed_6) (Nat.le_of_ble_eq_true rfl) (Nat.le_of_ble_eq_true rfl) (Nat.le_of_ble_eq_true rfl) (Nat.le_of_ble_eq_true rfl) dX1_sharesSummed_41 ?_
        refine lv_goto (tgt := 48) hx hb dX1_sharesSummed_44 (by decide) ?_
        exact b48 st x1 x3 x4 x6 x7 (if (((HS_day st) (x7).toNatClampNeg) - (1 : Int32)) < x3 then (((HS_day st) (x7).toNatClampNeg) - (1 : Int32)) else x3) _ hf kc ke H locs ls ⟨hP, hD, hS⟩ (lv_sub hl [0, 1, 2, 3, 4, 5] rfl)
  have main : ∀ (H : Heap) (locs : List Loc) (ls : Array Slot), IN (dC, dI) (WX1 a b cI cJ cZ st) A s.heap H locs → lv_has ls 9 [(0, .ref (a 1)), (1, .int x1), (2, .int x2), (3, .int x3)] → W p l e (headSpec wsX1_sharesSummed rX1_sharesSummed).room s m args below meth c H locs 0 0 QQ (F0 m 0 ls []) := by
    intro H locs ls hin hl
    obtain ⟨hP, hD, hS⟩ := hin
    unfold fX1_sharesSummed at hf
    refine lv_lconst (v := (0 : Int64)) hx hb dX1_sharesSummed_0 (by decide) ?_
    refine lv_lstore (lv' := [(4, .long (0 : Int64)), (0, .ref (a 1)), (1, .int x1), (2, .int x2), (3, .int x3)]) hx hb dX1_sharesSummed_1 hl (by decide) rfl (fun ls hl => ?_)
    refine lv_iload_n hx hb dX1_sharesSummed_3 rfl (lv_at hl 3 rfl) ?_
    refine lv_istore (lv' := [(6, .int x2), (4, .long (0 : Int64)), (0, .ref (a 1)), (1, .int x1), (2, .int x2), (3, .int x3)]) hx hb dX1_sharesSummed_4 hl (by decide) rfl (fun ls hl => ?_)
    refine lv_aload_n hx hb dX1_sharesSummed_6 rfl (lv_at hl 2 rfl) ?_
    refine lv_iload_n hx hb dX1_sharesSummed_7 rfl (lv_at hl 4 rfl) ?_
    obtain ⟨r1, hc2, hf⟩ := bind_s hf
    refine cpV (v := .int r1) ⟨hx, hb, hml, hown, hts⟩ (ct_X1_spanOn l dC dI a b cI cJ cZ st x2 r1 hc2) (cwV 1 hts gX1_sharesSummed_X1_spanOn rfl rfl rfl (by decide +kernel) ⟨(Nat.le_of_ble_eq_true rfl), (Nat.le_of_ble_eq_true rfl)⟩) hK hP [0, 1, 2, 3, 4, 5, 6, 7, 8, 9, 10] rfl rfl rfl rfl hl.1 rfl (Nat.le_of_ble_eq_true rfl) (Nat.le_of_ble_eq_true rfl) (Nat.le_of_ble_eq_true rfl) dX1_sharesSummed_8 ?_
    refine lv_istore (lv' := [(7, .int r1), (6, .int x2), (4, .long (0 : Int64)), (0, .ref (a 1)), (1, .int x1), (2, .int x2), (3, .int x3)]) hx hb dX1_sharesSummed_11 hl (by decide) rfl (fun ls hl => ?_)
    obtain ⟨y9, hlp, hf⟩ := bind_s hf
    refine l13 x1 x3 fuelN (st, (0 : Int64), x2, r1) y9 hlp ?_ H locs ls ⟨hP, hD, hS⟩ (lv_sub hl [3, 4, 6, 2, 1, 0] rfl)
    intro H locs ls hin hl
    obtain ⟨hP, hD, hS⟩ := hin
    refine lv_lload hx hb dX1_sharesSummed_90 (lv_at hl 3 rfl) ?_
    obtain rfl := Option.some.inj hf
    rw [hQ]
    exact W.lret hx hb hr (fun t ht hW => ⟨rfl, ⟨by rw [ht]; exact hP, hD⟩, hS.F ht⟩) hS.2.2 dX1_sharesSummed_92
  exact main s.heap [] ls ⟨hP, hD, va_S.rf⟩ hl
