/-! the runs' arrays grow -/
theorem growOk_iff {st : SS} : growOk st = true ↔ SS_cap st ≤ 1024 ∧ ¬ (SS_size st * (2 : Int32)) < 0 ∧ (SS_size st * (2 : Int32)).toNatClampNeg ≤ 2048 ∧ ¬ (SS_size st * (2 : Int32)) = Int32.ofNat (SS_cap st) := by
  simp only [growOk, Bool.and_eq_true, decide_eq_true_eq, and_assoc]
def Qr (D : va_G) (w1 : Nat → va_W) (A : Nat → Prop) : Array Value → State → Outcome → State → Prop := fun _ st oc t => ∃ q2 : Nat, oc = .returned (some (.ref q2)) ∧ (va_P D vwCl (w1 q2) t.heap ∧ va_D A (w1 q2)) ∧ va_F A st t
section GR
variable {p : Program} {l : Launch} {e : Env} {R : Room} {s : State} {m : MethodId} {args : Array Value} {below : List Frame} {meth : Method} {c : Code} {H : Heap} {locs : List Loc} {cells slots : Nat} {Q : State → Prop}
variable {y : MethodName} {bytes cc : ByteArray} {maxL nL mc ms n index : Nat} {ret : Option FieldType} {ws : List Cond} {rm : Room} {Ts : List Cond} {own : String} {As rest st0 : List Value} {pc : Nat} {ls : Array Slot} {D : va_G} {tys : List (ClassId × FieldType)} {w wc wr : va_W} {w1 : Nat → va_W} {A0 : Nat → Prop} {H0 : Heap}
theorem cmR (S : CallFix p m c cc nL s args Ts own) (hM : Met l y ws rm (Pm D tys wc H.size As) (Qr D w1 (va_A wc H.size)) mc ms (va_A wc H.size)) (cw : CallB R s args own index y bytes maxL ret ws rm mc ms n ∧ (Cond.static y).before args s = true) (hK : va_K D vwCl tys s) (hP : va_P D vwCl w H) (hD : va_D A0 w) (hS : va_S A0 H0 H locs) (hA : ∀ q, H0.size ≤ q → A0 q) (isC isR : List Nat) (hC : isC.map (fun i => w[i]?) = wc.map some) (hs : isC.filterMap (fun i => w[i]?) = wc) (hndC : va_nd isC = true) (hR : isR.map (fun i => w[i]?) = wr.map some) (hnd : va_nd isR = true) (hdis : ∀ i ∈ isR, i ∉ isC)
    (hn : As.length = n) (hsize : ls.size = nL) (hst : st0 = As.reverse ++ rest) (hW : (rest.map fun v => v.category).sum ≤ 8) (hce : cells + mc ≤ R.cells) (hsl : slots + ms ≤ R.slots) (hdg : decode cc pc = .ok (.invokestatic index, 3))
    (kk : ∀ (q2 : Nat) (H1 : Heap) (locs1 : List Loc), va_P D vwCl (wr ++ w1 q2) H1 → va_D A0 (wr ++ w1 q2) → va_S A0 H0 H1 locs1 → W p l e R s m args below meth c H1 locs1 (cells + mc) (slots + ms) Q (F0 m (pc + 3) ls (.ref q2 :: rest))) : W p l e R s m args below meth c H locs cells slots Q (F0 m pc ls st0) := by
  have hr := va_runS (l := l) (e := e) (R := R) (below := below) (meth := meth) (cells := cells) (slots := slots) (g := F0 m pc ls st0) (rest := rest) (locs := locs) S hM cw ⟨Pm_blind, fun U hU hW => ⟨rfl, by rw [hU], by rw [hU]; exact hP.sub isC hs, va_K.moved hW.alike hK, (hD.sub isC hndC hC).weaken (fun _ _ _ _ => trivial)⟩⟩ rfl hn hsize hst (lv_room hW) hdg ⟨hce, hsl⟩
  have hFc := va_free (wc := wc) hD hS hA isC hC
  intro T hT X
  obtain ⟨v', st₀, t, T', L, h0, X', hL, e1, e2, ⟨q2, hv, ⟨hP1, hD1⟩, hz, hk⟩, st⟩ := hr T hT X
  cases hv
  rw [h0] at hz hk
  rw [← e1] at hP1 hz hk
  obtain ⟨hP2, hD2⟩ := va_join (wr := wr) hP hD isC isR hC hR hnd hdis hk hFc hP1 hD1
  obtain ⟨t2, a1, b1⟩ := kk q2 T'.heap (locs ++ L) hP2 hD2 ⟨Nat.le_trans hS.1 hz, fun q h1 h2 => by rw [hk q (Nat.lt_of_lt_of_le h1 hS.1) (fun z => h2 (hFc q z))]; exact hS.2.1 q h1 h2, fun q hq => by
      rcases List.mem_append.mp hq with h | h
      · exact hS.2.2 q h
      · exact hFc _ (hL q h)⟩ T' rfl X'
  exact ⟨t2, st t2 a1, b1⟩
end GR
theorem gr_min {len : Nat} {x1 : Int32} (h0 : ¬ x1 < 0) (hlen : len ≤ 1024) : ¬ (if x1 < Int32.ofNat len then x1 else Int32.ofNat len) < 0 ∧ (if x1 < Int32.ofNat len then x1 else Int32.ofNat len).toNatClampNeg ≤ len ∧ (if x1 < Int32.ofNat len then x1 else Int32.ofNat len).toNatClampNeg ≤ x1.toNatClampNeg := by
  obtain ⟨j, hj, rfl⟩ := nI_of h0
  have hl : (Int32.ofNat len) = nI len := rfl
  rw [hl]
  by_cases h : nI j < nI len
  · have h2 := (nI_ltI hj (by omega)).mp h
    rw [if_pos h, nI_clamp hj]
    exact ⟨h0, by omega, Nat.le_refl _⟩
  · have h2 : ¬ j < len := fun q => h ((nI_ltI hj (by omega)).mpr q)
    rw [if_neg h, nI_clamp hj, nI_clamp (by omega)]
    exact ⟨nI_pos (by omega), Nat.le_refl _, by omega⟩
def rJ7_copyOf_59c91 : Room := { frames := 1, cells := 1, slots := 2048, locals := 40 }
theorem mJ7_copyOf_59c91_7 : Cond.arrayClass .int ∈ wsJ7_copyOf_59c91 := List.mem_of_getElem? (i := 7) rfl
theorem mJ7_copyOf_59c91_8 : Cond.methodLink RJ7 304 Lib.Math.min.name ∈ wsJ7_copyOf_59c91 := List.mem_of_getElem? (i := 8) rfl
theorem mJ7_copyOf_59c91_9 : Cond.static Lib.Math.min.name ∈ wsJ7_copyOf_59c91 := List.mem_of_getElem? (i := 9) rfl
theorem mJ7_copyOf_59c91_10 : Cond.initialized "java/lang/Math" ∈ wsJ7_copyOf_59c91 := List.mem_of_getElem? (i := 10) rfl
theorem mJ7_copyOf_59c91_11 : Cond.code Lib.Math.min.name Lib.Math.min.code 2 (some .int) ∈ wsJ7_copyOf_59c91 := List.mem_of_getElem? (i := 11) rfl
theorem mJ7_copyOf_59c91_12 : Cond.methodLink RJ7 150 arraycopyName ∈ wsJ7_copyOf_59c91 := List.mem_of_getElem? (i := 12) rfl
theorem mJ7_copyOf_59c91_13 : Cond.native arraycopyName ∈ wsJ7_copyOf_59c91 := List.mem_of_getElem? (i := 13) rfl
theorem mJ7_copyOf_59c91_14 : Cond.static arraycopyName ∈ wsJ7_copyOf_59c91 := List.mem_of_getElem? (i := 14) rfl
theorem mJ7_copyOf_59c91_15 : Cond.initialized "java/lang/System" ∈ wsJ7_copyOf_59c91 := List.mem_of_getElem? (i := 15) rfl
set_option maxHeartbeats 4000000 in
set_option maxRecDepth 100000 in
theorem ct_J7_copyOf_59c91 (l : Launch) (dC : Nat → ClassId) (dI : Nat → Nat → Nat) (cI cJ cZ : ClassId) (sz : Nat) (q len : Nat) (f : Nat → Int32) (x1 : Int32) (h0 : ¬ x1 < 0) (h1 : x1.toNatClampNeg ≤ 2048) (hne : ¬ x1 = Int32.ofNat len) (hlen : len ≤ 1024) : Met l yJ7_copyOf_59c91 wsJ7_copyOf_59c91 rJ7_copyOf_59c91 (Pm (dC, dI) (tyT cI cJ cZ) [(q, .inl (cI, len, .inl f))] sz [.ref q, .int x1]) (Qr (dC, dI) (fun q2 => [(q, .inl (cI, len, .inl f)), (q2, .inl (cI, x1.toNatClampNeg, .inl (growA f len x1)))]) (va_A [(q, .inl (cI, len, .inl f))] sz)) 1 2048 (va_A [(q, .inl (cI, len, .inl f))] sz) := by
  refine Met.ofW (cc := cJ7_copyOf_59c91) (maxL := 3) (ret := (some (.array .int))) (by decide) rfl ?_
  intro p e s m args below meth c s₁ B hml hv
  obtain ⟨hargs, hsz, hP, hK, hD0⟩ := hv
  have hx := B.exec
  have hb := B.bytes
  have hr := B.returns
  have hts := atoms_spec (ws := wsJ7_copyOf_59c91) B.pre
  have hown : s.vm.findClass RJ7 = some m.cls := findClass_of_methodNamed B.named
  have hlocks := B.notSynchronized
  subst hsz
  have hD := hD0.self (sz := s.heap.size)
  generalize hAe : va_A [(q, .inl (cI, len, .inl f))] s.heap.size = A at hD ⊢
  have hA : ∀ q : Nat, s.heap.size ≤ q → A q := fun q h => by rw [← hAe]; exact Or.inr h
  have hS : va_S A s.heap s.heap [] := va_S.rf
  have hl := lv_entry ([.ref q, .int x1]) (n := 3) (Nat.le_of_ble_eq_true rfl)
  refine W.eq (hargs ▸ lg_entry_eq m [.ref q, .int x1] 3) ?_
  generalize (lg_sl ([.ref q, .int x1]) ++ List.replicate (3 - (lg_sl ([.ref q, .int x1])).length) Slot.unset).toArray = ls at hl ⊢
  have hl : lv_has ls 3 [(0, .ref q), (1, .int x1)] := hl
  obtain ⟨hm1, hm2, hm3⟩ := gr_min h0 hlen
  have hm2z : 0 + (if x1 < Int32.ofNat len then x1 else Int32.ofNat len).toNatClampNeg ≤ len := by omega
  have hm3z : 0 + (if x1 < Int32.ofNat len then x1 else Int32.ofNat len).toNatClampNeg ≤ x1.toNatClampNeg := by omega
  refine lv_iload_n hx hb dJ7_copyOf_59c91_0 rfl (lv_at hl 1 rfl) ?_
  refine lv_aload_n hx hb dJ7_copyOf_59c91_1 rfl (lv_at hl 0 rfl) ?_
  refine va_alen hx hb hK hP 0 0 rfl rfl rfl dJ7_copyOf_59c91_2 ?_
  refine lv_icmp_ne (tgt := 14) hx hb dJ7_copyOf_59c91_3 (by decide) (fun _ => ?_) (fun hq => absurd hq hne)
  refine lv_iload_n hx hb dJ7_copyOf_59c91_14 rfl (lv_at hl 1 rfl) ?_
  refine va_newa (atype := .int) (ty := .int) (n := x1) (N' := x1.toNatClampNeg) (a0 := (x1.toNatClampNeg, .inl (fun _ => 0))) hx hb (hts _ mJ7_copyOf_59c91_7) rfl hK hP hD hS hA (fun _ => rfl) h0 rfl (show x1.toNatClampNeg * 4 ≤ 536870912 by omega) (Nat.le_of_ble_eq_true rfl) (show 0 + x1.toNatClampNeg ≤ 2048 by omega) dJ7_copyOf_59c91_15 (fun q2 cA H hK hP hD hS => ?_)
  have hcA : cI = cA := ra_one hK 0 3 rfl rfl
  subst hcA
  replace hK : va_K (dC, dI) vwCl (tyT cI cJ cZ) s := hK.sub [0, 1, 2] rfl
  replace hP : va_P (dC, dI) vwCl [(q, .inl (cI, len, .inl f)), (q2, .inl (cI, x1.toNatClampNeg, .inl (fun _ => 0)))] H := hP
  replace hD : va_D A [(q, .inl (cI, len, .inl f)), (q2, .inl (cI, x1.toNatClampNeg, .inl (fun _ => 0)))] := hD
  refine lv_astore_n (lv' := [(2, .ref q2), (0, .ref q), (1, .int x1)]) hx hb dJ7_copyOf_59c91_17 rfl hl (by decide) rfl (fun ls hl => ?_)
  refine lv_aload_n hx hb dJ7_copyOf_59c91_18 rfl (lv_at hl 1 rfl) ?_
  refine lv_iconst (v := (0 : Int32)) hx hb dJ7_copyOf_59c91_19 (by decide) ?_
  refine lv_aload_n hx hb dJ7_copyOf_59c91_20 rfl (lv_at hl 0 rfl) ?_
  refine lv_iconst (v := (0 : Int32)) hx hb dJ7_copyOf_59c91_21 (by decide) ?_
  refine lv_aload_n hx hb dJ7_copyOf_59c91_22 rfl (lv_at hl 1 rfl) ?_
  refine va_alen hx hb hK hP 0 0 rfl rfl rfl dJ7_copyOf_59c91_23 ?_
  refine lv_iload_n hx hb dJ7_copyOf_59c91_24 rfl (lv_at hl 2 rfl) ?_
  refine va_mmin hx hb (hml.trans hl.1.symm) hown (hts _ mJ7_copyOf_59c91_8) (hts _ mJ7_copyOf_59c91_9) (hts _ mJ7_copyOf_59c91_10) (hts _ mJ7_copyOf_59c91_11) (Nat.le_of_ble_eq_true rfl) (Nat.le_of_ble_eq_true rfl) (Nat.le_of_ble_eq_true rfl) (show 0 + x1.toNatClampNeg ≤ 2048 by omega) dJ7_copyOf_59c91_25 ?_
  refine va_copyi hx hb (hml.trans hl.1.symm) hown (hts _ mJ7_copyOf_59c91_12) (hts _ mJ7_copyOf_59c91_13) (hts _ mJ7_copyOf_59c91_14) (hts _ mJ7_copyOf_59c91_15) hK hP hD hS 0 1 0 0 rfl rfl rfl rfl rfl (by decide) (by decide) hm1 hm2z hm3z (fun _ _ => rfl) (Nat.le_of_ble_eq_true rfl) (Nat.le_of_ble_eq_true rfl) dJ7_copyOf_59c91_28 (fun H locs hP hD hS => ?_)
  replace hP : va_P (dC, dI) vwCl [(q, .inl (cI, len, .inl f)), (q2, .inl (cI, x1.toNatClampNeg, .inl (growA f len x1)))] H := hP
  replace hD : va_D A [(q, .inl (cI, len, .inl f)), (q2, .inl (cI, x1.toNatClampNeg, .inl (growA f len x1)))] := hD
  refine lv_aload_n hx hb dJ7_copyOf_59c91_31 rfl (lv_at hl 0 rfl) ?_
  refine W.widen (k := 1) (n := 2048) (Nat.le_of_ble_eq_true rfl) (show 0 + x1.toNatClampNeg ≤ 2048 by omega) ?_
  exact W.aret hx hb hr (Or.inr ⟨_, rfl⟩) (Or.inr ⟨_, rfl⟩) (fun t ht hW => ⟨q2, rfl, ⟨by rw [ht]; exact hP, hD⟩, hS.F ht⟩) hS.2.2 dJ7_copyOf_59c91_32
theorem kkX3_insertRun_X3 : ∀ w ∈ wsX30, w ∈ wsX3_insertRun := fun w h => (List.mem_cons_of_mem _ (List.mem_append_right _ h))
theorem mm_2 : Cond.fieldLink RX3 9 "SmokeLedger$Serials" "first" "[I" ∈ wsX3_insertRun := List.mem_of_getElem? (i := 2) rfl
theorem mm_1 : Cond.fieldLink RX3 21 "SmokeLedger$Serials" "size" "I" ∈ wsX3_insertRun := List.mem_of_getElem? (i := 1) rfl
theorem mm_3 : Cond.fieldLink RX3 15 "SmokeLedger$Serials" "owner" "[I" ∈ wsX3_insertRun := List.mem_of_getElem? (i := 3) rfl
theorem mm_4 : Cond.fieldLink RX3 18 "SmokeLedger$Serials" "row" "[I" ∈ wsX3_insertRun := List.mem_of_getElem? (i := 4) rfl
set_option maxHeartbeats 4000000 in
set_option maxRecDepth 100000 in
theorem x3_grow {p : Program} {l : Launch} {e : Env} {s : State} {m : MethodId} {args : Array Value} {below : List Frame} {meth : Method} {c : Code} {H : Heap} {locs : List Loc} {Q : State → Prop} {R : Room} {ls : Array Slot} {dC : Nat → ClassId} {dI : Nat → Nat → Nat} {a b : Nat → Nat} {cI cJ cZ : ClassId} {A : Nat → Prop} {LV : List (Nat × Value)} (hRf : rJ7_copyOf_59c91.frames + 1 ≤ R.frames) (hRl : 8 + (3 + 11) + rJ7_copyOf_59c91.locals ≤ R.locals) (hRc : 3 ≤ R.cells) (hRs : 6144 ≤ R.slots) (hx : p.tables.exec = Jvm.exec) (hb : c.code = cX3_insertRun) (hml : c.maxLocals = 6) (hown : s.vm.findClass RX3 = some m.cls) (hts : ∀ w ∈ wsX3_insertRun, w.before args s = true) (hK : va_K (dC, dI) vwCl (tyT cI cJ cZ) s) (hA : ∀ q : Nat, s.heap.size ≤ q → A q) (st : SS) (hg : growOk st = true) (hP : va_P (dC, dI) vwCl (WX3 a b cI cJ cZ st) H) (hD : va_D A (WX3 a b cI cJ cZ st)) (hS : va_S A s.heap H locs) (hl : lv_has ls 6 LV) (h0 : LV[0]? = some (0, .ref (a 24)))
    (kk : ∀ (b : Nat → Nat) (H : Heap) (locs : List Loc), va_P (dC, dI) vwCl (WX3 a b cI cJ cZ (SS_grow st)) H → va_D A (WX3 a b cI cJ cZ (SS_grow st)) → va_S A s.heap H locs → W p l e R s m args below meth c H locs 3 6144 Q (F0 m 63 ls [])) : W p l e R s m args below meth c H locs 0 0 Q (F0 m 12 ls []) := by
  obtain ⟨hg1, hg2, hg3, hg4⟩ := growOk_iff.mp hg
  replace hP : va_P (dC, dI) vwCl [((a 24), .inr (3, [.ref (b 0), .ref (b 1), .ref (b 2), .int (SS_size st), .int (SS_issued st)])), ((b 0), .inl (cI, SS_cap st, .inl (SS_first st))), ((b 1), .inl (cI, SS_cap st, .inl (SS_owner st))), ((b 2), .inl (cI, SS_cap st, .inl (SS_row st)))] H := hP
  replace hD : va_D A [((a 24), .inr (3, [.ref (b 0), .ref (b 1), .ref (b 2), .int (SS_size st), .int (SS_issued st)])), ((b 0), .inl (cI, SS_cap st, .inl (SS_first st))), ((b 1), .inl (cI, SS_cap st, .inl (SS_owner st))), ((b 2), .inl (cI, SS_cap st, .inl (SS_row st)))] := hD
  refine lv_aload_n hx hb dX3_insertRun_12 rfl (lv_at hl 0 h0) ?_
  refine lv_aload_n hx hb dX3_insertRun_13 rfl (lv_at hl 0 h0) ?_
  refine va_get (D := (dC, dI)) (ci := 3) (v := .ref (b 0)) (C := RX3) (T := TX3) (N := 5) hx hb hts kkX3_insertRun_X3 hown hK hP 0 rfl rfl 0 (by decide) (hts _ mm_2) (fun _ h9 => h9) rfl dX3_insertRun_14 ?_
  refine lv_aload_n hx hb dX3_insertRun_17 rfl (lv_at hl 0 h0) ?_
  refine va_get (D := (dC, dI)) (ci := 3) (v := .int (SS_size st)) (C := RX3) (T := TX3) (N := 5) hx hb hts kkX3_insertRun_X3 hown hK hP 0 rfl rfl 3 (by decide) (hts _ mm_1) (fun _ h9 => h9) rfl dX3_insertRun_18 ?_
  refine lv_iconst (v := (2 : Int32)) hx hb dX3_insertRun_21 (by decide) ?_
  refine lv_imul hx hb dX3_insertRun_22 ?_
  refine cmR (wr := [((a 24), .inr (3, [.ref (b 0), .ref (b 1), .ref (b 2), .int (SS_size st), .int (SS_issued st)])), ((b 1), .inl (cI, SS_cap st, .inl (SS_owner st))), ((b 2), .inl (cI, SS_cap st, .inl (SS_row st)))]) ⟨hx, hb, hml, hown, hts⟩ (ct_J7_copyOf_59c91 l dC dI cI cJ cZ H.size (b 0) (SS_cap st) (SS_first st) (SS_size st * (2 : Int32)) hg2 hg3 hg4 hg1) (va_cwS 2 hts gX3_insertRun_J7_copyOf_59c91 rfl rfl rfl (by decide +kernel) ⟨hRf, hRl⟩) hK hP hD hS hA [1] [0, 2, 3] rfl rfl (by decide) rfl (by decide) (by decide) rfl hl.1 rfl (Nat.le_of_ble_eq_true rfl) (show 0 + 1 ≤ _ by omega) (show 0 + 2048 ≤ _ by omega) dX3_insertRun_23 (fun n0 H locs hP hD hS => ?_)
  replace hP : va_P (dC, dI) vwCl [((a 24), .inr (3, [.ref (b 0), .ref (b 1), .ref (b 2), .int (SS_size st), .int (SS_issued st)])), ((b 1), .inl (cI, SS_cap st, .inl (SS_owner st))), ((b 2), .inl (cI, SS_cap st, .inl (SS_row st))), (n0, .inl (cI, (SS_size st * (2 : Int32)).toNatClampNeg, .inl (growA (SS_first st) (SS_cap st) (SS_size st * (2 : Int32)))))] H := hP.sub [0, 1, 2, 4] rfl
  replace hD : va_D A [((a 24), .inr (3, [.ref (b 0), .ref (b 1), .ref (b 2), .int (SS_size st), .int (SS_issued st)])), ((b 1), .inl (cI, SS_cap st, .inl (SS_owner st))), ((b 2), .inl (cI, SS_cap st, .inl (SS_row st))), (n0, .inl (cI, (SS_size st * (2 : Int32)).toNatClampNeg, .inl (growA (SS_first st) (SS_cap st) (SS_size st * (2 : Int32)))))] := hD.sub [0, 1, 2, 4] (by decide) rfl
  refine W.widen (k := 1) (n := 2048) (by omega) (by omega) ?_
  refine va_put (D := (dC, dI)) (ci := 3) (v := .ref n0) (ty := .array .int) (C := RX3) (T := TX3) (N := 5) hx hb hts kkX3_insertRun_X3 tyX3 tyX3_ok nmX3 hown hK hP hD hS 0 rfl rfl 0 (by decide) (hts _ mm_2) (fun _ h9 => h9) rfl (by decide +kernel) rfl rfl (Nat.le_of_ble_eq_true rfl) dX3_insertRun_26 (fun H locs hP hD hS => ?_)
  replace hP : va_P (dC, dI) vwCl [((a 24), .inr (3, [.ref n0, .ref (b 1), .ref (b 2), .int (SS_size st), .int (SS_issued st)])), ((b 1), .inl (cI, SS_cap st, .inl (SS_owner st))), ((b 2), .inl (cI, SS_cap st, .inl (SS_row st))), (n0, .inl (cI, (SS_size st * (2 : Int32)).toNatClampNeg, .inl (growA (SS_first st) (SS_cap st) (SS_size st * (2 : Int32)))))] H := hP
  replace hD : va_D A [((a 24), .inr (3, [.ref n0, .ref (b 1), .ref (b 2), .int (SS_size st), .int (SS_issued st)])), ((b 1), .inl (cI, SS_cap st, .inl (SS_owner st))), ((b 2), .inl (cI, SS_cap st, .inl (SS_row st))), (n0, .inl (cI, (SS_size st * (2 : Int32)).toNatClampNeg, .inl (growA (SS_first st) (SS_cap st) (SS_size st * (2 : Int32)))))] := hD
  refine lv_aload_n hx hb dX3_insertRun_29 rfl (lv_at hl 0 h0) ?_
  refine lv_aload_n hx hb dX3_insertRun_30 rfl (lv_at hl 0 h0) ?_
  refine va_get (D := (dC, dI)) (ci := 3) (v := .ref (b 1)) (C := RX3) (T := TX3) (N := 5) hx hb hts kkX3_insertRun_X3 hown hK hP 0 rfl rfl 1 (by decide) (hts _ mm_3) (fun _ h9 => h9) rfl dX3_insertRun_31 ?_
  refine lv_aload_n hx hb dX3_insertRun_34 rfl (lv_at hl 0 h0) ?_
  refine va_get (D := (dC, dI)) (ci := 3) (v := .int (SS_size st)) (C := RX3) (T := TX3) (N := 5) hx hb hts kkX3_insertRun_X3 hown hK hP 0 rfl rfl 3 (by decide) (hts _ mm_1) (fun _ h9 => h9) rfl dX3_insertRun_35 ?_
  refine lv_iconst (v := (2 : Int32)) hx hb dX3_insertRun_38 (by decide) ?_
  refine lv_imul hx hb dX3_insertRun_39 ?_
  refine cmR (wr := [((a 24), .inr (3, [.ref n0, .ref (b 1), .ref (b 2), .int (SS_size st), .int (SS_issued st)])), ((b 2), .inl (cI, SS_cap st, .inl (SS_row st))), (n0, .inl (cI, (SS_size st * (2 : Int32)).toNatClampNeg, .inl (growA (SS_first st) (SS_cap st) (SS_size st * (2 : Int32)))))]) ⟨hx, hb, hml, hown, hts⟩ (ct_J7_copyOf_59c91 l dC dI cI cJ cZ H.size (b 1) (SS_cap st) (SS_owner st) (SS_size st * (2 : Int32)) hg2 hg3 hg4 hg1) (va_cwS 2 hts gX3_insertRun_J7_copyOf_59c91 rfl rfl rfl (by decide +kernel) ⟨hRf, hRl⟩) hK hP hD hS hA [1] [0, 2, 3] rfl rfl (by decide) rfl (by decide) (by decide) rfl hl.1 rfl (Nat.le_of_ble_eq_true rfl) (show 1 + 1 ≤ _ by omega) (show 2048 + 2048 ≤ _ by omega) dX3_insertRun_40 (fun n1 H locs hP hD hS => ?_)
  replace hP : va_P (dC, dI) vwCl [((a 24), .inr (3, [.ref n0, .ref (b 1), .ref (b 2), .int (SS_size st), .int (SS_issued st)])), ((b 2), .inl (cI, SS_cap st, .inl (SS_row st))), (n0, .inl (cI, (SS_size st * (2 : Int32)).toNatClampNeg, .inl (growA (SS_first st) (SS_cap st) (SS_size st * (2 : Int32))))), (n1, .inl (cI, (SS_size st * (2 : Int32)).toNatClampNeg, .inl (growA (SS_owner st) (SS_cap st) (SS_size st * (2 : Int32)))))] H := hP.sub [0, 1, 2, 4] rfl
  replace hD : va_D A [((a 24), .inr (3, [.ref n0, .ref (b 1), .ref (b 2), .int (SS_size st), .int (SS_issued st)])), ((b 2), .inl (cI, SS_cap st, .inl (SS_row st))), (n0, .inl (cI, (SS_size st * (2 : Int32)).toNatClampNeg, .inl (growA (SS_first st) (SS_cap st) (SS_size st * (2 : Int32))))), (n1, .inl (cI, (SS_size st * (2 : Int32)).toNatClampNeg, .inl (growA (SS_owner st) (SS_cap st) (SS_size st * (2 : Int32)))))] := hD.sub [0, 1, 2, 4] (by decide) rfl
  refine W.widen (k := 2) (n := 4096) (by omega) (by omega) ?_
  refine va_put (D := (dC, dI)) (ci := 3) (v := .ref n1) (ty := .array .int) (C := RX3) (T := TX3) (N := 5) hx hb hts kkX3_insertRun_X3 tyX3 tyX3_ok nmX3 hown hK hP hD hS 0 rfl rfl 1 (by decide) (hts _ mm_3) (fun _ h9 => h9) rfl (by decide +kernel) rfl rfl (Nat.le_of_ble_eq_true rfl) dX3_insertRun_43 (fun H locs hP hD hS => ?_)
  replace hP : va_P (dC, dI) vwCl [((a 24), .inr (3, [.ref n0, .ref n1, .ref (b 2), .int (SS_size st), .int (SS_issued st)])), ((b 2), .inl (cI, SS_cap st, .inl (SS_row st))), (n0, .inl (cI, (SS_size st * (2 : Int32)).toNatClampNeg, .inl (growA (SS_first st) (SS_cap st) (SS_size st * (2 : Int32))))), (n1, .inl (cI, (SS_size st * (2 : Int32)).toNatClampNeg, .inl (growA (SS_owner st) (SS_cap st) (SS_size st * (2 : Int32)))))] H := hP
  replace hD : va_D A [((a 24), .inr (3, [.ref n0, .ref n1, .ref (b 2), .int (SS_size st), .int (SS_issued st)])), ((b 2), .inl (cI, SS_cap st, .inl (SS_row st))), (n0, .inl (cI, (SS_size st * (2 : Int32)).toNatClampNeg, .inl (growA (SS_first st) (SS_cap st) (SS_size st * (2 : Int32))))), (n1, .inl (cI, (SS_size st * (2 : Int32)).toNatClampNeg, .inl (growA (SS_owner st) (SS_cap st) (SS_size st * (2 : Int32)))))] := hD
  refine lv_aload_n hx hb dX3_insertRun_46 rfl (lv_at hl 0 h0) ?_
  refine lv_aload_n hx hb dX3_insertRun_47 rfl (lv_at hl 0 h0) ?_
  refine va_get (D := (dC, dI)) (ci := 3) (v := .ref (b 2)) (C := RX3) (T := TX3) (N := 5) hx hb hts kkX3_insertRun_X3 hown hK hP 0 rfl rfl 2 (by decide) (hts _ mm_4) (fun _ h9 => h9) rfl dX3_insertRun_48 ?_
  refine lv_aload_n hx hb dX3_insertRun_51 rfl (lv_at hl 0 h0) ?_
  refine va_get (D := (dC, dI)) (ci := 3) (v := .int (SS_size st)) (C := RX3) (T := TX3) (N := 5) hx hb hts kkX3_insertRun_X3 hown hK hP 0 rfl rfl 3 (by decide) (hts _ mm_1) (fun _ h9 => h9) rfl dX3_insertRun_52 ?_
  refine lv_iconst (v := (2 : Int32)) hx hb dX3_insertRun_55 (by decide) ?_
  refine lv_imul hx hb dX3_insertRun_56 ?_
  refine cmR (wr := [((a 24), .inr (3, [.ref n0, .ref n1, .ref (b 2), .int (SS_size st), .int (SS_issued st)])), (n0, .inl (cI, (SS_size st * (2 : Int32)).toNatClampNeg, .inl (growA (SS_first st) (SS_cap st) (SS_size st * (2 : Int32))))), (n1, .inl (cI, (SS_size st * (2 : Int32)).toNatClampNeg, .inl (growA (SS_owner st) (SS_cap st) (SS_size st * (2 : Int32)))))]) ⟨hx, hb, hml, hown, hts⟩ (ct_J7_copyOf_59c91 l dC dI cI cJ cZ H.size (b 2) (SS_cap st) (SS_row st) (SS_size st * (2 : Int32)) hg2 hg3 hg4 hg1) (va_cwS 2 hts gX3_insertRun_J7_copyOf_59c91 rfl rfl rfl (by decide +kernel) ⟨hRf, hRl⟩) hK hP hD hS hA [1] [0, 2, 3] rfl rfl (by decide) rfl (by decide) (by decide) rfl hl.1 rfl (Nat.le_of_ble_eq_true rfl) (show 2 + 1 ≤ _ by omega) (show 4096 + 2048 ≤ _ by omega) dX3_insertRun_57 (fun n2 H locs hP hD hS => ?_)
  replace hP : va_P (dC, dI) vwCl [((a 24), .inr (3, [.ref n0, .ref n1, .ref (b 2), .int (SS_size st), .int (SS_issued st)])), (n0, .inl (cI, (SS_size st * (2 : Int32)).toNatClampNeg, .inl (growA (SS_first st) (SS_cap st) (SS_size st * (2 : Int32))))), (n1, .inl (cI, (SS_size st * (2 : Int32)).toNatClampNeg, .inl (growA (SS_owner st) (SS_cap st) (SS_size st * (2 : Int32))))), (n2, .inl (cI, (SS_size st * (2 : Int32)).toNatClampNeg, .inl (growA (SS_row st) (SS_cap st) (SS_size st * (2 : Int32)))))] H := hP.sub [0, 1, 2, 4] rfl
  replace hD : va_D A [((a 24), .inr (3, [.ref n0, .ref n1, .ref (b 2), .int (SS_size st), .int (SS_issued st)])), (n0, .inl (cI, (SS_size st * (2 : Int32)).toNatClampNeg, .inl (growA (SS_first st) (SS_cap st) (SS_size st * (2 : Int32))))), (n1, .inl (cI, (SS_size st * (2 : Int32)).toNatClampNeg, .inl (growA (SS_owner st) (SS_cap st) (SS_size st * (2 : Int32))))), (n2, .inl (cI, (SS_size st * (2 : Int32)).toNatClampNeg, .inl (growA (SS_row st) (SS_cap st) (SS_size st * (2 : Int32)))))] := hD.sub [0, 1, 2, 4] (by decide) rfl
  refine W.widen (k := 3) (n := 6144) (by omega) (by omega) ?_
  refine va_put (D := (dC, dI)) (ci := 3) (v := .ref n2) (ty := .array .int) (C := RX3) (T := TX3) (N := 5) hx hb hts kkX3_insertRun_X3 tyX3 tyX3_ok nmX3 hown hK hP hD hS 0 rfl rfl 2 (by decide) (hts _ mm_4) (fun _ h9 => h9) rfl (by decide +kernel) rfl rfl (Nat.le_of_ble_eq_true rfl) dX3_insertRun_60 (fun H locs hP hD hS => ?_)
  replace hP : va_P (dC, dI) vwCl [((a 24), .inr (3, [.ref n0, .ref n1, .ref n2, .int (SS_size st), .int (SS_issued st)])), (n0, .inl (cI, (SS_size st * (2 : Int32)).toNatClampNeg, .inl (growA (SS_first st) (SS_cap st) (SS_size st * (2 : Int32))))), (n1, .inl (cI, (SS_size st * (2 : Int32)).toNatClampNeg, .inl (growA (SS_owner st) (SS_cap st) (SS_size st * (2 : Int32))))), (n2, .inl (cI, (SS_size st * (2 : Int32)).toNatClampNeg, .inl (growA (SS_row st) (SS_cap st) (SS_size st * (2 : Int32)))))] H := hP
  replace hD : va_D A [((a 24), .inr (3, [.ref n0, .ref n1, .ref n2, .int (SS_size st), .int (SS_issued st)])), (n0, .inl (cI, (SS_size st * (2 : Int32)).toNatClampNeg, .inl (growA (SS_first st) (SS_cap st) (SS_size st * (2 : Int32))))), (n1, .inl (cI, (SS_size st * (2 : Int32)).toNatClampNeg, .inl (growA (SS_owner st) (SS_cap st) (SS_size st * (2 : Int32))))), (n2, .inl (cI, (SS_size st * (2 : Int32)).toNatClampNeg, .inl (growA (SS_row st) (SS_cap st) (SS_size st * (2 : Int32)))))] := hD
  exact kk (fun k => ([n0, n1, n2] : List Nat).getD k 0) H locs hP hD hS
