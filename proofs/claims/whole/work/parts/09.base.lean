/-! generic rows: loops as functions, checks, calls -/
def fuelN : Nat := 100000
def loopN {σ ρ : Type} (body : σ → Option (σ ⊕ ρ)) : Nat → σ → Option ρ
  | 0, _ => none
  | n + 1, s => (body s).bind (fun x => Sum.elim (fun s' => loopN body n s') (fun r => some r) x)
theorem bind_s {α β : Type} {o : Option α} {f : α → Option β} {b : β} (h : o.bind f = some b) : ∃ a, o = some a ∧ f a = some b := by
  cases o with
  | none => cases h
  | some a => exact ⟨a, rfl, h⟩
theorem loop_ind {σ ρ : Type} {body : σ → Option (σ ⊕ ρ)} {P : σ → Prop} {Q : ρ → Prop}
    (hb : ∀ s x, body s = some x → (∀ s', x = .inl s' → P s') → (∀ r, x = .inr r → Q r) → P s) :
    ∀ n s r, loopN body n s = some r → Q r → P s := by
  intro n
  induction n with
  | zero => intro s r h; cases h
  | succ n ih =>
    intro s r h hq
    obtain ⟨x, hx, h⟩ := bind_s h
    refine hb s x hx (fun s' e => ?_) (fun r' e => ?_)
    · subst e; exact ih s' r h hq
    · subst e; cases h; exact hq
theorem it_p {α : Type} {c : Prop} {d : Decidable c} {a b x : α} (h : c) (hf : (@ite α c d a b) = x) : a = x := by rw [if_pos h] at hf; exact hf
theorem it_n {α : Type} {c : Prop} {d : Decidable c} {a b x : α} (h : ¬ c) (hf : (@ite α c d a b) = x) : b = x := by rw [if_neg h] at hf; exact hf
theorem it_s {α : Type} {c : Prop} {d : Decidable c} {a : Option α} {x : α} (hf : (@ite (Option α) c d a none) = some x) : c ∧ a = some x := by
  by_cases h : c
  · exact ⟨h, it_p h hf⟩
  · have := it_n h hf; cases this
theorem it_z {α : Type} {c : Prop} {d : Decidable c} {a : Option α} {x : α} (hf : (@ite (Option α) c d none a) = some x) : ¬ c ∧ a = some x := by
  by_cases h : c
  · have := it_p h hf; cases this
  · exact ⟨h, it_n h hf⟩
def inb (i : Int32) (n : Nat) : Bool := decide (0 ≤ i.toInt) && decide (i.toInt < (n : Int))
theorem inb_iff {i : Int32} {n : Nat} : inb i n = true ↔ 0 ≤ i.toInt ∧ i.toInt < (n : Int) := by simp [inb]
theorem inb_in {i : Int32} {n : Nat} (h : inb i n = true) : vp_in i n := vp_in_iff.mpr (inb_iff.mp h)
def isB (v : Int32) : Bool := decide (v = 0) || decide (v = 1)
theorem isB_iff {v : Int32} : isB v = true ↔ v = 0 ∨ v = 1 := by simp [isB]
theorem isB_nar {v : Int32} (h : isB v = true) : narrow .boolean (.int v) = .int v := by
  rcases isB_iff.mp h with rfl | rfl <;> rfl
theorem isB_fit {v : Int32} (h : isB v = true) : fits .boolean (.int v) = true := by
  rcases isB_iff.mp h with rfl | rfl <;> rfl
def okc (sp dp n : Int32) (n0 n1 : Nat) : Bool := decide (¬ sp < 0) && decide (¬ dp < 0) && decide (¬ n < 0) && decide (sp.toNatClampNeg + n.toNatClampNeg ≤ n0) && decide (dp.toNatClampNeg + n.toNatClampNeg ≤ n1)
theorem okc_iff {sp dp n : Int32} {n0 n1 : Nat} : okc sp dp n n0 n1 = true ↔ ¬ sp < 0 ∧ ¬ dp < 0 ∧ ¬ n < 0 ∧ sp.toNatClampNeg + n.toNatClampNeg ≤ n0 ∧ dp.toNatClampNeg + n.toNatClampNeg ≤ n1 := by
  simp only [okc, Bool.and_eq_true, decide_eq_true_eq, and_assoc]
/-- contracts of methods that change nothing: what they answer -/
def Pp (D : va_G) (tys : List (ClassId × FieldType)) (wc : va_W) (av : List Value) : Array Value → State → Prop := va_Pc av (fun U => va_P D vwCl wc U.heap ∧ va_K D vwCl tys U)
def Qp (v : Value) : Array Value → State → Outcome → State → Prop := fun _ st oc t => oc = .returned (some v) ∧ t.heap = st.heap
/-- contracts of methods that change their world -/
def Pm (D : va_G) (tys : List (ClassId × FieldType)) (wc : va_W) (sz : Nat) (av : List Value) : Array Value → State → Prop := va_Pc av (fun U => U.heap.size = sz ∧ va_P D vwCl wc U.heap ∧ va_K D vwCl tys U ∧ va_D (fun _ => True) wc)
def Qm (D : va_G) (v : Option Value) (w1 : va_W) (A : Nat → Prop) : Array Value → State → Outcome → State → Prop := fun _ st oc t => oc = .returned v ∧ (va_P D vwCl w1 t.heap ∧ va_D A w1) ∧ va_F A st t
/-- the same, with addresses that the method chose -/
def Qe (D : va_G) (v : Option Value) (w1 : (Nat → Nat) → va_W) (A : Nat → Prop) : Array Value → State → Outcome → State → Prop := fun _ st oc t => oc = .returned v ∧ (∃ b : Nat → Nat, va_P D vwCl (w1 b) t.heap ∧ va_D A (w1 b)) ∧ va_F A st t
theorem Pp_blind {D : va_G} {tys : List (ClassId × FieldType)} {wc : va_W} {av : List Value} : FrameBlind (Pp D tys wc av) := fun a U g mk q => ⟨q.1, q.2.1, va_K.moved (u := U) (U := U.calling g mk a) (Vm.Alike.refl U.vm) q.2.2⟩
theorem Pm_blind {D : va_G} {tys : List (ClassId × FieldType)} {wc : va_W} {sz : Nat} {av : List Value} : FrameBlind (Pm D tys wc sz av) := fun a U g mk q => ⟨q.1, q.2.1, q.2.2.1, va_K.moved (u := U) (U := U.calling g mk a) (Vm.Alike.refl U.vm) q.2.2.2.1, q.2.2.2.2⟩
section GC
variable {p : Program} {l : Launch} {e : Env} {R : Room} {s : State} {m : MethodId} {args : Array Value} {below : List Frame} {meth : Method} {c : Code} {H : Heap} {locs : List Loc} {cells slots : Nat} {Q : State → Prop}
variable {y : MethodName} {bytes cc : ByteArray} {maxL nL mc ms n index : Nat} {ret : Option FieldType} {ws : List Cond} {rm : Room} {Ts : List Cond} {own C : String} {b : Nat} {As rest st0 : List Value} {pc : Nat} {ls : Array Slot} {D : va_G} {tys : List (ClassId × FieldType)} {w wc wr w1 : va_W} {A0 : Nat → Prop} {H0 : Heap} {v : Value} {vo : Option Value} {w1e : (Nat → Nat) → va_W}
theorem pure_end (hr : va_Run p l e R s m args below meth c H locs cells slots 0 0 (F0 m pc ls st0) rest (Qp v As.toArray) (fun _ => False)) (kk : W p l e R s m args below meth c H locs cells slots Q (F0 m (pc + 3) ls (v :: rest))) : W p l e R s m args below meth c H locs cells slots Q (F0 m pc ls st0) := by
  intro T hT X
  obtain ⟨v', st₀, t, T', L, h0, X', hL, e1, e2, ⟨hv, hh⟩, st⟩ := hr T hT X
  have hn : L = [] := by
    cases L with
    | nil => rfl
    | cons a L => exact (hL a List.mem_cons_self).elim
  subst hn
  cases hv
  rw [List.append_nil] at X'
  obtain ⟨t2, a1, b1⟩ := kk T' (by rw [e1, hh, h0]) X'
  exact ⟨t2, st t2 a1, b1⟩
/-- a call that changes nothing: of a method of an object -/
theorem cpV (S : CallFix p m c cc nL s args Ts own) (hM : Met l y ws rm (Pp D tys wc (.ref b :: As)) (Qp v) 0 0 (fun _ => False)) (cw : CallW R s args own C index y bytes maxL ret ws rm 0 0 n) (hK : va_K D vwCl tys s) (hP : va_P D vwCl w H) (is : List Nat) (hs : is.filterMap (fun i => w[i]?) = wc) {ci N : Nat} {T : u_T} {fs : List Value} (hc : vwCl[ci]? = some (C, T, N)) (he : wc[0]? = some (b, .inr (ci, fs)))
    (hn : As.length = n) (hsize : ls.size = nL) (hst : st0 = As.reverse ++ .ref b :: rest) (hW : (rest.map fun v => v.category).sum ≤ 8) (hce : cells ≤ R.cells) (hsl : slots ≤ R.slots) (hdg : decode cc pc = .ok (.invokevirtual index, 3))
    (kk : W p l e R s m args below meth c H locs cells slots Q (F0 m (pc + 3) ls (v :: rest))) : W p l e R s m args below meth c H locs cells slots Q (F0 m pc ls st0) :=
  pure_end (As := .ref b :: As) (va_runV (g := F0 m pc ls st0) (rest := rest) (locs := locs) S hM cw ⟨Pp_blind, va_recv hK (hP.sub is hs) hc he, fun U hU hW => ⟨rfl, by rw [hU]; exact hP.sub is hs, va_K.moved hW.alike hK⟩⟩ rfl hn hsize hst (lv_room hW) hdg ⟨hce, hsl⟩) kk
/-- of a static method -/
theorem cpS (S : CallFix p m c cc nL s args Ts own) (hM : Met l y ws rm (Pp D tys wc As) (Qp v) 0 0 (fun _ => False)) (cw : CallB R s args own index y bytes maxL ret ws rm 0 0 n ∧ (Cond.static y).before args s = true) (hK : va_K D vwCl tys s) (hP : va_P D vwCl w H) (is : List Nat) (hs : is.filterMap (fun i => w[i]?) = wc)
    (hn : As.length = n) (hsize : ls.size = nL) (hst : st0 = As.reverse ++ rest) (hW : (rest.map fun v => v.category).sum ≤ 8) (hce : cells ≤ R.cells) (hsl : slots ≤ R.slots) (hdg : decode cc pc = .ok (.invokestatic index, 3))
    (kk : W p l e R s m args below meth c H locs cells slots Q (F0 m (pc + 3) ls (v :: rest))) : W p l e R s m args below meth c H locs cells slots Q (F0 m pc ls st0) :=
  pure_end (As := As) (va_runS (g := F0 m pc ls st0) (rest := rest) (locs := locs) S hM cw ⟨Pp_blind, fun U hU hW => ⟨rfl, by rw [hU]; exact hP.sub is hs, va_K.moved hW.alike hK⟩⟩ rfl hn hsize hst (lv_room hW) hdg ⟨hce, hsl⟩) kk
theorem mut_end (hr : va_Run p l e R s m args below meth c H locs cells slots mc ms (F0 m pc ls st0) rest (Qe D vo w1e (va_A wc H.size) As.toArray) (va_A wc H.size)) (hP : va_P D vwCl w H) (hD : va_D A0 w) (hS : va_S A0 H0 H locs) (hA : ∀ q, H0.size ≤ q → A0 q) (isC isR : List Nat) (hC : isC.map (fun i => w[i]?) = wc.map some) (hR : isR.map (fun i => w[i]?) = wr.map some) (hnd : va_nd isR = true) (hdis : ∀ i ∈ isR, i ∉ isC)
    (kk : ∀ (b : Nat → Nat) (H1 : Heap) (locs1 : List Loc), va_P D vwCl (wr ++ w1e b) H1 → va_D A0 (wr ++ w1e b) → va_S A0 H0 H1 locs1 → W p l e R s m args below meth c H1 locs1 (cells + mc) (slots + ms) Q (F0 m (pc + 3) ls (vo.toList ++ rest))) : W p l e R s m args below meth c H locs cells slots Q (F0 m pc ls st0) := by
  have hFc := va_free (wc := wc) hD hS hA isC hC
  intro T hT X
  obtain ⟨v', st₀, t, T', L, h0, X', hL, e1, e2, ⟨hv, ⟨b1, hP1, hD1⟩, hz, hk⟩, st⟩ := hr T hT X
  cases hv
  rw [h0] at hz hk
  rw [← e1] at hP1 hz hk
  obtain ⟨hP2, hD2⟩ := va_join (wr := wr) hP hD isC isR hC hR hnd hdis hk hFc hP1 hD1
  obtain ⟨t2, a1, b1⟩ := kk b1 T'.heap (locs ++ L) hP2 hD2 ⟨Nat.le_trans hS.1 hz, fun q h1 h2 => by rw [hk q (Nat.lt_of_lt_of_le h1 hS.1) (fun z => h2 (hFc q z))]; exact hS.2.1 q h1 h2, fun q hq => by
      rcases List.mem_append.mp hq with h | h
      · exact hS.2.2 q h
      · exact hFc _ (hL q h)⟩ T' rfl X'
  exact ⟨t2, st t2 a1, b1⟩
theorem Qm_e {A : Nat → Prop} {a : Array Value} {s t : State} {o : Outcome} (h : Qm D vo w1 A a s o t) : Qe D vo (fun _ => w1) A a s o t := ⟨h.1, ⟨fun _ => 0, h.2.1⟩, h.2.2⟩
theorem run_e {A : Nat → Prop} {free : Addr → Prop} {g : JFrame} {a : Array Value} (hr : va_Run p l e R s m args below meth c H locs cells slots mc ms g rest (Qm D vo w1 A a) free) : va_Run p l e R s m args below meth c H locs cells slots mc ms g rest (Qe D vo (fun _ => w1) A a) free := by
  intro T hT X
  obtain ⟨v', st₀, t, T', L, h0, X', hL, e1, e2, hq, st⟩ := hr T hT X
  exact ⟨v', st₀, t, T', L, h0, X', hL, e1, e2, Qm_e hq, st⟩
/-- a call that changes its world: of a method of an object -/
theorem cmV (S : CallFix p m c cc nL s args Ts own) (hM : Met l y ws rm (Pm D tys wc H.size (.ref b :: As)) (Qm D vo w1 (va_A wc H.size)) mc ms (va_A wc H.size)) (cw : CallW R s args own C index y bytes maxL ret ws rm mc ms n) (hK : va_K D vwCl tys s) (hP : va_P D vwCl w H) (hD : va_D A0 w) (hS : va_S A0 H0 H locs) (hA : ∀ q, H0.size ≤ q → A0 q) (isC isR : List Nat) (hC : isC.map (fun i => w[i]?) = wc.map some) (hs : isC.filterMap (fun i => w[i]?) = wc) (hndC : va_nd isC = true) (hR : isR.map (fun i => w[i]?) = wr.map some) (hnd : va_nd isR = true) (hdis : ∀ i ∈ isR, i ∉ isC) {ci N : Nat} {T : u_T} {fs : List Value} (hc : vwCl[ci]? = some (C, T, N)) (he : wc[0]? = some (b, .inr (ci, fs)))
    (hn : As.length = n) (hsize : ls.size = nL) (hst : st0 = As.reverse ++ .ref b :: rest) (hW : (rest.map fun v => v.category).sum ≤ 8) (hce : cells + mc ≤ R.cells) (hsl : slots + ms ≤ R.slots) (hdg : decode cc pc = .ok (.invokevirtual index, 3))
    (kk : ∀ (H1 : Heap) (locs1 : List Loc), va_P D vwCl (wr ++ w1) H1 → va_D A0 (wr ++ w1) → va_S A0 H0 H1 locs1 → W p l e R s m args below meth c H1 locs1 (cells + mc) (slots + ms) Q (F0 m (pc + 3) ls (vo.toList ++ rest))) : W p l e R s m args below meth c H locs cells slots Q (F0 m pc ls st0) :=
  mut_end (As := .ref b :: As) (run_e (va_runV (g := F0 m pc ls st0) (rest := rest) (locs := locs) S hM cw ⟨Pm_blind, va_recv hK (hP.sub isC hs) hc he, fun U hU hW => ⟨rfl, by rw [hU], by rw [hU]; exact hP.sub isC hs, va_K.moved hW.alike hK, (hD.sub isC hndC hC).weaken (fun _ _ _ _ => trivial)⟩⟩ rfl hn hsize hst (lv_room hW) hdg ⟨hce, hsl⟩)) hP hD hS hA isC isR hC hR hnd hdis (fun _ => kk)
theorem cmE (S : CallFix p m c cc nL s args Ts own) (hM : Met l y ws rm (Pm D tys wc H.size (.ref b :: As)) (Qe D vo w1e (va_A wc H.size)) mc ms (va_A wc H.size)) (cw : CallW R s args own C index y bytes maxL ret ws rm mc ms n) (hK : va_K D vwCl tys s) (hP : va_P D vwCl w H) (hD : va_D A0 w) (hS : va_S A0 H0 H locs) (hA : ∀ q, H0.size ≤ q → A0 q) (isC isR : List Nat) (hC : isC.map (fun i => w[i]?) = wc.map some) (hs : isC.filterMap (fun i => w[i]?) = wc) (hndC : va_nd isC = true) (hR : isR.map (fun i => w[i]?) = wr.map some) (hnd : va_nd isR = true) (hdis : ∀ i ∈ isR, i ∉ isC) {ci N : Nat} {T : u_T} {fs : List Value} (hc : vwCl[ci]? = some (C, T, N)) (he : wc[0]? = some (b, .inr (ci, fs)))
    (hn : As.length = n) (hsize : ls.size = nL) (hst : st0 = As.reverse ++ .ref b :: rest) (hW : (rest.map fun v => v.category).sum ≤ 8) (hce : cells + mc ≤ R.cells) (hsl : slots + ms ≤ R.slots) (hdg : decode cc pc = .ok (.invokevirtual index, 3))
    (kk : ∀ (b : Nat → Nat) (H1 : Heap) (locs1 : List Loc), va_P D vwCl (wr ++ w1e b) H1 → va_D A0 (wr ++ w1e b) → va_S A0 H0 H1 locs1 → W p l e R s m args below meth c H1 locs1 (cells + mc) (slots + ms) Q (F0 m (pc + 3) ls (vo.toList ++ rest))) : W p l e R s m args below meth c H locs cells slots Q (F0 m pc ls st0) :=
  mut_end (As := .ref b :: As) (va_runV (g := F0 m pc ls st0) (rest := rest) (locs := locs) S hM cw ⟨Pm_blind, va_recv hK (hP.sub isC hs) hc he, fun U hU hW => ⟨rfl, by rw [hU], by rw [hU]; exact hP.sub isC hs, va_K.moved hW.alike hK, (hD.sub isC hndC hC).weaken (fun _ _ _ _ => trivial)⟩⟩ rfl hn hsize hst (lv_room hW) hdg ⟨hce, hsl⟩) hP hD hS hA isC isR hC hR hnd hdis kk
/-- of a static method -/
theorem cmS (S : CallFix p m c cc nL s args Ts own) (hM : Met l y ws rm (Pm D tys wc H.size As) (Qm D vo w1 (va_A wc H.size)) mc ms (va_A wc H.size)) (cw : CallB R s args own index y bytes maxL ret ws rm mc ms n ∧ (Cond.static y).before args s = true) (hK : va_K D vwCl tys s) (hP : va_P D vwCl w H) (hD : va_D A0 w) (hS : va_S A0 H0 H locs) (hA : ∀ q, H0.size ≤ q → A0 q) (isC isR : List Nat) (hC : isC.map (fun i => w[i]?) = wc.map some) (hs : isC.filterMap (fun i => w[i]?) = wc) (hndC : va_nd isC = true) (hR : isR.map (fun i => w[i]?) = wr.map some) (hnd : va_nd isR = true) (hdis : ∀ i ∈ isR, i ∉ isC)
    (hn : As.length = n) (hsize : ls.size = nL) (hst : st0 = As.reverse ++ rest) (hW : (rest.map fun v => v.category).sum ≤ 8) (hce : cells + mc ≤ R.cells) (hsl : slots + ms ≤ R.slots) (hdg : decode cc pc = .ok (.invokestatic index, 3))
    (kk : ∀ (H1 : Heap) (locs1 : List Loc), va_P D vwCl (wr ++ w1) H1 → va_D A0 (wr ++ w1) → va_S A0 H0 H1 locs1 → W p l e R s m args below meth c H1 locs1 (cells + mc) (slots + ms) Q (F0 m (pc + 3) ls (vo.toList ++ rest))) : W p l e R s m args below meth c H locs cells slots Q (F0 m pc ls st0) :=
  mut_end (As := As) (run_e (va_runS (g := F0 m pc ls st0) (rest := rest) (locs := locs) S hM cw ⟨Pm_blind, fun U hU hW => ⟨rfl, by rw [hU], by rw [hU]; exact hP.sub isC hs, va_K.moved hW.alike hK, (hD.sub isC hndC hC).weaken (fun _ _ _ _ => trivial)⟩⟩ rfl hn hsize hst (lv_room hW) hdg ⟨hce, hsl⟩)) hP hD hS hA isC isR hC hR hnd hdis (fun _ => kk)
/-- of a constructor -/
theorem cmI (S : CallFix p m c cc nL s args Ts own) (hM : Met l y ws rm (Pm D tys wc H.size (.ref b :: As)) (Qe D none w1e (va_A wc H.size)) mc ms (va_A wc H.size)) (cw : CallB R s args own index y bytes maxL none ws rm mc ms n ∧ y.name = "<init>" ∧ (Cond.instanceMethod y).before args s = true) (hK : va_K D vwCl tys s) (hP : va_P D vwCl w H) (hD : va_D A0 w) (hS : va_S A0 H0 H locs) (hA : ∀ q, H0.size ≤ q → A0 q) (isC isR : List Nat) (hC : isC.map (fun i => w[i]?) = wc.map some) (hs : isC.filterMap (fun i => w[i]?) = wc) (hndC : va_nd isC = true) (hR : isR.map (fun i => w[i]?) = wr.map some) (hnd : va_nd isR = true) (hdis : ∀ i ∈ isR, i ∉ isC)
    (hn : As.length = n) (hsize : ls.size = nL) (hst : st0 = As.reverse ++ .ref b :: rest) (hW : (rest.map fun v => v.category).sum ≤ 8) (hce : cells + mc ≤ R.cells) (hsl : slots + ms ≤ R.slots) (hdg : decode cc pc = .ok (.invokespecial index, 3))
    (kk : ∀ (b : Nat → Nat) (H1 : Heap) (locs1 : List Loc), va_P D vwCl (wr ++ w1e b) H1 → va_D A0 (wr ++ w1e b) → va_S A0 H0 H1 locs1 → W p l e R s m args below meth c H1 locs1 (cells + mc) (slots + ms) Q (F0 m (pc + 3) ls rest)) : W p l e R s m args below meth c H locs cells slots Q (F0 m pc ls st0) :=
  mut_end (As := .ref b :: As) (va_runI (g := F0 m pc ls st0) (rest := rest) (locs := locs) S hM cw ⟨Pm_blind, fun U hU hW => ⟨rfl, by rw [hU], by rw [hU]; exact hP.sub isC hs, va_K.moved hW.alike hK, (hD.sub isC hndC hC).weaken (fun _ _ _ _ => trivial)⟩⟩ rfl hn hsize hst (lv_room hW) hdg ⟨hce, hsl⟩) hP hD hS hA isC isR hC hR hnd hdis kk
end GC
/-- array classes of numbers are one each -/
theorem ra_one {D : va_G} {cl : List vw_C} {tys : List (ClassId × FieldType)} {U : State} (hK : va_K D cl tys U) (i j : Nat) {c1 c2 : ClassId} (h1 : tys[i]? = some (c1, .int)) (h2 : tys[j]? = some (c2, .int)) : c1 = c2 := by
  have a := (hK.2 i _ h1).2
  have b := (hK.2 j _ h2).2
  exact Option.some.inj (a.symm.trans b)
theorem ra_oneJ {D : va_G} {cl : List vw_C} {tys : List (ClassId × FieldType)} {U : State} (hK : va_K D cl tys U) (i j : Nat) {c1 c2 : ClassId} (h1 : tys[i]? = some (c1, .long)) (h2 : tys[j]? = some (c2, .long)) : c1 = c2 := by
  have a := (hK.2 i _ h1).2
  have b := (hK.2 j _ h2).2
  exact Option.some.inj (a.symm.trans b)
theorem ra_oneZ {D : va_G} {cl : List vw_C} {tys : List (ClassId × FieldType)} {U : State} (hK : va_K D cl tys U) (i j : Nat) {c1 c2 : ClassId} (h1 : tys[i]? = some (c1, .boolean)) (h2 : tys[j]? = some (c2, .boolean)) : c1 = c2 := by
  have a := (hK.2 i _ h1).2
  have b := (hK.2 j _ h2).2
  exact Option.some.inj (a.symm.trans b)
