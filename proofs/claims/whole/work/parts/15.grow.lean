/-! the runs' arrays grow -/
theorem growOk_iff {st : SS} : growOk st = true ↔ SS_cap st ≤ 1024 ∧ ¬ (SS_size st * (2 : Int32)) < 0 ∧ (SS_size st * (2 : Int32)).toNatClampNeg ≤ 2048 ∧ ¬ (SS_size st * (2 : Int32)) = Int32.ofNat (SS_cap st) := by
  simp only [growOk, Bool.and_eq_true, decide_eq_true_eq, and_assoc]
section GROW
variable {p : Program} {l : Launch} {e : Env} {s : State} {m : MethodId} {args : Array Value} {below : List Frame} {meth : Method} {c : Code} {H : Heap} {locs : List Loc} {Q : State → Prop} {R : Room}
theorem x3_grow {ls : Array Slot} {dC : Nat → ClassId} {dI : Nat → Nat → Nat} {a b : Nat → Nat} {cI cJ cZ : ClassId} {A : Nat → Prop} {LV : List (Nat × Value)} (hx : p.tables.exec = Jvm.exec) (hb : c.code = cX3_insertRun) (hml : c.maxLocals = 6) (hown : s.vm.findClass RX3 = some m.cls) (hts : ∀ w ∈ wsX3_insertRun, w.before args s = true) (hK : va_K (dC, dI) vwCl (tyT cI cJ cZ) s) (hA : ∀ q : Nat, s.heap.size ≤ q → A q) (st : SS) (hg : growOk st = true) (hP : va_P (dC, dI) vwCl (WX3 a b cI cJ cZ st) H) (hD : va_D A (WX3 a b cI cJ cZ st)) (hS : va_S A s.heap H locs) (hl : lv_has ls 6 LV) (h0 : LV[0]? = some (0, .ref (a 24)))
    (kk : ∀ (b : Nat → Nat) (H : Heap) (locs : List Loc), va_P (dC, dI) vwCl (WX3 a b cI cJ cZ (SS_grow st)) H → va_D A (WX3 a b cI cJ cZ (SS_grow st)) → va_S A s.heap H locs → W p l e R s m args below meth c H locs 3 6144 Q (F0 m 63 ls [])) : W p l e R s m args below meth c H locs 0 0 Q (F0 m 12 ls []) := by
  sorry
end GROW
