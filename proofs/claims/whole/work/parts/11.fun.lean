def bnd {α β : Type} (x : α) (f : α → β) : β := f x
/-! what each method does, as a function: by program out of the bytecode -/
def fX0_add (st : FS) (x1 : Int32) (x2 : Int32) (x3 : Int32) (x4 : Int32) : Option (Int32 × FS) :=
  (if (FS_size st) < (80 : Int32) then (if inb (FS_size st) 80 = true then (if inb (FS_size st) 80 = true then (if inb (FS_size st) 80 = true then (if inb (FS_size st) 80 = true then some ((((FS_size st) + (1 : Int32)) - (1 : Int32)), (FS_size_s (FS_high_s (FS_low_s (FS_year_s (FS_kind_s st (upd (FS_kind st) ((FS_size st)).toNatClampNeg x1)) (upd (FS_year st) ((FS_size st)).toNatClampNeg x2)) (upd (FS_low st) ((FS_size st)).toNatClampNeg x3)) (upd (FS_high st) ((FS_size st)).toNatClampNeg x4)) ((FS_size st) + (1 : Int32)))) else none) else none) else none) else none) else some ((-4 : Int32), st))
def fX0_versionFor_b82 (st : FS) (x1 : Int32) (x2 : Int32) (x4 : Int32) (x5 : Int32) (x6 : Int32) : Option ((Int32 × Int32) ⊕ (Int32 × Int32)) :=
  some (.inl (x5, (x6 + (1 : Int32))))
def fX0_versionFor_b78 (st : FS) (x1 : Int32) (x2 : Int32) (x4 : Int32) (x6 : Int32) : Option ((Int32 × Int32) ⊕ (Int32 × Int32)) :=
  fX0_versionFor_b82 st x1 x2 x4 x6 x6
def fX0_versionFor_l25 (st : FS) (x1 : Int32) (x2 : Int32) (x4 : Int32) (x5 : Int32) (x6 : Int32) : Option ((Int32 × Int32) ⊕ (Int32 × Int32)) :=
  (if x4 ≤ x6 then some (.inr (x5, x6)) else (if inb x6 80 = true then (if ((FS_kind st) (x6).toNatClampNeg) = x1 then (if inb x6 80 = true then (if x2 < ((FS_year st) (x6).toNatClampNeg) then fX0_versionFor_b82 st x1 x2 x4 x5 x6 else (if x5 = (-9 : Int32) then fX0_versionFor_b78 st x1 x2 x4 x6 else (if inb x6 80 = true then (if inb x5 80 = true then (if ((FS_year st) (x6).toNatClampNeg) < ((FS_year st) (x5).toNatClampNeg) then fX0_versionFor_b82 st x1 x2 x4 x5 x6 else fX0_versionFor_b78 st x1 x2 x4 x6) else none) else none))) else none) else fX0_versionFor_b82 st x1 x2 x4 x5 x6) else none))
def fX0_versionFor_b16 (st : FS) (x1 : Int32) (x2 : Int32) (k0 : Int32) : Option (Int32) :=
  (loopN (fun (s : Int32 × Int32) => fX0_versionFor_l25 st x1 x2 k0 s.1 s.2) fuelN ((-9 : Int32), (0 : Int32))).bind (fun y11 => some y11.1)
def fX0_versionFor (st : FS) (x1 : Int32) (x2 : Int32) (x3 : Int32) : Option (Int32) :=
  (if x3 = (-9 : Int32) then fX0_versionFor_b16 st x1 x2 (FS_size st) else fX0_versionFor_b16 st x1 x2 (x3 + (1 : Int32)))
def fX0_endOf (st : FS) (x1 : Int32) (x2 : Int32) : Option (Int32) :=
  (if x1 = (-9 : Int32) then some (-9 : Int32) else (if x2 = 0 then (if inb x1 80 = true then some ((FS_low st) (x1).toNatClampNeg) else none) else (if inb x1 80 = true then some ((FS_high st) (x1).toNatClampNeg) else none)))
def fX1_spanOn_l2 (st : HS) (x1 : Int32) (x2 : Int32) : Option ((Int32) ⊕ (Int32)) :=
  (if (HS_size st) ≤ x2 then some (.inr x2) else (if inb x2 100 = true then (if x1 < ((HS_day st) (x2).toNatClampNeg) then some (.inr x2) else some (.inl (x2 + (1 : Int32)))) else none))
def fX1_spanOn (st : HS) (x1 : Int32) : Option (Int32) :=
  (loopN (fun (s : Int32) => fX1_spanOn_l2 st x1 s) fuelN (0 : Int32)).bind (fun y4 => some y4)
def fX1_heldOn_b44 (st : HS) (x1 : Int32) (x2 : Int32) (x4 : Int32) : Option ((Int32) ⊕ ((Int32) ⊕ (Int32))) :=
  some (.inl (x4 + (-1 : Int32)))
def fX1_heldOn_l9 (st : HS) (x1 : Int32) (x2 : Int32) (x4 : Int32) : Option ((Int32) ⊕ ((Int32) ⊕ (Int32))) :=
  (if x4 < 0 then some (.inr (.inl x4)) else (if inb x4 100 = true then (if ((HS_holder st) (x4).toNatClampNeg) = x1 then (if inb x4 100 = true then (if ((HS_held st) (x4).toNatClampNeg) = x2 then (if inb x4 100 = true then some (.inr (.inr ((HS_hundredths st) (x4).toNatClampNeg))) else none) else fX1_heldOn_b44 st x1 x2 x4) else none) else fX1_heldOn_b44 st x1 x2 x4) else none))
def fX1_heldOn (st : HS) (x1 : Int32) (x2 : Int32) (x3 : Int32) : Option (Int32) :=
  (fX1_spanOn st x3).bind (fun r1 => (loopN (fun (s : Int32) => fX1_heldOn_l9 st x1 x2 s) fuelN (r1 - (1 : Int32))).bind (fun y9 => Sum.elim (fun e_ => some (0 : Int32)) (fun v_ => some v_) y9))
def fX1_placeOf_b48 (st : HS) (x1 : Int32) (x2 : Int32) (x3 : Int32) (x4 : Int32) : Option ((Int32) ⊕ ((Int32) ⊕ (Int32))) :=
  some (.inl (x4 + (1 : Int32)))
def fX1_placeOf_l3 (st : HS) (x1 : Int32) (x2 : Int32) (x3 : Int32) (x4 : Int32) : Option ((Int32) ⊕ ((Int32) ⊕ (Int32))) :=
  (if (HS_size st) ≤ x4 then some (.inr (.inl x4)) else (if inb x4 100 = true then (if ((HS_holder st) (x4).toNatClampNeg) = x1 then (if inb x4 100 = true then (if ((HS_held st) (x4).toNatClampNeg) = x2 then (if inb x4 100 = true then (if ((HS_day st) (x4).toNatClampNeg) = x3 then some (.inr (.inr x4)) else fX1_placeOf_b48 st x1 x2 x3 x4) else none) else fX1_placeOf_b48 st x1 x2 x3 x4) else none) else fX1_placeOf_b48 st x1 x2 x3 x4) else none))
def fX1_placeOf (st : HS) (x1 : Int32) (x2 : Int32) (x3 : Int32) : Option (Int32) :=
  (loopN (fun (s : Int32) => fX1_placeOf_l3 st x1 x2 x3 s) fuelN (0 : Int32)).bind (fun y8 => Sum.elim (fun e_ => some (-9 : Int32)) (fun v_ => some v_) y8)
def fX1_makeRoomAt (st : HS) (x1 : Int32) : Option (HS) :=
  (if okc x1 (x1 + (1 : Int32)) ((HS_size st) - x1) 100 100 = true then (if okc x1 (x1 + (1 : Int32)) ((HS_size st) - x1) 100 100 = true then (if okc x1 (x1 + (1 : Int32)) ((HS_size st) - x1) 100 100 = true then (if okc x1 (x1 + (1 : Int32)) ((HS_size st) - x1) 100 100 = true then some (HS_size_s (HS_day_s (HS_hundredths_s (HS_held_s (HS_holder_s st (va_cpy (HS_holder st) (HS_holder st) (x1).toNatClampNeg ((x1 + (1 : Int32))).toNatClampNeg (((HS_size st) - x1)).toNatClampNeg)) (va_cpy (HS_held st) (HS_held st) (x1).toNatClampNeg ((x1 + (1 : Int32))).toNatClampNeg (((HS_size st) - x1)).toNatClampNeg)) (va_cpy (HS_hundredths st) (HS_hundredths st) (x1).toNatClampNeg ((x1 + (1 : Int32))).toNatClampNeg (((HS_size st) - x1)).toNatClampNeg)) (va_cpy (HS_day st) (HS_day st) (x1).toNatClampNeg ((x1 + (1 : Int32))).toNatClampNeg (((HS_size st) - x1)).toNatClampNeg)) ((HS_size st) + (1 : Int32))) else none) else none) else none) else none)
def fX1_forgetSpans_l2 (st : HS) (x1 : Int32) : Option ((HS × Int32) ⊕ (HS × Int32)) :=
  (if (100 : Int32) < x1 then some (.inr (st, x1)) else (if inb x1 101 = true then some (.inl ((HS_spanIsMade_s st (upd (HS_spanIsMade st) (x1).toNatClampNeg (vp_nar .boolean (0 : Int32)))), (x1 + (1 : Int32)))) else none))
def fX1_forgetSpans (st : HS) : Option (HS) :=
  (loopN (fun (s : HS × Int32) => fX1_forgetSpans_l2 s.1 s.2) fuelN (st, (0 : Int32))).bind (fun y3 => some y3.1)
def fX1_tell_b78 (st : HS) (x3 : Int32) (x5 : Int32) (x6 : Int32) : Option (Int32 × HS) :=
  (if inb x6 100 = true then (fX1_forgetSpans (HS_hundredths_s st (upd (HS_hundredths st) (x6).toNatClampNeg x3))).bind (fun p7 => some (x5, p7)) else none)
def fX1_tell (st : HS) (x1 : Int32) (x2 : Int32) (x3 : Int32) (x4 : Int32) : Option (Int32 × HS) :=
  (fX1_heldOn st x1 x2 x4).bind (fun r1 => (fX1_placeOf st x1 x2 x4).bind (fun r3 => (if r3 = (-9 : Int32) then (if (HS_size st) < (100 : Int32) then (fX1_spanOn st x4).bind (fun r10 => (fX1_makeRoomAt st r10).bind (fun p12 => (if inb r10 100 = true then (if inb r10 100 = true then (if inb r10 100 = true then fX1_tell_b78 (HS_day_s (HS_held_s (HS_holder_s p12 (upd (HS_holder p12) (r10).toNatClampNeg x1)) (upd (HS_held p12) (r10).toNatClampNeg x2)) (upd (HS_day p12) (r10).toNatClampNeg x4)) x3 r1 r10 else none) else none) else none))) else some ((-4 : Int32), st)) else fX1_tell_b78 st x3 r1 r3)))
def fJ7_fill_53178_l5 (len : Nat) (x1 : Int32) (x3 : Int32) (st : Nat → Int32) (x2 : Int32) : Option (((Nat → Int32) × Int32) ⊕ ((Nat → Int32) × Int32)) :=
  (if x3 ≤ x2 then some (.inr (st, x2)) else (if inb x2 len = true then some (.inl ((upd st (x2).toNatClampNeg x1), (x2 + (1 : Int32)))) else none))
def fJ7_fill_53178 (len : Nat) (st : Nat → Int32) (x1 : Int32) : Option (Nat → Int32) :=
  (loopN (fun (s : (Nat → Int32) × Int32) => fJ7_fill_53178_l5 len x1 (Int32.ofNat len) s.1 s.2) fuelN (st, (0 : Int32))).bind (fun y3 => some y3.1)
def fX1_gatherTies_b49 (st : HS) (x1 : Int32) : Option ((HS × Int32) ⊕ (HS × Int32)) :=
  some (.inl (st, (x1 + (1 : Int32))))
def fX1_gatherTies_l10 (st : HS) (x1 : Int32) : Option ((HS × Int32) ⊕ (HS × Int32)) :=
  (if (HS_size st) ≤ x1 then some (.inr (st, x1)) else (if inb x1 100 = true then (if ((HS_hundredths st) (x1).toNatClampNeg) ≤ 0 then fX1_gatherTies_b49 st x1 else (if inb x1 100 = true then (if inb ((HS_holder st) (x1).toNatClampNeg) 10 = true then (if inb x1 100 = true then (if inb ((HS_holder st) (x1).toNatClampNeg) 10 = true then fX1_gatherTies_b49 (HS_tied_s st (upd (HS_tied st) (((HS_holder st) (x1).toNatClampNeg)).toNatClampNeg (((HS_tied st) (((HS_holder st) (x1).toNatClampNeg)).toNatClampNeg) ||| ((1 : Int32) <<< (((HS_held st) (x1).toNatClampNeg) &&& 31))))) x1 else none) else none) else none) else none)) else none))
def fX1_gatherTies (st : HS) : Option (HS) :=
  (fJ7_fill_53178 10 (HS_tied st) (0 : Int32)).bind (fun p1 => (loopN (fun (s : HS × Int32) => fX1_gatherTies_l10 s.1 s.2) fuelN ((HS_tied_s st p1), (0 : Int32))).bind (fun y10 => some y10.1))
def fX1_tiedToAnyOf_b27 (st : HS) (x1 : Int32) (x2 : Int32) (x3 : Int32) : Option ((Int32 × Int32) ⊕ (Int32 × Int32)) :=
  some (.inl (x2, (x3 + (1 : Int32))))
def fX1_tiedToAnyOf_l4 (st : HS) (x1 : Int32) (x2 : Int32) (x3 : Int32) : Option ((Int32 × Int32) ⊕ (Int32 × Int32)) :=
  (if (10 : Int32) ≤ x3 then some (.inr (x2, x3)) else (if (x1 &&& ((1 : Int32) <<< (x3 &&& 31))) = 0 then fX1_tiedToAnyOf_b27 st x1 x2 x3 else (if inb x3 10 = true then fX1_tiedToAnyOf_b27 st x1 (x2 ||| ((HS_tied st) (x3).toNatClampNeg)) x3 else none)))
def fX1_tiedToAnyOf (st : HS) (x1 : Int32) : Option (Int32) :=
  (loopN (fun (s : Int32 × Int32) => fX1_tiedToAnyOf_l4 st x1 s.1 s.2) fuelN ((0 : Int32), (0 : Int32))).bind (fun y4 => some y4.1)
def fX1_isTiedTo_l7 (st : HS) (x2 : Int32) (x3 : Int32) (x4 : Int32) : Option ((Int32 × Int32) ⊕ (Int32 × Int32)) :=
  (if (10 : Int32) ≤ x4 then some (.inr (x3, x4)) else (fX1_tiedToAnyOf st x3).bind (fun r2 => some (.inl ((x3 ||| r2), (x4 + (1 : Int32))))))
def fX1_isTiedTo (st : HS) (x1 : Int32) (x2 : Int32) : Option (Int32) :=
  (loopN (fun (s : Int32 × Int32) => fX1_isTiedTo_l7 st x2 s.1 s.2) fuelN (((1 : Int32) <<< (x1 &&& 31)), (1 : Int32))).bind (fun y4 => (if (y4.1 &&& ((1 : Int32) <<< (x2 &&& 31))) = 0 then some (0 : Int32) else some (1 : Int32)))
def fX1_isTooDeep_l4 (st : HS) (x1 : Int32) (x2 : Int32) : Option ((Int32 × Int32) ⊕ (Int32 × Int32)) :=
  (if (3 : Int32) < x2 then some (.inr (x1, x2)) else (fX1_tiedToAnyOf st x1).bind (fun r2 => some (.inl (r2, (x2 + (1 : Int32))))))
def fX1_isTooDeep (st : HS) : Option (Int32) :=
  (loopN (fun (s : Int32 × Int32) => fX1_isTooDeep_l4 st s.1 s.2) fuelN ((1 : Int32), (0 : Int32))).bind (fun y4 => (if y4.1 = 0 then some (0 : Int32) else some (1 : Int32)))
def fX1_mayTie (st : HS) (x1 : Int32) (x2 : Int32) : Option (Int32 × HS) :=
  (fX1_gatherTies st).bind (fun p1 => (if inb x1 10 = true then (if inb x1 10 = true then (fX1_isTiedTo (HS_tied_s p1 (upd (HS_tied p1) (x1).toNatClampNeg (((HS_tied p1) (x1).toNatClampNeg) ||| ((1 : Int32) <<< (x2 &&& 31))))) x2 x1).bind (fun r5 => (if r5 = 0 then (fX1_isTooDeep (HS_tied_s p1 (upd (HS_tied p1) (x1).toNatClampNeg (((HS_tied p1) (x1).toNatClampNeg) ||| ((1 : Int32) <<< (x2 &&& 31)))))).bind (fun r8 => (if r8 = 0 then some ((1 : Int32), (HS_tied_s p1 (upd (HS_tied p1) (x1).toNatClampNeg (((HS_tied p1) (x1).toNatClampNeg) ||| ((1 : Int32) <<< (x2 &&& 31)))))) else some ((0 : Int32), (HS_tied_s p1 (upd (HS_tied p1) (x1).toNatClampNeg (((HS_tied p1) (x1).toNatClampNeg) ||| ((1 : Int32) <<< (x2 &&& 31)))))))) else some ((0 : Int32), (HS_tied_s p1 (upd (HS_tied p1) (x1).toNatClampNeg (((HS_tied p1) (x1).toNatClampNeg) ||| ((1 : Int32) <<< (x2 &&& 31)))))))) else none) else none))
def fJ7_fill_d0a16_l6 (len : Nat) (x1 : Int64) (x4 : Int32) (st : Nat → Int64) (x3 : Int32) : Option (((Nat → Int64) × Int32) ⊕ ((Nat → Int64) × Int32)) :=
  (if x4 ≤ x3 then some (.inr (st, x3)) else (if inb x3 len = true then some (.inl ((vp_updL st (x3).toNatClampNeg x1), (x3 + (1 : Int32)))) else none))
def fJ7_fill_d0a16 (len : Nat) (st : Nat → Int64) (x1 : Int64) : Option (Nat → Int64) :=
  (loopN (fun (s : (Nat → Int64) × Int32) => fJ7_fill_d0a16_l6 len x1 (Int32.ofNat len) s.1 s.2) fuelN (st, (0 : Int32))).bind (fun y3 => some y3.1)
def fX1_lookOneStepAhead_l13 (st : HS) (x1 : Int32) (x2 : Int64) (x4 : Int32) : Option ((Int64 × Int32) ⊕ (Int64 × Int32)) :=
  (if (10 : Int32) ≤ x4 then some (.inr (x2, x4)) else (if inb x4 10 = true then (if inb ((x4 * (10 : Int32)) + x1) 100 = true then some (.inl ((x2 + (((HS_reached st) (x4).toNatClampNeg) * (Int32.toInt64 ((HS_matrix st) (((x4 * (10 : Int32)) + x1)).toNatClampNeg)))), (x4 + (1 : Int32)))) else none) else none))
def fX1_lookOneStepAhead_l2 (st : HS) (x1 : Int32) : Option ((HS × Int32) ⊕ (HS × Int32)) :=
  (if (10 : Int32) ≤ x1 then some (.inr (st, x1)) else (loopN (fun (s : Int64 × Int32) => fX1_lookOneStepAhead_l13 st x1 s.1 s.2) fuelN ((0 : Int64), (0 : Int32))).bind (fun y5 => (if inb x1 10 = true then some (.inl ((HS_reachedNext_s st (vp_updL (HS_reachedNext st) (x1).toNatClampNeg (y5.1 / (100 : Int64)))), (x1 + (1 : Int32)))) else none)))
def fX1_lookOneStepAhead (st : HS) : Option (HS) :=
  (loopN (fun (s : HS × Int32) => fX1_lookOneStepAhead_l2 s.1 s.2) fuelN (st, (0 : Int32))).bind (fun y7 => some y7.1)
def fX1_makeSpan_l10 (x1 : Int32) (st : HS) (x2 : Int32) : Option ((HS × Int32) ⊕ (HS × Int32)) :=
  (if x1 ≤ x2 then some (.inr (st, x2)) else (if inb x2 100 = true then (if inb x2 100 = true then (if inb x2 100 = true then (if inb ((((HS_holder st) (x2).toNatClampNeg) * (10 : Int32)) + ((HS_held st) (x2).toNatClampNeg)) 100 = true then some (.inl ((HS_matrix_s st (upd (HS_matrix st) (((((HS_holder st) (x2).toNatClampNeg) * (10 : Int32)) + ((HS_held st) (x2).toNatClampNeg))).toNatClampNeg ((HS_hundredths st) (x2).toNatClampNeg))), (x2 + (1 : Int32)))) else none) else none) else none) else none))
def fX1_makeSpan_l99 (x1 : Int32) (x2 : Int32) (x3 : Int32) (st : HS) (x4 : Int32) : Option ((HS × Int32) ⊕ (HS × Int32)) :=
  (if (10 : Int32) ≤ x4 then some (.inr (st, x4)) else (if inb x4 10 = true then (if inb x4 10 = true then (if inb (x2 + x4) 1010 = true then (if inb x4 10 = true then (if inb (x2 + x4) 1010 = true then some (.inl ((HS_reached_s (HS_spanShares_s st (vp_updL (HS_spanShares st) ((x2 + x4)).toNatClampNeg (((HS_spanShares st) ((x2 + x4)).toNatClampNeg) + ((vp_updL (HS_reached st) (x4).toNatClampNeg ((HS_reachedNext st) (x4).toNatClampNeg)) (x4).toNatClampNeg)))) (vp_updL (HS_reached st) (x4).toNatClampNeg ((HS_reachedNext st) (x4).toNatClampNeg))), (x4 + (1 : Int32)))) else none) else none) else none) else none) else none))
def fX1_makeSpan_l87 (x1 : Int32) (x2 : Int32) (st : HS) (x3 : Int32) : Option ((HS × Int32) ⊕ (HS × Int32)) :=
  (if (3 : Int32) ≤ x3 then some (.inr (st, x3)) else (fX1_lookOneStepAhead st).bind (fun p14 => (loopN (fun (s : HS × Int32) => fX1_makeSpan_l99 x1 x2 x3 s.1 s.2) fuelN (p14, (0 : Int32))).bind (fun y22 => some (.inl (y22.1, (x3 + (1 : Int32)))))))
def fX1_makeSpan (st : HS) (x1 : Int32) : Option (HS) :=
  (fJ7_fill_53178 100 (HS_matrix st) (0 : Int32)).bind (fun p1 => (loopN (fun (s : HS × Int32) => fX1_makeSpan_l10 x1 s.1 s.2) fuelN ((HS_matrix_s st p1), (0 : Int32))).bind (fun y8 => (fJ7_fill_d0a16 10 (HS_reached y8.1) (0 : Int64)).bind (fun p9 => (if inb (0 : Int32) 10 = true then (if okc (0 : Int32) (x1 * (10 : Int32)) (10 : Int32) 10 1010 = true then (loopN (fun (s : HS × Int32) => fX1_makeSpan_l87 x1 (x1 * (10 : Int32)) s.1 s.2) fuelN ((HS_reached_s (HS_spanShares_s y8.1 (va_cpy (vp_updL p9 ((0 : Int32)).toNatClampNeg (1000000 : Int64)) (HS_spanShares y8.1) ((0 : Int32)).toNatClampNeg ((x1 * (10 : Int32))).toNatClampNeg ((10 : Int32)).toNatClampNeg)) (vp_updL p9 ((0 : Int32)).toNatClampNeg (1000000 : Int64))), (0 : Int32))).bind (fun y23 => (if inb x1 101 = true then some (HS_spanIsMade_s y23.1 (upd (HS_spanIsMade y23.1) (x1).toNatClampNeg (vp_nar .boolean (1 : Int32)))) else none)) else none) else none))))
def fX1_shareIn_b14 (st : HS) (x1 : Int32) (x2 : Int32) : Option (Int64 × HS) :=
  (if inb ((x1 * (10 : Int32)) + x2) 1010 = true then some (((HS_spanShares st) (((x1 * (10 : Int32)) + x2)).toNatClampNeg), st) else none)
def fX1_shareIn (st : HS) (x1 : Int32) (x2 : Int32) : Option (Int64 × HS) :=
  (if inb x1 101 = true then (if ((HS_spanIsMade st) (x1).toNatClampNeg) = 0 then (fX1_makeSpan st x1).bind (fun p4 => fX1_shareIn_b14 p4 x1 x2) else fX1_shareIn_b14 st x1 x2) else none)
def fX1_shareOn (st : HS) (x1 : Int32) (x2 : Int32) : Option (Int64 × HS) :=
  (fX1_spanOn st x2).bind (fun r1 => (fX1_shareIn st r1 x1).bind (fun p3 => some (p3.1, p3.2)))
def fX1_sharesSummed_b84 (st : HS) (x1 : Int32) (x3 : Int32) (x4 : Int64) (x6 : Int32) (x7 : Int32) : Option ((HS × Int64 × Int32 × Int32) ⊕ (HS × Int64 × Int32 × Int32)) :=
  some (.inl (st, x4, x6, (x7 + (1 : Int32))))
def fX1_sharesSummed_b48 (st : HS) (x1 : Int32) (x3 : Int32) (x4 : Int64) (x6 : Int32) (x7 : Int32) (k0 : Int32) : Option ((HS × Int64 × Int32 × Int32) ⊕ (HS × Int64 × Int32 × Int32)) :=
  (if k0 < x6 then fX1_sharesSummed_b84 st x1 x3 x4 x6 x7 else (fX1_shareIn st x7 x1).bind (fun p6 => fX1_sharesSummed_b84 p6.2 x1 x3 (x4 + (p6.1 * (Int32.toInt64 ((k0 - x6) + (1 : Int32))))) (k0 + (1 : Int32)) x7))
def fX1_sharesSummed_l13 (x1 : Int32) (x3 : Int32) (st : HS) (x4 : Int64) (x6 : Int32) (x7 : Int32) : Option ((HS × Int64 × Int32 × Int32) ⊕ (HS × Int64 × Int32 × Int32)) :=
  (if (HS_size st) < x7 then some (.inr (st, x4, x6, x7)) else (if (HS_size st) ≤ x7 then fX1_sharesSummed_b48 st x1 x3 x4 x6 x7 x3 else (if inb x7 100 = true then fX1_sharesSummed_b48 st x1 x3 x4 x6 x7 (if (((HS_day st) (x7).toNatClampNeg) - (1 : Int32)) < x3 then (((HS_day st) (x7).toNatClampNeg) - (1 : Int32)) else x3) else none)))
def fX1_sharesSummed (st : HS) (x1 : Int32) (x2 : Int32) (x3 : Int32) : Option (Int64 × HS) :=
  (fX1_spanOn st x2).bind (fun r1 => (loopN (fun (s : HS × Int64 × Int32 × Int32) => fX1_sharesSummed_l13 x1 x3 s.1 s.2.1 s.2.2.1 s.2.2.2) fuelN (st, (0 : Int64), x2, r1)).bind (fun y9 => some (y9.2.1, y9.1)))
def fX2_add (st : RS) (x1 : Int32) (x2 : Int32) (x3 : Int32) (x4 : Int32) (x5 : Int32) : Option (Int32 × RS) :=
  (if (RS_size st) < (200 : Int32) then (if inb (RS_size st) 200 = true then (if inb (RS_size st) 200 = true then (if inb (RS_size st) 200 = true then (if inb (RS_size st) 200 = true then (if inb (RS_size st) 200 = true then some ((((RS_size st) + (1 : Int32)) - (1 : Int32)), (RS_size_s (RS_seller_s (RS_day_s (RS_amount_s (RS_kind_s (RS_unit_s st (upd (RS_unit st) ((RS_size st)).toNatClampNeg x1)) (upd (RS_kind st) ((RS_size st)).toNatClampNeg x2)) (upd (RS_amount st) ((RS_size st)).toNatClampNeg x3)) (upd (RS_day st) ((RS_size st)).toNatClampNeg x4)) (upd (RS_seller st) ((RS_size st)).toNatClampNeg x5)) ((RS_size st) + (1 : Int32)))) else none) else none) else none) else none) else none) else some ((-4 : Int32), st))
def fX2_yearOf (st : RS) (x1 : Int32) : Option (Int32) :=
  (if inb x1 200 = true then some (((RS_day st) (x1).toNatClampNeg) / (365 : Int32)) else none)
def fX2_isOfYear (st : RS) (x1 : Int32) (x2 : Int32) : Option (Int32) :=
  (fX2_yearOf st x1).bind (fun r1 => (if r1 = x2 then some (1 : Int32) else some (0 : Int32)))
def fX2_uncovered (st : RS) (x1 : Int32) : Option (Int32) :=
  (if inb x1 200 = true then (if inb x1 200 = true then some (((RS_amount st) (x1).toNatClampNeg) - ((RS_covered st) (x1).toNatClampNeg)) else none) else none)
def growA (f : Nat → Int32) (len : Nat) (n2 : Int32) : Nat → Int32 := va_cpy f (fun _ => 0) (0 : Int32).toNatClampNeg (0 : Int32).toNatClampNeg (if n2 < Int32.ofNat len then n2 else Int32.ofNat len).toNatClampNeg
def SS_grow (st : SS) : SS := ((SS_size st * (2 : Int32)).toNatClampNeg, growA (SS_first st) (SS_cap st) (SS_size st * (2 : Int32)), growA (SS_owner st) (SS_cap st) (SS_size st * (2 : Int32)), growA (SS_row st) (SS_cap st) (SS_size st * (2 : Int32)), SS_size st, SS_issued st)
def growOk (st : SS) : Bool := decide (SS_cap st ≤ 1024) && decide (¬ (SS_size st * (2 : Int32)) < 0) && decide ((SS_size st * (2 : Int32)).toNatClampNeg ≤ 2048) && decide (¬ (SS_size st * (2 : Int32)) = Int32.ofNat (SS_cap st))
def fX3_insertRun_b63 (st : SS) (x1 : Int32) (x2 : Int32) (x3 : Int32) (x4 : Int32) : Option (SS) :=
  (if okc x1 (x1 + (1 : Int32)) ((SS_size st) - x1) (SS_cap st) (SS_cap st) = true then (if okc x1 (x1 + (1 : Int32)) ((SS_size st) - x1) (SS_cap st) (SS_cap st) = true then (if okc x1 (x1 + (1 : Int32)) ((SS_size st) - x1) (SS_cap st) (SS_cap st) = true then (if inb x1 (SS_cap st) = true then (if inb x1 (SS_cap st) = true then (if inb x1 (SS_cap st) = true then some (SS_size_s (SS_row_s (SS_owner_s (SS_first_s st (upd (va_cpy (SS_first st) (SS_first st) (x1).toNatClampNeg ((x1 + (1 : Int32))).toNatClampNeg (((SS_size st) - x1)).toNatClampNeg) (x1).toNatClampNeg x2)) (upd (va_cpy (SS_owner st) (SS_owner st) (x1).toNatClampNeg ((x1 + (1 : Int32))).toNatClampNeg (((SS_size st) - x1)).toNatClampNeg) (x1).toNatClampNeg x3)) (upd (va_cpy (SS_row st) (SS_row st) (x1).toNatClampNeg ((x1 + (1 : Int32))).toNatClampNeg (((SS_size st) - x1)).toNatClampNeg) (x1).toNatClampNeg x4)) ((SS_size st) + (1 : Int32))) else none) else none) else none) else none) else none) else none)
def fX3_insertRun (st : SS) (x1 : Int32) (x2 : Int32) (x3 : Int32) (x4 : Int32) : Option (SS) :=
  (if (SS_size st) < (Int32.ofNat (SS_cap st)) then fX3_insertRun_b63 st x1 x2 x3 x4 else (if growOk st = true then fX3_insertRun_b63 (SS_grow st) x1 x2 x3 x4 else none))
def fX3_add_b72 (st : SS) (x2 : Int32) (x3 : Int32) : Option (Int32 × SS) :=
  some (x3, (SS_issued_s st ((SS_issued st) + x2)))
def fX3_add_b60 (st : SS) (x1 : Int32) (x2 : Int32) (x3 : Int32) : Option (Int32 × SS) :=
  (fX3_insertRun st (SS_size st) x3 x1 (-9 : Int32)).bind (fun p3 => fX3_add_b72 p3 x2 x3)
def fX3_add (st : SS) (x1 : Int32) (x2 : Int32) : Option (Int32 × SS) :=
  (if x2 ≤ ((20000 : Int32) - (SS_issued st)) then (if (SS_size st) = 0 then fX3_add_b60 st x1 x2 ((SS_issued st) + (1 : Int32)) else (if inb ((SS_size st) - (1 : Int32)) (SS_cap st) = true then (if ((SS_owner st) (((SS_size st) - (1 : Int32))).toNatClampNeg) = x1 then (if inb ((SS_size st) - (1 : Int32)) (SS_cap st) = true then (if ((SS_row st) (((SS_size st) - (1 : Int32))).toNatClampNeg) = (-9 : Int32) then fX3_add_b72 st x2 ((SS_issued st) + (1 : Int32)) else fX3_add_b60 st x1 x2 ((SS_issued st) + (1 : Int32))) else none) else fX3_add_b60 st x1 x2 ((SS_issued st) + (1 : Int32))) else none)) else some ((-4 : Int32), st))
def fX3_areIssued (st : SS) (x1 : Int32) (x2 : Int32) : Option (Int32) :=
  (if x1 < (1 : Int32) then some (0 : Int32) else (if (SS_issued st) < x1 then some (0 : Int32) else (if (((SS_issued st) - x1) + (1 : Int32)) < x2 then some (0 : Int32) else some (1 : Int32))))
def fX3_runWith_l2 (st : SS) (x1 : Int32) (x2 : Int32) : Option ((Int32) ⊕ (Int32)) :=
  (if (SS_size st) ≤ (x2 + (1 : Int32)) then some (.inr x2) else (if inb (x2 + (1 : Int32)) (SS_cap st) = true then (if x1 < ((SS_first st) ((x2 + (1 : Int32))).toNatClampNeg) then some (.inr x2) else some (.inl (x2 + (1 : Int32)))) else none))
def fX3_runWith (st : SS) (x1 : Int32) : Option (Int32) :=
  (loopN (fun (s : Int32) => fX3_runWith_l2 st x1 s) fuelN (0 : Int32)).bind (fun y4 => some y4)
def fX3_endOf (st : SS) (x1 : Int32) : Option (Int32) :=
  (if (SS_size st) ≤ (x1 + (1 : Int32)) then some ((SS_issued st) + (1 : Int32)) else (if inb (x1 + (1 : Int32)) (SS_cap st) = true then some ((SS_first st) ((x1 + (1 : Int32))).toNatClampNeg) else none))
def fX3_lengthOf (st : SS) (x1 : Int32) : Option (Int32) :=
  (fX3_endOf st x1).bind (fun r1 => (if inb x1 (SS_cap st) = true then some (r1 - ((SS_first st) (x1).toNatClampNeg)) else none))
def fX3_sharedWith (st : SS) (x1 : Int32) (x2 : Int32) (x3 : Int32) : Option (Int32) :=
  (fX3_endOf st x1).bind (fun r1 => (if inb x1 (SS_cap st) = true then some (if (0 : Int32) < ((if (x2 + x3) < r1 then (x2 + x3) else r1) - (if ((SS_first st) (x1).toNatClampNeg) < x2 then x2 else ((SS_first st) (x1).toNatClampNeg))) then ((if (x2 + x3) < r1 then (x2 + x3) else r1) - (if ((SS_first st) (x1).toNatClampNeg) < x2 then x2 else ((SS_first st) (x1).toNatClampNeg))) else (0 : Int32)) else none))
def fX3_usedAmong_b37 (st : SS) (x1 : Int32) (x2 : Int32) (x3 : Int32) (x4 : Int32) : Option ((Int32 × Int32) ⊕ (Int32 × Int32)) :=
  some (.inl (x3, (x4 + (1 : Int32))))
def fX3_usedAmong_l5 (st : SS) (x1 : Int32) (x2 : Int32) (x3 : Int32) (x4 : Int32) : Option ((Int32 × Int32) ⊕ (Int32 × Int32)) :=
  (if (SS_size st) ≤ x4 then some (.inr (x3, x4)) else (if inb x4 (SS_cap st) = true then (if ((SS_row st) (x4).toNatClampNeg) = (-9 : Int32) then fX3_usedAmong_b37 st x1 x2 x3 x4 else (fX3_sharedWith st x4 x1 x2).bind (fun r4 => fX3_usedAmong_b37 st x1 x2 (x3 + r4) x4)) else none))
def fX3_usedAmong (st : SS) (x1 : Int32) (x2 : Int32) : Option (Int32) :=
  (loopN (fun (s : Int32 × Int32) => fX3_usedAmong_l5 st x1 x2 s.1 s.2) fuelN ((0 : Int32), (0 : Int32))).bind (fun y6 => some y6.1)
def fX3_ownedAmong_b39 (st : SS) (x1 : Int32) (x2 : Int32) (x3 : Int32) (x4 : Int32) (x5 : Int32) : Option ((Int32 × Int32) ⊕ (Int32 × Int32)) :=
  some (.inl (x4, (x5 + (1 : Int32))))
def fX3_ownedAmong_l6 (st : SS) (x1 : Int32) (x2 : Int32) (x3 : Int32) (x4 : Int32) (x5 : Int32) : Option ((Int32 × Int32) ⊕ (Int32 × Int32)) :=
  (if (SS_size st) ≤ x5 then some (.inr (x4, x5)) else (if inb x5 (SS_cap st) = true then (if ((SS_owner st) (x5).toNatClampNeg) = x3 then (fX3_sharedWith st x5 x1 x2).bind (fun r4 => fX3_ownedAmong_b39 st x1 x2 x3 (x4 + r4) x5) else fX3_ownedAmong_b39 st x1 x2 x3 x4 x5) else none))
def fX3_ownedAmong (st : SS) (x1 : Int32) (x2 : Int32) (x3 : Int32) : Option (Int32) :=
  (loopN (fun (s : Int32 × Int32) => fX3_ownedAmong_l6 st x1 x2 x3 s.1 s.2) fuelN ((0 : Int32), (0 : Int32))).bind (fun y6 => some y6.1)
def fX3_unusedOf_b41 (st : SS) (x1 : Int32) (x2 : Int32) (x3 : Int32) : Option ((Int32 × Int32) ⊕ (Int32 × Int32)) :=
  some (.inl (x2, (x3 + (1 : Int32))))
def fX3_unusedOf_l4 (st : SS) (x1 : Int32) (x2 : Int32) (x3 : Int32) : Option ((Int32 × Int32) ⊕ (Int32 × Int32)) :=
  (if (SS_size st) ≤ x3 then some (.inr (x2, x3)) else (if inb x3 (SS_cap st) = true then (if ((SS_owner st) (x3).toNatClampNeg) = x1 then (if inb x3 (SS_cap st) = true then (if ((SS_row st) (x3).toNatClampNeg) = (-9 : Int32) then (fX3_lengthOf st x3).bind (fun r6 => fX3_unusedOf_b41 st x1 (x2 + r6) x3) else fX3_unusedOf_b41 st x1 x2 x3) else none) else fX3_unusedOf_b41 st x1 x2 x3) else none))
def fX3_unusedOf (st : SS) (x1 : Int32) : Option (Int32) :=
  (loopN (fun (s : Int32 × Int32) => fX3_unusedOf_l4 st x1 s.1 s.2) fuelN ((0 : Int32), (0 : Int32))).bind (fun y8 => some y8.1)
def fX3_splitBefore (st : SS) (x1 : Int32) : Option (Int32 × SS) :=
  (if x1 ≤ (SS_issued st) then (fX3_runWith st x1).bind (fun r2 => (if inb r2 (SS_cap st) = true then (if ((SS_first st) (r2).toNatClampNeg) = x1 then some (r2, st) else (if inb r2 (SS_cap st) = true then (if inb r2 (SS_cap st) = true then (fX3_insertRun st (r2 + (1 : Int32)) x1 ((SS_owner st) (r2).toNatClampNeg) ((SS_row st) (r2).toNatClampNeg)).bind (fun p8 => some ((r2 + (1 : Int32)), p8)) else none) else none)) else none)) else some ((SS_size st), st))
def fX3_joinAlike_b89 (st : SS) (x1 : Int32) (x2 : Int32) : Option ((SS × Int32 × Int32) ⊕ (SS × Int32 × Int32)) :=
  some (.inl (st, x1, (x2 + (1 : Int32))))
def fX3_joinAlike_b50 (st : SS) (x1 : Int32) (x2 : Int32) : Option ((SS × Int32 × Int32) ⊕ (SS × Int32 × Int32)) :=
  (if inb x2 (SS_cap st) = true then (if inb x1 (SS_cap st) = true then (if inb x2 (SS_cap st) = true then (if inb x1 (SS_cap st) = true then (if inb x2 (SS_cap st) = true then (if inb x1 (SS_cap st) = true then fX3_joinAlike_b89 (SS_row_s (SS_owner_s (SS_first_s st (upd (SS_first st) (x1).toNatClampNeg ((SS_first st) (x2).toNatClampNeg))) (upd (SS_owner st) (x1).toNatClampNeg ((SS_owner st) (x2).toNatClampNeg))) (upd (SS_row st) (x1).toNatClampNeg ((SS_row st) (x2).toNatClampNeg))) (x1 + (1 : Int32)) x2 else none) else none) else none) else none) else none) else none)
def fX3_joinAlike_l4 (st : SS) (x1 : Int32) (x2 : Int32) : Option ((SS × Int32 × Int32) ⊕ (SS × Int32 × Int32)) :=
  (if (SS_size st) ≤ x2 then some (.inr (st, x1, x2)) else (if x1 = 0 then fX3_joinAlike_b50 st x1 x2 else (if inb (x1 - (1 : Int32)) (SS_cap st) = true then (if inb x2 (SS_cap st) = true then (if ((SS_owner st) ((x1 - (1 : Int32))).toNatClampNeg) = ((SS_owner st) (x2).toNatClampNeg) then (if inb (x1 - (1 : Int32)) (SS_cap st) = true then (if inb x2 (SS_cap st) = true then (if ((SS_row st) ((x1 - (1 : Int32))).toNatClampNeg) = ((SS_row st) (x2).toNatClampNeg) then fX3_joinAlike_b89 st x1 x2 else fX3_joinAlike_b50 st x1 x2) else none) else none) else fX3_joinAlike_b50 st x1 x2) else none) else none)))
def fX3_joinAlike (st : SS) : Option (SS) :=
  (loopN (fun (s : SS × Int32 × Int32) => fX3_joinAlike_l4 s.1 s.2.1 s.2.2) fuelN (st, (0 : Int32), (0 : Int32))).bind (fun y15 => some (SS_size_s y15.1 y15.2.1))
def fX3_mark_l20 (x3 : Int32) (x4 : Int32) (x6 : Int32) (st : SS) (x7 : Int32) : Option ((SS × Int32) ⊕ (SS × Int32)) :=
  (if x6 ≤ x7 then some (.inr (st, x7)) else (if inb x7 (SS_cap st) = true then (if inb x7 (SS_cap st) = true then some (.inl ((SS_row_s (SS_owner_s st (upd (SS_owner st) (x7).toNatClampNeg x3)) (upd (SS_row st) (x7).toNatClampNeg x4)), (x7 + (1 : Int32)))) else none) else none))
def fX3_mark (st : SS) (x1 : Int32) (x2 : Int32) (x3 : Int32) (x4 : Int32) : Option (SS) :=
  (fX3_splitBefore st x1).bind (fun p1 => (fX3_splitBefore p1.2 (x1 + x2)).bind (fun p4 => (loopN (fun (s : SS × Int32) => fX3_mark_l20 x3 x4 p4.1 s.1 s.2) fuelN (p4.2, p1.1)).bind (fun y10 => (fX3_joinAlike y10.1).bind (fun p11 => some p11))))
def fX5_unit (st : LG) : Option (Int32 × LG) :=
  (if (LG_units st) < (10 : Int32) then some ((((LG_units st) + (1 : Int32)) - (1 : Int32)), (LG_mk (LG_H st) (LG_R st) (LG_F st) (LG_S st) ((LG_units st) + (1 : Int32)))) else some ((-4 : Int32), st))
def fX5_isUnit (st : LG) (x1 : Int32) : Option (Int32) :=
  (if x1 < 0 then some (0 : Int32) else (if (LG_units st) ≤ x1 then some (0 : Int32) else some (1 : Int32)))
def fX5_isHundredths (x0 : Int32) : Option (Int32) :=
  (if x0 < 0 then some (0 : Int32) else (if (100 : Int32) < x0 then some (0 : Int32) else some (1 : Int32)))
def fX5_isDay (x0 : Int32) : Option (Int32) :=
  (if x0 < 0 then some (0 : Int32) else (if (3650 : Int32) ≤ x0 then some (0 : Int32) else some (1 : Int32)))
def fX5_hold_b60 (st : LG) (x1 : Int32) (x2 : Int32) (x3 : Int32) (x4 : Int32) : Option (Int32 × LG) :=
  (fX1_tell (LG_H st) x1 x2 x3 x4).bind (fun p15 => some (p15.1, (LG_mk p15.2 (LG_R st) (LG_F st) (LG_S st) (LG_units st))))
def fX5_hold (st : LG) (x1 : Int32) (x2 : Int32) (x3 : Int32) (x4 : Int32) : Option (Int32 × LG) :=
  (fX5_isUnit st x1).bind (fun r1 => (if r1 = 0 then some ((-1 : Int32), st) else (fX5_isUnit st x2).bind (fun r4 => (if r4 = 0 then some ((-1 : Int32), st) else (fX5_isHundredths x3).bind (fun r7 => (if r7 = 0 then some ((-2 : Int32), st) else (fX5_isDay x4).bind (fun r10 => (if r10 = 0 then some ((-2 : Int32), st) else (if x1 = x2 then some ((-3 : Int32), st) else (if x3 ≤ 0 then fX5_hold_b60 st x1 x2 x3 x4 else (fX1_mayTie (LG_H st) x1 x2).bind (fun p17 => (if p17.1 = 0 then some ((-3 : Int32), (LG_mk p17.2 (LG_R st) (LG_F st) (LG_S st) (LG_units st))) else fX5_hold_b60 (LG_mk p17.2 (LG_R st) (LG_F st) (LG_S st) (LG_units st)) x1 x2 x3 x4))))))))))))
def fX5_holds (st : LG) (x1 : Int32) (x2 : Int32) (x3 : Int32) : Option (Int32) :=
  (fX5_isUnit st x1).bind (fun r1 => (if r1 = 0 then some (-1 : Int32) else (fX5_isUnit st x2).bind (fun r4 => (if r4 = 0 then some (-1 : Int32) else (fX5_isDay x3).bind (fun r7 => (if r7 = 0 then some (-2 : Int32) else (fX1_heldOn (LG_H st) x1 x2 x3).bind (fun r10 => some r10)))))))
def fX5_share (st : LG) (x1 : Int32) (x2 : Int32) : Option (Int64 × LG) :=
  (fX5_isUnit st x1).bind (fun r1 => (if r1 = 0 then some ((-1 : Int64), st) else (fX5_isDay x2).bind (fun r4 => (if r4 = 0 then some ((-2 : Int64), st) else (fX1_shareOn (LG_H st) x1 x2).bind (fun p7 => some (p7.1, (LG_mk p7.2 (LG_R st) (LG_F st) (LG_S st) (LG_units st))))))))
def fX5_days (st : LG) (x1 : Int32) (x2 : Int32) (x3 : Int32) : Option (Int64 × LG) :=
  (fX5_isUnit st x1).bind (fun r1 => (if r1 = 0 then some ((-1 : Int64), st) else (fX5_isDay x2).bind (fun r4 => (if r4 = 0 then some ((-2 : Int64), st) else (fX5_isDay x3).bind (fun r7 => (if r7 = 0 then some ((-2 : Int64), st) else (if x2 ≤ x3 then (fX1_sharesSummed (LG_H st) x1 x2 x3).bind (fun p11 => some (p11.1, (LG_mk p11.2 (LG_R st) (LG_F st) (LG_S st) (LG_units st)))) else some ((-2 : Int64), st))))))))
def fX5_isKind (x0 : Int32) : Option (Int32) :=
  (if x0 < 0 then some (0 : Int32) else (if (4 : Int32) ≤ x0 then some (0 : Int32) else some (1 : Int32)))
def fX5_row_b26 (st : LG) (x1 : Int32) (x2 : Int32) (x3 : Int32) (x4 : Int32) (x5 : Int32) : Option (Int32 × LG) :=
  (fX5_isKind x2).bind (fun r5 => (if r5 = 0 then some ((-2 : Int32), st) else (if x3 < (1 : Int32) then some ((-2 : Int32), st) else (if (100000 : Int32) < x3 then some ((-2 : Int32), st) else (fX5_isDay x4).bind (fun r10 => (if r10 = 0 then some ((-2 : Int32), st) else (if x5 = x1 then some ((-3 : Int32), st) else (fX2_add (LG_R st) x1 x2 x3 x4 x5).bind (fun p14 => some (p14.1, (LG_mk (LG_H st) p14.2 (LG_F st) (LG_S st) (LG_units st)))))))))))
def fX5_row (st : LG) (x1 : Int32) (x2 : Int32) (x3 : Int32) (x4 : Int32) (x5 : Int32) : Option (Int32 × LG) :=
  (fX5_isUnit st x1).bind (fun r1 => (if r1 = 0 then some ((-1 : Int32), st) else (if x5 = (-9 : Int32) then fX5_row_b26 st x1 x2 x3 x4 x5 else (fX5_isUnit st x5).bind (fun r16 => (if r16 = 0 then some ((-1 : Int32), st) else fX5_row_b26 st x1 x2 x3 x4 x5)))))
def fX5_isRow (st : LG) (x1 : Int32) : Option (Int32) :=
  (if x1 < 0 then some (0 : Int32) else (if (RS_size (LG_R st)) ≤ x1 then some (0 : Int32) else some (1 : Int32)))
def fX5_isDouble (st : LG) (x1 : Int32) (x2 : Int32) : Option (Int32 × LG) :=
  (if inb x1 200 = true then (if ((RS_seller (LG_R st)) (x1).toNatClampNeg) = (-9 : Int32) then some ((0 : Int32), st) else (if inb x1 200 = true then (fX1_shareOn (LG_H st) ((RS_unit (LG_R st)) (x1).toNatClampNeg) x2).bind (fun p4 => (if (lg_cmp p4.1 (0 : Int64)) ≤ 0 then some ((0 : Int32), (LG_mk p4.2 (LG_R st) (LG_F st) (LG_S st) (LG_units st))) else (fX1_shareOn p4.2 ((RS_seller (LG_R st)) (x1).toNatClampNeg) x2).bind (fun p7 => (if (lg_cmp p7.1 (0 : Int64)) ≤ 0 then some ((0 : Int32), (LG_mk p7.2 (LG_R st) (LG_F st) (LG_S st) (LG_units st))) else some ((1 : Int32), (LG_mk p7.2 (LG_R st) (LG_F st) (LG_S st) (LG_units st))))))) else none)) else none)
def fX5_told (st : LG) (x1 : Int32) (x2 : Int32) : Option (Int32 × LG) :=
  (fX5_isRow st x1).bind (fun r1 => (if r1 = 0 then some ((-1 : Int32), st) else (if x2 = 0 then (if inb x1 200 = true then some (((RS_unit (LG_R st)) (x1).toNatClampNeg), st) else none) else (if x2 = 1 then (if inb x1 200 = true then some (((RS_kind (LG_R st)) (x1).toNatClampNeg), st) else none) else (if x2 = 2 then (if inb x1 200 = true then some (((RS_amount (LG_R st)) (x1).toNatClampNeg), st) else none) else (if x2 = 3 then (if inb x1 200 = true then some (((RS_day (LG_R st)) (x1).toNatClampNeg), st) else none) else (if x2 = 4 then (if inb x1 200 = true then some (((RS_seller (LG_R st)) (x1).toNatClampNeg), st) else none) else (if x2 = 5 then (if inb x1 200 = true then (fX5_isDouble st x1 ((RS_day (LG_R st)) (x1).toNatClampNeg)).bind (fun p15 => (if p15.1 = 0 then some ((0 : Int32), p15.2) else some ((1 : Int32), p15.2))) else none) else (if x2 = 6 then (if inb x1 200 = true then some (((RS_covered (LG_R st)) (x1).toNatClampNeg), st) else none) else some ((-2 : Int32), st))))))))))
def fX5_isYear (x0 : Int32) : Option (Int32) :=
  (if x0 < 0 then some (0 : Int32) else (if (10 : Int32) ≤ x0 then some (0 : Int32) else some (1 : Int32)))
def fX5_factor (st : LG) (x1 : Int32) (x2 : Int32) (x3 : Int32) (x4 : Int32) : Option (Int32 × LG) :=
  (fX5_isKind x1).bind (fun r1 => (if r1 = 0 then some ((-2 : Int32), st) else (fX5_isYear x2).bind (fun r4 => (if r4 = 0 then some ((-2 : Int32), st) else (if x3 < 0 then some ((-2 : Int32), st) else (if x4 < x3 then some ((-2 : Int32), st) else (if x4 ≤ (1000 : Int32) then (fX0_add (LG_F st) x1 x2 x3 x4).bind (fun p10 => some (p10.1, (LG_mk (LG_H st) (LG_R st) p10.2 (LG_S st) (LG_units st)))) else some ((-2 : Int32), st))))))))
def fX5_isAsOf_b21 (st : LG) : Option (Int32) :=
  some (1 : Int32)
def fX5_isAsOf (st : LG) (x1 : Int32) : Option (Int32) :=
  (if x1 = (-9 : Int32) then fX5_isAsOf_b21 st else (if x1 < 0 then some (0 : Int32) else (if (FS_size (LG_F st)) ≤ x1 then some (0 : Int32) else fX5_isAsOf_b21 st)))
def fX5_factorAs (st : LG) (x1 : Int32) (x2 : Int32) (x3 : Int32) (x4 : Int32) : Option (Int32) :=
  (fX5_isAsOf st x3).bind (fun r1 => (if r1 = 0 then some (-1 : Int32) else (fX5_isKind x1).bind (fun r4 => (if r4 = 0 then some (-2 : Int32) else (fX5_isYear x2).bind (fun r7 => (if r7 = 0 then some (-2 : Int32) else (fX0_versionFor (LG_F st) x1 x2 x3).bind (fun r10 => (fX0_endOf (LG_F st) r10 x4).bind (fun r12 => some r12))))))))
def fX5_versionOf (st : LG) (x1 : Int32) (x2 : Int32) : Option (Int32) :=
  (if inb x1 200 = true then (fX2_yearOf (LG_R st) x1).bind (fun r2 => (fX0_versionFor (LG_F st) ((RS_kind (LG_R st)) (x1).toNatClampNeg) r2 x2).bind (fun r4 => some r4)) else none)
def fX5_tonsOf_b83 (wa : Int32) (wm : Int32) (wo : Int32) (wh : Int32) (st : LG) (x3 : Int32) (k0 : Int32) : Option (Int64) :=
  some ((Int32.toInt64 k0) * (Int32.toInt64 x3))
def fX5_tonsOf_b56 (wa : Int32) (wm : Int32) (wo : Int32) (wh : Int32) (st : LG) (x1 : Int32) (x3 : Int32) (k0 : Int32) : Option (Int64) :=
  (if k0 = 0 then (if inb x1 200 = true then fX5_tonsOf_b83 wa wm wo wh st x3 ((RS_amount (LG_R st)) (x1).toNatClampNeg) else none) else (fX2_uncovered (LG_R st) x1).bind (fun r9 => fX5_tonsOf_b83 wa wm wo wh st x3 r9))
def fX5_tonsOf_b55 (wa : Int32) (wm : Int32) (wo : Int32) (wh : Int32) (st : LG) (x1 : Int32) (x3 : Int32) : Option (Int64) :=
  fX5_tonsOf_b56 wa wm wo wh st x1 x3 (0 : Int32)
def fX5_tonsOf (wa : Int32) (wm : Int32) (wo : Int32) (wh : Int32) (st : LG) (x1 : Int32) : Option (Int64) :=
  (fX5_versionOf st x1 wa).bind (fun r1 => (fX0_endOf (LG_F st) r1 wh).bind (fun r3 => (if r3 = (-9 : Int32) then some (-9 : Int64) else (if wm = 0 then fX5_tonsOf_b55 wa wm wo wh st x1 r3 else (if inb x1 200 = true then (if ((RS_kind (LG_R st)) (x1).toNatClampNeg) = (1 : Int32) then fX5_tonsOf_b56 wa wm wo wh st x1 r3 (1 : Int32) else fX5_tonsOf_b55 wa wm wo wh st x1 r3) else none)))))
def fX5_tons (st : LG) (x1 : Int32) (x2 : Int32) (x3 : Int32) (x4 : Int32) : Option (Int64 × LG) :=
  (fX5_isRow st x1).bind (fun r1 => (if r1 = 0 then some ((-1 : Int64), st) else (fX5_isAsOf st x2).bind (fun r4 => (if r4 = 0 then some ((-1 : Int64), st) else (if isB x3 = true then (if isB (0 : Int32) = true then (if isB x4 = true then (fX5_tonsOf x2 x3 (0 : Int32) x4 st x1).bind (fun r11 => some (r11, st)) else none) else none) else none)))))
def fX5_isChanged_b77 (st : LG) : Option (Int32) :=
  some (1 : Int32)
def fX5_isChanged (st : LG) (x1 : Int32) (x2 : Int32) (x3 : Int32) (x4 : Int32) : Option (Int32) :=
  (fX2_isOfYear (LG_R st) x1 x2).bind (fun r1 => (if r1 = 0 then some (0 : Int32) else (fX5_versionOf st x1 x3).bind (fun r4 => (fX5_versionOf st x1 x4).bind (fun r6 => (fX0_endOf (LG_F st) r4 (0 : Int32)).bind (fun r8 => (fX0_endOf (LG_F st) r6 (0 : Int32)).bind (fun r10 => (if r8 = r10 then (fX0_endOf (LG_F st) r4 (1 : Int32)).bind (fun r13 => (fX0_endOf (LG_F st) r6 (1 : Int32)).bind (fun r15 => (if r13 = r15 then some (0 : Int32) else fX5_isChanged_b77 st))) else fX5_isChanged_b77 st)))))))
def fX5_changed_b61 (st : LG) (x1 : Int32) (x2 : Int32) (x3 : Int32) (x4 : Int32) (x5 : Int32) : Option ((Int32 × Int32) ⊕ (Int32 × Int32)) :=
  some (.inl (x4, (x5 + (1 : Int32))))
def fX5_changed_l34 (st : LG) (x1 : Int32) (x2 : Int32) (x3 : Int32) (x4 : Int32) (x5 : Int32) : Option ((Int32 × Int32) ⊕ (Int32 × Int32)) :=
  (if (RS_size (LG_R st)) ≤ x5 then some (.inr (x4, x5)) else (fX5_isChanged st x5 x1 x2 x3).bind (fun r11 => (if r11 = 0 then fX5_changed_b61 st x1 x2 x3 x4 x5 else fX5_changed_b61 st x1 x2 x3 (x4 + (1 : Int32)) x5)))
def fX5_changed (st : LG) (x1 : Int32) (x2 : Int32) (x3 : Int32) : Option (Int32) :=
  (fX5_isAsOf st x2).bind (fun r1 => (if r1 = 0 then some (-1 : Int32) else (fX5_isAsOf st x3).bind (fun r4 => (if r4 = 0 then some (-1 : Int32) else (fX5_isYear x1).bind (fun r7 => (if r7 = 0 then some (-2 : Int32) else (loopN (fun (s : Int32 × Int32) => fX5_changed_l34 st x1 x2 x3 s.1 s.2) fuelN ((0 : Int32), (0 : Int32))).bind (fun y14 => some y14.1)))))))
def fX5_change_b72 (st : LG) (x1 : Int32) (x2 : Int32) (x3 : Int32) (x4 : Int32) (x5 : Int32) (x6 : Int32) : Option ((Int32 × Int32) ⊕ ((Int32 × Int32) ⊕ (Int32))) :=
  some (.inl (x5, (x6 + (1 : Int32))))
def fX5_change_l35 (st : LG) (x1 : Int32) (x2 : Int32) (x3 : Int32) (x4 : Int32) (x5 : Int32) (x6 : Int32) : Option ((Int32 × Int32) ⊕ ((Int32 × Int32) ⊕ (Int32))) :=
  (if (RS_size (LG_R st)) ≤ x6 then some (.inr (.inl (x5, x6))) else (fX5_isChanged st x6 x2 x3 x4).bind (fun r11 => (if r11 = 0 then fX5_change_b72 st x1 x2 x3 x4 x5 x6 else (if x5 = x1 then some (.inr (.inr x6)) else fX5_change_b72 st x1 x2 x3 x4 (x5 + (1 : Int32)) x6))))
def fX5_change (st : LG) (x1 : Int32) (x2 : Int32) (x3 : Int32) (x4 : Int32) : Option (Int32) :=
  (fX5_isAsOf st x3).bind (fun r1 => (if r1 = 0 then some (-1 : Int32) else (fX5_isAsOf st x4).bind (fun r4 => (if r4 = 0 then some (-1 : Int32) else (fX5_isYear x2).bind (fun r7 => (if r7 = 0 then some (-2 : Int32) else (loopN (fun (s : Int32 × Int32) => fX5_change_l35 st x1 x2 x3 x4 s.1 s.2) fuelN ((0 : Int32), (0 : Int32))).bind (fun y15 => Sum.elim (fun e_ => some (-9 : Int32)) (fun v_ => some v_) y15)))))))
def fX5_totalOf_b159 (wa : Int32) (wm : Int32) (wo : Int32) (wh : Int32) (st : LG) (x1 : Int32) (x2 : Int32) (x3 : Int32) (x5 : Int64) (x7 : Int32) : Option ((LG × Int64 × Int32) ⊕ ((LG × Int64 × Int32) ⊕ (Int64 × LG))) :=
  some (.inl (st, x5, (x7 + (1 : Int32))))
def fX5_totalOf_b126 (wa : Int32) (wm : Int32) (wo : Int32) (wh : Int32) (st : LG) (x1 : Int32) (x2 : Int32) (x3 : Int32) (x5 : Int64) (x7 : Int32) (x9 : Int64) : Option ((LG × Int64 × Int32) ⊕ ((LG × Int64 × Int32) ⊕ (Int64 × LG))) :=
  (fX5_tonsOf wa wm wo wh st x7).bind (fun r12 => (if (lg_cmp r12 (-9 : Int64)) = 0 then some (.inr (.inr ((-9 : Int64), st))) else fX5_totalOf_b159 wa wm wo wh st x1 x2 x3 (x5 + (r12 * x9)) x7))
def fX5_totalOf_b74 (wa : Int32) (wm : Int32) (wo : Int32) (wh : Int32) (st : LG) (x1 : Int32) (x2 : Int32) (x3 : Int32) (x5 : Int64) (x7 : Int32) (k0 : Int32) : Option ((LG × Int64 × Int32) ⊕ ((LG × Int64 × Int32) ⊕ (Int64 × LG))) :=
  (if inb x7 200 = true then (fX1_shareOn (LG_H st) ((RS_unit (LG_R st)) (x7).toNatClampNeg) k0).bind (fun p8 => (if (lg_cmp p8.1 (0 : Int64)) = 0 then fX5_totalOf_b159 wa wm wo wh (LG_mk p8.2 (LG_R st) (LG_F st) (LG_S st) (LG_units st)) x1 x2 x3 x5 x7 else (if wo = 0 then fX5_totalOf_b126 wa wm wo wh (LG_mk p8.2 (LG_R st) (LG_F st) (LG_S st) (LG_units st)) x1 x2 x3 x5 x7 p8.1 else (fX5_isDouble (LG_mk p8.2 (LG_R st) (LG_F st) (LG_S st) (LG_units st)) x7 k0).bind (fun p15 => (if p15.1 = 0 then fX5_totalOf_b126 wa wm wo wh p15.2 x1 x2 x3 x5 x7 p8.1 else fX5_totalOf_b159 wa wm wo wh p15.2 x1 x2 x3 x5 x7))))) else none)
def fX5_totalOf_b54 (wa : Int32) (wm : Int32) (wo : Int32) (wh : Int32) (st : LG) (x1 : Int32) (x2 : Int32) (x3 : Int32) (x5 : Int64) (x7 : Int32) : Option ((LG × Int64 × Int32) ⊕ ((LG × Int64 × Int32) ⊕ (Int64 × LG))) :=
  (if x3 = (-9 : Int32) then (if inb x7 200 = true then fX5_totalOf_b74 wa wm wo wh st x1 x2 x3 x5 x7 ((RS_day (LG_R st)) (x7).toNatClampNeg) else none) else fX5_totalOf_b74 wa wm wo wh st x1 x2 x3 x5 x7 x3)
def fX5_totalOf_l6 (wa : Int32) (wm : Int32) (wo : Int32) (wh : Int32) (x1 : Int32) (x2 : Int32) (x3 : Int32) (st : LG) (x5 : Int64) (x7 : Int32) : Option ((LG × Int64 × Int32) ⊕ ((LG × Int64 × Int32) ⊕ (Int64 × LG))) :=
  (if (RS_size (LG_R st)) ≤ x7 then some (.inr (.inl (st, x5, x7))) else (fX2_isOfYear (LG_R st) x7 x2).bind (fun r2 => (if r2 = 0 then fX5_totalOf_b159 wa wm wo wh st x1 x2 x3 x5 x7 else (if x1 = (-9 : Int32) then fX5_totalOf_b54 wa wm wo wh st x1 x2 x3 x5 x7 else (if inb x7 200 = true then (if ((RS_unit (LG_R st)) (x7).toNatClampNeg) = x1 then fX5_totalOf_b54 wa wm wo wh st x1 x2 x3 x5 x7 else fX5_totalOf_b159 wa wm wo wh st x1 x2 x3 x5 x7) else none)))))
def fX5_totalOf (wa : Int32) (wm : Int32) (wo : Int32) (wh : Int32) (st : LG) (x1 : Int32) (x2 : Int32) (x3 : Int32) : Option (Int64 × LG) :=
  (loopN (fun (s : LG × Int64 × Int32) => fX5_totalOf_l6 wa wm wo wh x1 x2 x3 s.1 s.2.1 s.2.2) fuelN (st, (0 : Int64), (0 : Int32))).bind (fun y21 => Sum.elim (fun e_ => some (e_.2.1, e_.1)) (fun v_ => some v_) y21)
def fX5_total (st : LG) (x1 : Int32) (x2 : Int32) (x3 : Int32) (x4 : Int32) (x5 : Int32) : Option (Int64 × LG) :=
  (fX5_isYear x1).bind (fun r1 => (if r1 = 0 then some ((-2 : Int64), st) else (fX5_isAsOf st x2).bind (fun r4 => (if r4 = 0 then some ((-1 : Int64), st) else (if isB x3 = true then (if isB x4 = true then (if isB x5 = true then (fX5_totalOf x2 x3 x4 x5 st (-9 : Int32) x1 (-9 : Int32)).bind (fun p11 => some (p11.1, p11.2)) else none) else none) else none)))))
def fX5_anew (st : LG) (x1 : Int32) (x2 : Int32) (x3 : Int32) (x4 : Int32) (x5 : Int32) (x6 : Int32) : Option (Int64 × LG) :=
  (fX5_isYear x1).bind (fun r1 => (if r1 = 0 then some ((-2 : Int64), st) else (fX5_isDay x2).bind (fun r4 => (if r4 = 0 then some ((-2 : Int64), st) else (fX5_isAsOf st x3).bind (fun r7 => (if r7 = 0 then some ((-1 : Int64), st) else (if isB x4 = true then (if isB x5 = true then (if isB x6 = true then (fX5_totalOf x3 x4 x5 x6 st (-9 : Int32) x1 x2).bind (fun p14 => some (p14.1, p14.2)) else none) else none) else none)))))))
def fX5_part (st : LG) (x1 : Int32) (x2 : Int32) (x3 : Int32) (x4 : Int32) (x5 : Int32) (x6 : Int32) : Option (Int64 × LG) :=
  (fX5_isUnit st x1).bind (fun r1 => (if r1 = 0 then some ((-1 : Int64), st) else (fX5_isYear x2).bind (fun r4 => (if r4 = 0 then some ((-2 : Int64), st) else (fX5_isAsOf st x3).bind (fun r7 => (if r7 = 0 then some ((-1 : Int64), st) else (if isB x4 = true then (if isB x5 = true then (if isB x6 = true then (fX5_totalOf x3 x4 x5 x6 st x1 x2 (-9 : Int32)).bind (fun p14 => some (p14.1, p14.2)) else none) else none) else none)))))))
def fX5_doubles_b57 (st : LG) (x1 : Int32) (x2 : Int32) (x3 : Int32) : Option ((LG × Int32 × Int32) ⊕ (LG × Int32 × Int32)) :=
  some (.inl (st, x2, (x3 + (1 : Int32))))
def fX5_doubles_l14 (x1 : Int32) (st : LG) (x2 : Int32) (x3 : Int32) : Option ((LG × Int32 × Int32) ⊕ (LG × Int32 × Int32)) :=
  (if (RS_size (LG_R st)) ≤ x3 then some (.inr (st, x2, x3)) else (fX2_isOfYear (LG_R st) x3 x1).bind (fun r5 => (if r5 = 0 then fX5_doubles_b57 st x1 x2 x3 else (if inb x3 200 = true then (fX5_isDouble st x3 ((RS_day (LG_R st)) (x3).toNatClampNeg)).bind (fun p9 => (if p9.1 = 0 then fX5_doubles_b57 p9.2 x1 x2 x3 else fX5_doubles_b57 p9.2 x1 (x2 + (1 : Int32)) x3)) else none))))
def fX5_doubles (st : LG) (x1 : Int32) : Option (Int32 × LG) :=
  (fX5_isYear x1).bind (fun r1 => (if r1 = 0 then some ((-2 : Int32), st) else (loopN (fun (s : LG × Int32 × Int32) => fX5_doubles_l14 x1 s.1 s.2.1 s.2.2) fuelN (st, (0 : Int32), (0 : Int32))).bind (fun y12 => some (y12.2.1, y12.1))))
def fX5_cutPart (x0 : Int64) (x2 : Int64) (x4 : Int64) : Option (Int64) :=
  (if 0 < (lg_cmp x4 (0 : Int64)) then (if x4 = 0 then none else (if x4 = 0 then none else (if x4 = 0 then none else some (((x0 / x4) * x2) + (((x0 - x0 / x4 * x4) * x2) / x4))))) else some (0 : Int64))
def fX5_onPath (st : LG) (x1 : Int32) (x2 : Int32) (x3 : Int32) (x4 : Int32) : Option (Int32 × LG) :=
  (fX5_isYear x1).bind (fun r1 => (if r1 = 0 then some ((-2 : Int32), st) else (fX5_isYear x2).bind (fun r4 => (if r4 = 0 then some ((-2 : Int32), st) else (fX5_isYear x3).bind (fun r7 => (if r7 = 0 then some ((-2 : Int32), st) else (fX5_isHundredths x4).bind (fun r10 => (if r10 = 0 then some ((-2 : Int32), st) else (if x3 ≤ x2 then some ((-2 : Int32), st) else (if x1 < x2 then some ((-2 : Int32), st) else (if x1 ≤ x3 then (if isB (1 : Int32) = true then (if isB (1 : Int32) = true then (if isB (0 : Int32) = true then (fX5_totalOf (-9 : Int32) (1 : Int32) (1 : Int32) (0 : Int32) st (-9 : Int32) x1 (-9 : Int32)).bind (fun p20 => (if isB (1 : Int32) = true then (if isB (1 : Int32) = true then (if isB (1 : Int32) = true then (fX5_totalOf (-9 : Int32) (1 : Int32) (1 : Int32) (1 : Int32) p20.2 (-9 : Int32) x2 (-9 : Int32)).bind (fun p26 => (if (lg_cmp p20.1 (-9 : Int64)) = 0 then some ((-9 : Int32), p26.2) else (if (lg_cmp p26.1 (-9 : Int64)) = 0 then some ((-9 : Int32), p26.2) else (fX5_cutPart p26.1 (((100 : Int64) * (Int32.toInt64 (x3 - x2))) - ((Int32.toInt64 x4) * (Int32.toInt64 (x1 - x2)))) ((100 : Int64) * (Int32.toInt64 (x3 - x2)))).bind (fun r30 => (if 0 < (lg_cmp p20.1 r30) then some ((0 : Int32), p26.2) else some ((1 : Int32), p26.2)))))) else none) else none) else none)) else none) else none) else none) else some ((-2 : Int32), st))))))))))))
def fX5_issue (st : LG) (x1 : Int32) (x2 : Int32) : Option (Int32 × LG) :=
  (fX5_isUnit st x1).bind (fun r1 => (if r1 = 0 then some ((-1 : Int32), st) else (if x2 < (1 : Int32) then some ((-2 : Int32), st) else (if x2 ≤ (20000 : Int32) then (fX3_add (LG_S st) x1 x2).bind (fun p6 => some (p6.1, (LG_mk (LG_H st) (LG_R st) (LG_F st) p6.2 (LG_units st)))) else some ((-2 : Int32), st)))))
def fX5_move (st : LG) (x1 : Int32) (x2 : Int32) (x3 : Int32) : Option (Int32 × LG) :=
  (fX5_isUnit st x3).bind (fun r1 => (if r1 = 0 then some ((-1 : Int32), st) else (if (1 : Int32) ≤ x2 then (fX3_areIssued (LG_S st) x1 x2).bind (fun r5 => (if r5 = 0 then some ((-1 : Int32), st) else (fX3_usedAmong (LG_S st) x1 x2).bind (fun r8 => (if r8 ≤ 0 then (fX3_ownedAmong (LG_S st) x1 x2 x3).bind (fun r11 => (fX3_mark (LG_S st) x1 x2 x3 (-9 : Int32)).bind (fun p13 => some ((x2 - r11), (LG_mk (LG_H st) (LG_R st) (LG_F st) p13 (LG_units st))))) else some ((-3 : Int32), st))))) else some ((-2 : Int32), st))))
def fX5_use (st : LG) (x1 : Int32) (x2 : Int32) (x3 : Int32) : Option (Int32 × LG) :=
  (fX5_isRow st x3).bind (fun r1 => (if r1 = 0 then some ((-1 : Int32), st) else (if (1 : Int32) ≤ x2 then (fX3_areIssued (LG_S st) x1 x2).bind (fun r5 => (if r5 = 0 then some ((-1 : Int32), st) else (if inb x3 200 = true then (fX3_usedAmong (LG_S st) x1 x2).bind (fun r9 => (if 0 < r9 then some ((-3 : Int32), st) else (if inb x3 200 = true then (if ((RS_kind (LG_R st)) (x3).toNatClampNeg) = (1 : Int32) then (fX3_ownedAmong (LG_S st) x1 x2 ((RS_unit (LG_R st)) (x3).toNatClampNeg)).bind (fun r14 => (if x2 ≤ r14 then (fX2_uncovered (LG_R st) x3).bind (fun r17 => (if x2 ≤ r17 then (fX3_mark (LG_S st) x1 x2 ((RS_unit (LG_R st)) (x3).toNatClampNeg) x3).bind (fun p20 => (if inb x3 200 = true then (if inb x3 200 = true then (if inb x3 200 = true then some (((upd (RS_covered (LG_R st)) (x3).toNatClampNeg (((RS_covered (LG_R st)) (x3).toNatClampNeg) + x2)) (x3).toNatClampNeg), (LG_mk (LG_H st) (RS_covered_s (LG_R st) (upd (RS_covered (LG_R st)) (x3).toNatClampNeg (((RS_covered (LG_R st)) (x3).toNatClampNeg) + x2))) (LG_F st) p20 (LG_units st))) else none) else none) else none)) else some ((-4 : Int32), st))) else some ((-3 : Int32), st))) else some ((-3 : Int32), st)) else none))) else none))) else some ((-2 : Int32), st))))
def fX5_owner (st : LG) (x1 : Int32) : Option (Int32) :=
  (fX3_areIssued (LG_S st) x1 (1 : Int32)).bind (fun r1 => (if r1 = 0 then some (-1 : Int32) else (fX3_runWith (LG_S st) x1).bind (fun r4 => (if inb r4 (SS_cap (LG_S st)) = true then some ((SS_owner (LG_S st)) (r4).toNatClampNeg) else none))))
def fX5_usedFor (st : LG) (x1 : Int32) : Option (Int32) :=
  (fX3_areIssued (LG_S st) x1 (1 : Int32)).bind (fun r1 => (if r1 = 0 then some (-1 : Int32) else (fX3_runWith (LG_S st) x1).bind (fun r4 => (if inb r4 (SS_cap (LG_S st)) = true then some ((SS_row (LG_S st)) (r4).toNatClampNeg) else none))))
def fX5_free (st : LG) (x1 : Int32) : Option (Int32) :=
  (fX5_isUnit st x1).bind (fun r1 => (if r1 = 0 then some (-1 : Int32) else (fX3_unusedOf (LG_S st) x1).bind (fun r4 => some r4)))
def fX5_runs (st : LG) : Option (Int32) :=
  some (SS_size (LG_S st))
def fX5_run (st : LG) (x1 : Int32) (x2 : Int32) : Option (Int32) :=
  (if x1 < 0 then some (-1 : Int32) else (if x1 < (SS_size (LG_S st)) then (if x2 = 0 then (if inb x1 (SS_cap (LG_S st)) = true then some ((SS_first (LG_S st)) (x1).toNatClampNeg) else none) else (if x2 = 1 then (fX3_lengthOf (LG_S st) x1).bind (fun r5 => some r5) else (if x2 = 2 then (if inb x1 (SS_cap (LG_S st)) = true then some ((SS_owner (LG_S st)) (x1).toNatClampNeg) else none) else (if x2 = 3 then (if inb x1 (SS_cap (LG_S st)) = true then some ((SS_row (LG_S st)) (x1).toNatClampNeg) else none) else some (-2 : Int32))))) else some (-1 : Int32)))
def fX5_count (st : LG) (x1 : Int32) : Option (Int32) :=
  (if x1 = 0 then some (LG_units st) else (if x1 = 1 then some (RS_size (LG_R st)) else (if x1 = 2 then some (FS_size (LG_F st)) else (if x1 = 3 then some (SS_issued (LG_S st)) else (if x1 = 4 then some (HS_size (LG_H st)) else some (-2 : Int32))))))
def fX6_in (x0 : Int64) (x2 : Int64) (x4 : Int64) : Option (Int32) :=
  (if (lg_cmp x0 x2) < 0 then some (0 : Int32) else (if 0 < (lg_cmp x0 x4) then some (0 : Int32) else some (1 : Int32)))
def fX6_noUnit (st : MS) (x1 : Int32) : Option (Int32) :=
  (fX6_in (Int32.toInt64 x1) (0 : Int64) (Int32.toInt64 ((MS_units st) - (1 : Int32)))).bind (fun r1 => (if r1 = 0 then some (1 : Int32) else some (0 : Int32)))
def fX6_noDay (x0 : Int32) : Option (Int32) :=
  (fX6_in (Int32.toInt64 x0) (0 : Int64) (3649 : Int64)).bind (fun r1 => (if r1 = 0 then some (1 : Int32) else some (0 : Int32)))
def fX6_noYear (x0 : Int32) : Option (Int32) :=
  (fX6_in (Int32.toInt64 x0) (0 : Int64) (9 : Int64)).bind (fun r1 => (if r1 = 0 then some (1 : Int32) else some (0 : Int32)))
def fX6_noAs (st : MS) (x1 : Int32) : Option (Int32) :=
  (if x1 = (-9 : Int32) then some (0 : Int32) else (fX6_in (Int32.toInt64 x1) (0 : Int64) (Int32.toInt64 ((MS_versions st) - (1 : Int32)))).bind (fun r2 => (if r2 = 0 then some (1 : Int32) else some (0 : Int32))))
def fX6_noRow (st : MS) (x1 : Int32) : Option (Int32) :=
  (fX6_in (Int32.toInt64 x1) (0 : Int64) (Int32.toInt64 ((MS_rows st) - (1 : Int32)))).bind (fun r1 => (if r1 = 0 then some (1 : Int32) else some (0 : Int32)))
def fX6_unit (st : MS) : Option (Int32 × MS) :=
  (bnd (MS_thrown_s st (0 : Int32)) (fun s1 => (if (MS_units s1) = (10 : Int32) then some ((-4 : Int32), s1) else (bnd (MS_units_s s1 ((MS_units s1) + (1 : Int32))) (fun s4 => some (((MS_units s4) - (1 : Int32)), s4))))))
def fX6_lay_l2 (x1 : Int32) (st : MS) (x2 : Int32) : Option ((MS × Int32) ⊕ (MS × Int32)) :=
  (if (100 : Int32) ≤ x2 then some (.inr (st, x2)) else (if inb x2 100 = true then (bnd (MS_held_s st (upd (MS_held st) (x2).toNatClampNeg (0 : Int32))) (fun s3 => (if inb (x2 / (10 : Int32)) 10 = true then (bnd (MS_deep_s s3 (upd (MS_deep s3) ((x2 / (10 : Int32))).toNatClampNeg (-9 : Int32))) (fun s6 => some (.inl (s6, (x2 + (1 : Int32)))))) else none))) else none))
def fX6_lay_l34 (x1 : Int32) (st : MS) (x2 : Int32) : Option ((MS × Int32) ⊕ (MS × Int32)) :=
  (if (100 : Int32) ≤ x2 then some (.inr (st, x2)) else (if inb x2 100 = true then (bnd (MS_edge_s st (upd (MS_edge st) (x2).toNatClampNeg (vp_nar .boolean (0 : Int32)))) (fun s11 => some (.inl (s11, (x2 + (1 : Int32)))))) else none))
def fX6_lay_b213 (st : MS) (x1 : Int32) (x2 : Int32) : Option ((MS × Int32) ⊕ (MS × Int32)) :=
  some (.inl (st, (x2 + (1 : Int32))))
def fX6_lay_b176 (st : MS) (x1 : Int32) (x2 : Int32) (x3 : Int32) (x4 : Int32) (x5 : Int32) : Option ((Int32 × Int32) ⊕ (Int32 × Int32)) :=
  some (.inl (x4, (x5 + (1 : Int32))))
def fX6_lay_b172 (st : MS) (x1 : Int32) (x2 : Int32) (x3 : Int32) (x5 : Int32) : Option ((Int32 × Int32) ⊕ (Int32 × Int32)) :=
  fX6_lay_b176 st x1 x2 x3 x5 x5
def fX6_lay_l96 (st : MS) (x1 : Int32) (x2 : Int32) (x3 : Int32) (x4 : Int32) (x5 : Int32) : Option ((Int32 × Int32) ⊕ (Int32 × Int32)) :=
  (if (MS_holdings st) ≤ x5 then some (.inr (x4, x5)) else (if inb x5 100 = true then (if inb x2 100 = true then (if ((MS_who st) (x5).toNatClampNeg) = ((MS_who st) (x2).toNatClampNeg) then (if inb x5 100 = true then (if inb x2 100 = true then (if ((MS_whom st) (x5).toNatClampNeg) = ((MS_whom st) (x2).toNatClampNeg) then (if inb x5 100 = true then (if x1 < ((MS_since st) (x5).toNatClampNeg) then fX6_lay_b176 st x1 x2 x3 x4 x5 else (if x4 = (-9 : Int32) then fX6_lay_b172 st x1 x2 x3 x5 else (if inb x5 100 = true then (if inb x4 100 = true then (if ((MS_since st) (x5).toNatClampNeg) ≤ ((MS_since st) (x4).toNatClampNeg) then fX6_lay_b176 st x1 x2 x3 x4 x5 else fX6_lay_b172 st x1 x2 x3 x5) else none) else none))) else none) else fX6_lay_b176 st x1 x2 x3 x4 x5) else none) else none) else fX6_lay_b176 st x1 x2 x3 x4 x5) else none) else none))
def fX6_lay_b205 (st : MS) (x1 : Int32) (x2 : Int32) (x3 : Int32) (k1 : Int32) (k2 : Int32) : Option ((MS × Int32) ⊕ (MS × Int32)) :=
  (if inb k1 100 = true then (bnd (MS_held_s st (upd (MS_held st) (k1).toNatClampNeg k2)) (fun s36 => (if inb x3 100 = true then (bnd (MS_edge_s s36 (upd (MS_edge s36) (x3).toNatClampNeg (vp_nar .boolean (1 : Int32)))) (fun s39 => fX6_lay_b213 s39 x1 x2)) else none))) else none)
def fX6_lay_l55 (x1 : Int32) (st : MS) (x2 : Int32) : Option ((MS × Int32) ⊕ (MS × Int32)) :=
  (if (MS_holdings st) ≤ x2 then some (.inr (st, x2)) else (if inb x2 100 = true then (if inb x2 100 = true then (if inb (((10 : Int32) * ((MS_who st) (x2).toNatClampNeg)) + ((MS_whom st) (x2).toNatClampNeg)) 100 = true then (if ((MS_edge st) ((((10 : Int32) * ((MS_who st) (x2).toNatClampNeg)) + ((MS_whom st) (x2).toNatClampNeg))).toNatClampNeg) = 0 then (loopN (fun (s : Int32 × Int32) => fX6_lay_l96 st x1 x2 (((10 : Int32) * ((MS_who st) (x2).toNatClampNeg)) + ((MS_whom st) (x2).toNatClampNeg)) s.1 s.2) fuelN ((-9 : Int32), x2)).bind (fun y32 => (if y32.1 = (-9 : Int32) then fX6_lay_b205 st x1 x2 (((10 : Int32) * ((MS_who st) (x2).toNatClampNeg)) + ((MS_whom st) (x2).toNatClampNeg)) (((10 : Int32) * ((MS_who st) (x2).toNatClampNeg)) + ((MS_whom st) (x2).toNatClampNeg)) (0 : Int32) else (if inb y32.1 100 = true then fX6_lay_b205 st x1 x2 (((10 : Int32) * ((MS_who st) (x2).toNatClampNeg)) + ((MS_whom st) (x2).toNatClampNeg)) (((10 : Int32) * ((MS_who st) (x2).toNatClampNeg)) + ((MS_whom st) (x2).toNatClampNeg)) ((MS_part st) (y32.1).toNatClampNeg) else none))) else fX6_lay_b213 st x1 x2) else none) else none) else none))
def fX6_lay (st : MS) (x1 : Int32) : Option (MS) :=
  (loopN (fun (s : MS × Int32) => fX6_lay_l2 x1 s.1 s.2) fuelN (st, (0 : Int32))).bind (fun y8 => (loopN (fun (s : MS × Int32) => fX6_lay_l34 x1 s.1 s.2) fuelN (y8.1, (0 : Int32))).bind (fun y13 => (loopN (fun (s : MS × Int32) => fX6_lay_l55 x1 s.1 s.2) fuelN (y13.1, (0 : Int32))).bind (fun y41 => some y41.1)))
def fX6_shares_l88 (x2 : Int32) (x3 : Int32) (st : MS) (x4 : Int32) : Option ((MS × Int32) ⊕ (MS × Int32)) :=
  (if (10 : Int32) ≤ x4 then some (.inr (st, x4)) else (if inb x2 10 = true then (if inb x3 100 = true then (if inb (((10 : Int32) * x3) + x4) 100 = true then (if inb (((10 : Int32) * x4) + x2) 100 = true then (if inb x2 10 = true then (bnd (MS_share_s st (vp_updL (MS_share st) (x2).toNatClampNeg (((MS_share st) (x2).toNatClampNeg) + (((Int32.toInt64 ((MS_held st) (x3).toNatClampNeg)) * (Int32.toInt64 ((MS_held st) ((((10 : Int32) * x3) + x4)).toNatClampNeg))) * (Int32.toInt64 ((MS_held st) ((((10 : Int32) * x4) + x2)).toNatClampNeg)))))) (fun s23 => some (.inl (s23, (x4 + (1 : Int32)))))) else none) else none) else none) else none) else none))
def fX6_shares_l42 (x2 : Int32) (st : MS) (x3 : Int32) : Option ((MS × Int32) ⊕ (MS × Int32)) :=
  (if (10 : Int32) ≤ x3 then some (.inr (st, x3)) else (if x2 ≤ 0 then some (.inr (st, x3)) else (if inb x2 10 = true then (if inb x3 100 = true then (if inb (((10 : Int32) * x3) + x2) 100 = true then (if inb x2 10 = true then (bnd (MS_share_s st (vp_updL (MS_share st) (x2).toNatClampNeg (((MS_share st) (x2).toNatClampNeg) + (((100 : Int64) * (Int32.toInt64 ((MS_held st) (x3).toNatClampNeg))) * (Int32.toInt64 ((MS_held st) ((((10 : Int32) * x3) + x2)).toNatClampNeg)))))) (fun s15 => (loopN (fun (s : MS × Int32) => fX6_shares_l88 x2 x3 s.1 s.2) fuelN (s15, (1 : Int32))).bind (fun y25 => some (.inl (y25.1, (x3 + (1 : Int32))))))) else none) else none) else none) else none)))
def fX6_shares_b39 (st : MS) (x2 : Int32) (k1 : Int32) (k2 : Int64) : Option ((MS × Int32) ⊕ (MS × Int32)) :=
  (if inb k1 10 = true then (bnd (MS_share_s st (vp_updL (MS_share st) (k1).toNatClampNeg k2)) (fun s7 => (loopN (fun (s : MS × Int32) => fX6_shares_l42 x2 s.1 s.2) fuelN (s7, (1 : Int32))).bind (fun y26 => some (.inl (y26.1, (x2 + (1 : Int32))))))) else none)
def fX6_shares_l7 (st : MS) (x2 : Int32) : Option ((MS × Int32) ⊕ (MS × Int32)) :=
  (if (10 : Int32) ≤ x2 then some (.inr (st, x2)) else (if x2 = 0 then fX6_shares_b39 st x2 x2 (1000000 : Int64) else (if inb x2 100 = true then fX6_shares_b39 st x2 x2 ((10000 : Int64) * (Int32.toInt64 ((MS_held st) (x2).toNatClampNeg))) else none)))
def fX6_shares (st : MS) (x1 : Int32) : Option (MS) :=
  (fX6_lay st x1).bind (fun p1 => (loopN (fun (s : MS × Int32) => fX6_shares_l7 s.1 s.2) fuelN (p1, (0 : Int32))).bind (fun y27 => some y27.1))
def fX6_mayHold_b28 (st : MS) (x1 : Int32) (x2 : Int32) (x3 : Int32) (k1 : Int32) (k2 : Int32) : Option ((MS × Int32) ⊕ (MS × Int32)) :=
  (if inb k1 100 = true then (bnd (MS_edge_s st (upd (MS_edge st) (k1).toNatClampNeg (vp_nar .boolean k2))) (fun s4 => some (.inl (s4, (x3 + (1 : Int32)))))) else none)
def fX6_mayHold_l2 (x1 : Int32) (x2 : Int32) (st : MS) (x3 : Int32) : Option ((MS × Int32) ⊕ (MS × Int32)) :=
  (if (100 : Int32) ≤ x3 then some (.inr (st, x3)) else (if x3 = (((10 : Int32) * x1) + x2) then fX6_mayHold_b28 st x1 x2 x3 x3 (1 : Int32) else fX6_mayHold_b28 st x1 x2 x3 x3 (0 : Int32)))
def fX6_mayHold_b81 (st : MS) (x3 : Int32) (k1 : Int32) (k2 : Int32) (k3 : Int32) : Option ((MS × Int32) ⊕ (MS × Int32)) :=
  (if inb k1 100 = true then (bnd (MS_edge_s st (upd (MS_edge st) (k1).toNatClampNeg (vp_nar .boolean (k2 ||| k3)))) (fun s14 => some (.inl (s14, (x3 + (1 : Int32)))))) else none)
def fX6_mayHold_l37 (st : MS) (x3 : Int32) : Option ((MS × Int32) ⊕ (MS × Int32)) :=
  (if (MS_holdings st) ≤ x3 then some (.inr (st, x3)) else (if inb x3 100 = true then (if inb x3 100 = true then (if inb (((10 : Int32) * ((MS_who st) (x3).toNatClampNeg)) + ((MS_whom st) (x3).toNatClampNeg)) 100 = true then (if inb x3 100 = true then (if ((MS_part st) (x3).toNatClampNeg) ≤ 0 then fX6_mayHold_b81 st x3 (((10 : Int32) * ((MS_who st) (x3).toNatClampNeg)) + ((MS_whom st) (x3).toNatClampNeg)) ((MS_edge st) ((((10 : Int32) * ((MS_who st) (x3).toNatClampNeg)) + ((MS_whom st) (x3).toNatClampNeg))).toNatClampNeg) (0 : Int32) else fX6_mayHold_b81 st x3 (((10 : Int32) * ((MS_who st) (x3).toNatClampNeg)) + ((MS_whom st) (x3).toNatClampNeg)) ((MS_edge st) ((((10 : Int32) * ((MS_who st) (x3).toNatClampNeg)) + ((MS_whom st) (x3).toNatClampNeg))).toNatClampNeg) (1 : Int32)) else none) else none) else none) else none))
def fX6_mayHold_b132 (st : MS) (x3 : Int32) (x4 : Int32) (x5 : Int32) (k1 : Int32) (k2 : Int32) : Option ((MS × Int32) ⊕ (MS × Int32)) :=
  (if inb k1 10 = true then (bnd (MS_deep_s st (upd (MS_deep st) (k1).toNatClampNeg k2)) (fun s21 => some (.inl (s21, (x5 + (1 : Int32)))))) else none)
def fX6_mayHold_b126 (st : MS) (x3 : Int32) (x4 : Int32) (x5 : Int32) (k1 : Int32) : Option ((MS × Int32) ⊕ (MS × Int32)) :=
  fX6_mayHold_b132 st x3 x4 x5 k1 (0 : Int32)
def fX6_mayHold_l103 (x3 : Int32) (x4 : Int32) (st : MS) (x5 : Int32) : Option ((MS × Int32) ⊕ (MS × Int32)) :=
  (if (10 : Int32) ≤ x5 then some (.inr (st, x5)) else (if x4 = 0 then fX6_mayHold_b126 st x3 x4 x5 x5 else (if x5 = 0 then fX6_mayHold_b126 st x3 x4 x5 x5 else fX6_mayHold_b132 st x3 x4 x5 x5 (-9 : Int32))))
def fX6_mayHold_b229 (st : MS) (x3 : Int32) (x4 : Int32) (x5 : Int32) (x6 : Int32) : Option ((MS × Int32) ⊕ (MS × Int32)) :=
  some (.inl (st, (x6 + (1 : Int32))))
def fX6_mayHold_l152 (x3 : Int32) (x4 : Int32) (x5 : Int32) (st : MS) (x6 : Int32) : Option ((MS × Int32) ⊕ (MS × Int32)) :=
  (if (100 : Int32) ≤ x6 then some (.inr (st, x6)) else (if inb x6 100 = true then (if ((MS_edge st) (x6).toNatClampNeg) = 0 then fX6_mayHold_b229 st x3 x4 x5 x6 else (if inb (x6 / (10 : Int32)) 10 = true then (if ((MS_deep st) ((x6 / (10 : Int32))).toNatClampNeg) < 0 then fX6_mayHold_b229 st x3 x4 x5 x6 else (if inb (x6 - x6 / (10 : Int32) * (10 : Int32)) 10 = true then (if inb (x6 / (10 : Int32)) 10 = true then (if (((MS_deep st) ((x6 / (10 : Int32))).toNatClampNeg) + (1 : Int32)) ≤ ((MS_deep st) ((x6 - x6 / (10 : Int32) * (10 : Int32))).toNatClampNeg) then fX6_mayHold_b229 st x3 x4 x5 x6 else (if inb (x6 / (10 : Int32)) 10 = true then (if inb (x6 - x6 / (10 : Int32) * (10 : Int32)) 10 = true then (bnd (MS_deep_s st (upd (MS_deep st) ((x6 - x6 / (10 : Int32) * (10 : Int32))).toNatClampNeg (((MS_deep st) ((x6 / (10 : Int32))).toNatClampNeg) + (1 : Int32)))) (fun s36 => fX6_mayHold_b229 s36 x3 x4 x5 x6)) else none) else none)) else none) else none)) else none)) else none))
def fX6_mayHold_l142 (x3 : Int32) (x4 : Int32) (st : MS) (x5 : Int32) : Option ((MS × Int32) ⊕ (MS × Int32)) :=
  (if (11 : Int32) ≤ x5 then some (.inr (st, x5)) else (loopN (fun (s : MS × Int32) => fX6_mayHold_l152 x3 x4 x5 s.1 s.2) fuelN (st, (0 : Int32))).bind (fun y38 => some (.inl (y38.1, (x5 + (1 : Int32))))))
def fX6_mayHold_b281 (st : MS) (x4 : Int32) (x5 : Int32) (k0 : Int32) : Option ((Int32 × Int32) ⊕ (Int32 × Int32)) :=
  some (.inl (k0, (x5 + (1 : Int32))))
def fX6_mayHold_b280 (st : MS) (x4 : Int32) (x5 : Int32) : Option ((Int32 × Int32) ⊕ (Int32 × Int32)) :=
  fX6_mayHold_b281 st x4 x5 (0 : Int32)
def fX6_mayHold_b273 (st : MS) (x4 : Int32) (x5 : Int32) (k0 : Int32) (k1 : Int32) : Option ((Int32 × Int32) ⊕ (Int32 × Int32)) :=
  (if k1 < k0 then fX6_mayHold_b280 st x4 x5 else fX6_mayHold_b281 st x4 x5 (1 : Int32))
def fX6_mayHold_l244 (st : MS) (x4 : Int32) (x3 : Int32) (x5 : Int32) : Option ((Int32 × Int32) ⊕ (Int32 × Int32)) :=
  (if (10 : Int32) ≤ x5 then some (.inr (x3, x5)) else (if x3 = 0 then fX6_mayHold_b280 st x4 x5 else (if inb x5 10 = true then (if x4 = 0 then fX6_mayHold_b273 st x4 x5 ((MS_deep st) (x5).toNatClampNeg) (9 : Int32) else fX6_mayHold_b273 st x4 x5 ((MS_deep st) (x5).toNatClampNeg) (3 : Int32)) else none)))
def fX6_mayHold_l94 (st : MS) (x3 : Int32) (x4 : Int32) : Option ((MS × Int32 × Int32) ⊕ (MS × Int32 × Int32)) :=
  (if (2 : Int32) ≤ x4 then some (.inr (st, x3, x4)) else (loopN (fun (s : MS × Int32) => fX6_mayHold_l103 x3 x4 s.1 s.2) fuelN (st, (0 : Int32))).bind (fun y24 => (loopN (fun (s : MS × Int32) => fX6_mayHold_l142 x3 x4 s.1 s.2) fuelN (y24.1, (0 : Int32))).bind (fun y39 => (loopN (fun (s : Int32 × Int32) => fX6_mayHold_l244 y39.1 x4 s.1 s.2) fuelN (x3, (0 : Int32))).bind (fun y45 => some (.inl (y39.1, y45.1, (x4 + (1 : Int32))))))))
def fX6_mayHold (st : MS) (x1 : Int32) (x2 : Int32) : Option (Int32 × MS) :=
  (loopN (fun (s : MS × Int32) => fX6_mayHold_l2 x1 x2 s.1 s.2) fuelN (st, (0 : Int32))).bind (fun y6 => (loopN (fun (s : MS × Int32) => fX6_mayHold_l37 s.1 s.2) fuelN (y6.1, (0 : Int32))).bind (fun y16 => (loopN (fun (s : MS × Int32 × Int32) => fX6_mayHold_l94 s.1 s.2.1 s.2.2) fuelN (y16.1, (1 : Int32), (0 : Int32))).bind (fun y46 => (if isB y46.2.1 = true then some (y46.2.1, y46.1) else none))))
def fX6_hold_b145 (st : MS) (x1 : Int32) (x2 : Int32) (x3 : Int32) (x4 : Int32) (x5 : Int32) (x7 : Int32) (k0 : Int32) : Option ((Int32 × Int32) ⊕ (Int32 × Int32)) :=
  some (.inl (k0, (x7 + (1 : Int32))))
def fX6_hold_b143 (st : MS) (x1 : Int32) (x2 : Int32) (x3 : Int32) (x4 : Int32) (x5 : Int32) (x6 : Int32) (x7 : Int32) : Option ((Int32 × Int32) ⊕ (Int32 × Int32)) :=
  fX6_hold_b145 st x1 x2 x3 x4 x5 x7 x6
def fX6_hold_l95 (st : MS) (x1 : Int32) (x2 : Int32) (x3 : Int32) (x4 : Int32) (x5 : Int32) (x6 : Int32) (x7 : Int32) : Option ((Int32 × Int32) ⊕ (Int32 × Int32)) :=
  (if (MS_holdings st) ≤ x7 then some (.inr (x6, x7)) else (if inb x7 100 = true then (if ((MS_who st) (x7).toNatClampNeg) = x1 then (if inb x7 100 = true then (if ((MS_whom st) (x7).toNatClampNeg) = x2 then (if inb x7 100 = true then (if ((MS_since st) (x7).toNatClampNeg) = x4 then fX6_hold_b145 st x1 x2 x3 x4 x5 x7 x7 else fX6_hold_b143 st x1 x2 x3 x4 x5 x6 x7) else none) else fX6_hold_b143 st x1 x2 x3 x4 x5 x6 x7) else none) else fX6_hold_b143 st x1 x2 x3 x4 x5 x6 x7) else none))
def fX6_hold_b219 (st : MS) (x5 : Int32) (k1 : Int32) : Option (Int32 × MS) :=
  (bnd (MS_holdings_s st k1) (fun s42 => some (x5, s42)))
def fX6_hold_b67 (st : MS) (x1 : Int32) (x2 : Int32) (x3 : Int32) (x4 : Int32) : Option (Int32 × MS) :=
  (fX6_lay st x4).bind (fun p17 => (if inb (((10 : Int32) * x1) + x2) 100 = true then (loopN (fun (s : Int32 × Int32) => fX6_hold_l95 p17 x1 x2 x3 x4 ((MS_held p17) ((((10 : Int32) * x1) + x2)).toNatClampNeg) s.1 s.2) fuelN ((MS_holdings p17), (0 : Int32))).bind (fun y27 => (if y27.1 = (100 : Int32) then some ((-4 : Int32), p17) else (if inb y27.1 100 = true then (bnd (MS_who_s p17 (upd (MS_who p17) (y27.1).toNatClampNeg x1)) (fun s30 => (if inb y27.1 100 = true then (bnd (MS_whom_s s30 (upd (MS_whom s30) (y27.1).toNatClampNeg x2)) (fun s33 => (if inb y27.1 100 = true then (bnd (MS_part_s s33 (upd (MS_part s33) (y27.1).toNatClampNeg x3)) (fun s36 => (if inb y27.1 100 = true then (bnd (MS_since_s s36 (upd (MS_since s36) (y27.1).toNatClampNeg x4)) (fun s39 => (if y27.1 = (MS_holdings s39) then fX6_hold_b219 s39 ((MS_held p17) ((((10 : Int32) * x1) + x2)).toNatClampNeg) ((MS_holdings s39) + (1 : Int32)) else fX6_hold_b219 s39 ((MS_held p17) ((((10 : Int32) * x1) + x2)).toNatClampNeg) (MS_holdings s39)))) else none))) else none))) else none))) else none))) else none))
def fX6_hold (st : MS) (x1 : Int32) (x2 : Int32) (x3 : Int32) (x4 : Int32) : Option (Int32 × MS) :=
  (bnd (MS_thrown_s st (0 : Int32)) (fun s1 => (fX6_noUnit s1 x1).bind (fun r3 => (if r3 = 0 then (fX6_noUnit s1 x2).bind (fun r6 => (if r6 = 0 then (fX6_in (Int32.toInt64 x3) (0 : Int64) (100 : Int64)).bind (fun r9 => (if r9 = 0 then some ((-2 : Int32), s1) else (fX6_noDay x4).bind (fun r12 => (if r12 = 0 then (if x1 = x2 then some ((-3 : Int32), s1) else (if x3 ≤ 0 then fX6_hold_b67 s1 x1 x2 x3 x4 else (fX6_mayHold s1 x1 x2).bind (fun p44 => (if p44.1 = 0 then some ((-3 : Int32), p44.2) else fX6_hold_b67 p44.2 x1 x2 x3 x4)))) else some ((-2 : Int32), s1))))) else some ((-1 : Int32), s1))) else some ((-1 : Int32), s1)))))
def fX6_holds (st : MS) (x1 : Int32) (x2 : Int32) (x3 : Int32) : Option (Int32 × MS) :=
  (bnd (MS_thrown_s st (0 : Int32)) (fun s1 => (fX6_noUnit s1 x1).bind (fun r3 => (if r3 = 0 then (fX6_noUnit s1 x2).bind (fun r6 => (if r6 = 0 then (fX6_noDay x3).bind (fun r9 => (if r9 = 0 then (fX6_lay s1 x3).bind (fun p12 => (if inb (((10 : Int32) * x1) + x2) 100 = true then some (((MS_held p12) ((((10 : Int32) * x1) + x2)).toNatClampNeg), p12) else none)) else some ((-2 : Int32), s1))) else some ((-1 : Int32), s1))) else some ((-1 : Int32), s1)))))
def fX6_share (st : MS) (x1 : Int32) (x2 : Int32) : Option (Int64 × MS) :=
  (bnd (MS_thrown_s st (0 : Int32)) (fun s1 => (fX6_noUnit s1 x1).bind (fun r3 => (if r3 = 0 then (fX6_noDay x2).bind (fun r6 => (if r6 = 0 then (fX6_shares s1 x2).bind (fun p9 => (if inb x1 10 = true then some (((MS_share p9) (x1).toNatClampNeg), p9) else none)) else some ((-2 : Int64), s1))) else some ((-1 : Int64), s1)))))
def fX6_days_b105 (st : MS) (x1 : Int32) (x3 : Int32) (x4 : Int64) (x6 : Int32) (x8 : Int32) (k0 : Int32) : Option ((Int32 × Int32) ⊕ (Int32 × Int32)) :=
  some (.inl (k0, (x8 + (1 : Int32))))
def fX6_days_b103 (st : MS) (x1 : Int32) (x3 : Int32) (x4 : Int64) (x6 : Int32) (x7 : Int32) (x8 : Int32) : Option ((Int32 × Int32) ⊕ (Int32 × Int32)) :=
  fX6_days_b105 st x1 x3 x4 x6 x8 x7
def fX6_days_l60 (st : MS) (x1 : Int32) (x3 : Int32) (x4 : Int64) (x6 : Int32) (x7 : Int32) (x8 : Int32) : Option ((Int32 × Int32) ⊕ (Int32 × Int32)) :=
  (if (MS_holdings st) ≤ x8 then some (.inr (x7, x8)) else (if inb x8 100 = true then (if ((MS_since st) (x8).toNatClampNeg) ≤ x6 then fX6_days_b103 st x1 x3 x4 x6 x7 x8 else (if inb x8 100 = true then (if x7 ≤ ((MS_since st) (x8).toNatClampNeg) then fX6_days_b103 st x1 x3 x4 x6 x7 x8 else (if inb x8 100 = true then fX6_days_b105 st x1 x3 x4 x6 x8 ((MS_since st) (x8).toNatClampNeg) else none)) else none)) else none))
def fX6_days_l46 (x1 : Int32) (x3 : Int32) (st : MS) (x4 : Int64) (x6 : Int32) : Option ((MS × Int64 × Int32) ⊕ (MS × Int64 × Int32)) :=
  (if x3 < x6 then some (.inr (st, x4, x6)) else (loopN (fun (s : Int32 × Int32) => fX6_days_l60 st x1 x3 x4 x6 s.1 s.2) fuelN ((x3 + (1 : Int32)), (0 : Int32))).bind (fun y20 => (fX6_shares st x6).bind (fun p21 => (if inb x1 10 = true then some (.inl (p21, (x4 + (((MS_share p21) (x1).toNatClampNeg) * (Int32.toInt64 (y20.1 - x6)))), y20.1)) else none))))
def fX6_days (st : MS) (x1 : Int32) (x2 : Int32) (x3 : Int32) : Option (Int64 × MS) :=
  (bnd (MS_thrown_s st (0 : Int32)) (fun s1 => (fX6_noUnit s1 x1).bind (fun r3 => (if r3 = 0 then (fX6_noDay x2).bind (fun r6 => (if r6 = 0 then (fX6_noDay x3).bind (fun r9 => (if r9 = 0 then (if x2 ≤ x3 then (loopN (fun (s : MS × Int64 × Int32) => fX6_days_l46 x1 x3 s.1 s.2.1 s.2.2) fuelN (s1, (0 : Int64), x2)).bind (fun y24 => some (y24.2.1, y24.1)) else some ((-2 : Int64), s1)) else some ((-2 : Int64), s1))) else some ((-2 : Int64), s1))) else some ((-1 : Int64), s1)))))
def fX6_row_b31 (st : MS) (x1 : Int32) (x2 : Int32) (x3 : Int32) (x4 : Int32) (x5 : Int32) : Option (Int32 × MS) :=
  (fX6_in (Int32.toInt64 x2) (0 : Int64) (3 : Int64)).bind (fun r7 => (if r7 = 0 then some ((-2 : Int32), st) else (fX6_in (Int32.toInt64 x3) (1 : Int64) (100000 : Int64)).bind (fun r10 => (if r10 = 0 then some ((-2 : Int32), st) else (fX6_noDay x4).bind (fun r13 => (if r13 = 0 then (if x5 = x1 then some ((-3 : Int32), st) else (if (MS_rows st) = (200 : Int32) then some ((-4 : Int32), st) else (if inb (MS_rows st) 200 = true then (bnd (MS_unitOf_s st (upd (MS_unitOf st) ((MS_rows st)).toNatClampNeg x1)) (fun s19 => (if inb (MS_rows s19) 200 = true then (bnd (MS_kind_s s19 (upd (MS_kind s19) ((MS_rows s19)).toNatClampNeg x2)) (fun s22 => (if inb (MS_rows s22) 200 = true then (bnd (MS_amount_s s22 (upd (MS_amount s22) ((MS_rows s22)).toNatClampNeg x3)) (fun s25 => (if inb (MS_rows s25) 200 = true then (bnd (MS_day_s s25 (upd (MS_day s25) ((MS_rows s25)).toNatClampNeg x4)) (fun s28 => (if inb (MS_rows s28) 200 = true then (bnd (MS_seller_s s28 (upd (MS_seller s28) ((MS_rows s28)).toNatClampNeg x5)) (fun s31 => (bnd (MS_rows_s s31 ((MS_rows s31) + (1 : Int32))) (fun s33 => some (((MS_rows s33) - (1 : Int32)), s33))))) else none))) else none))) else none))) else none))) else none))) else some ((-2 : Int32), st)))))))
def fX6_row (st : MS) (x1 : Int32) (x2 : Int32) (x3 : Int32) (x4 : Int32) (x5 : Int32) : Option (Int32 × MS) :=
  (bnd (MS_thrown_s st (0 : Int32)) (fun s1 => (fX6_noUnit s1 x1).bind (fun r3 => (if r3 = 0 then (if x5 = (-9 : Int32) then fX6_row_b31 s1 x1 x2 x3 x4 x5 else (fX6_noUnit s1 x5).bind (fun r35 => (if r35 = 0 then fX6_row_b31 s1 x1 x2 x3 x4 x5 else some ((-1 : Int32), s1)))) else some ((-1 : Int32), s1)))))
def fX6_isDouble (st : MS) (x1 : Int32) (x2 : Int32) : Option (Int32 × MS) :=
  (if inb x1 200 = true then (if ((MS_seller st) (x1).toNatClampNeg) = (-9 : Int32) then some ((0 : Int32), st) else (fX6_shares st x2).bind (fun p3 => (if inb x1 200 = true then (if inb ((MS_unitOf p3) (x1).toNatClampNeg) 10 = true then (if (lg_cmp ((MS_share p3) (((MS_unitOf p3) (x1).toNatClampNeg)).toNatClampNeg) (0 : Int64)) ≤ 0 then some ((0 : Int32), p3) else (if inb x1 200 = true then (if inb ((MS_seller p3) (x1).toNatClampNeg) 10 = true then (if (lg_cmp ((MS_share p3) (((MS_seller p3) (x1).toNatClampNeg)).toNatClampNeg) (0 : Int64)) ≤ 0 then some ((0 : Int32), p3) else some ((1 : Int32), p3)) else none) else none)) else none) else none))) else none)
def fX6_told (st : MS) (x1 : Int32) (x2 : Int32) : Option (Int32 × MS) :=
  (bnd (MS_thrown_s st (0 : Int32)) (fun s1 => (fX6_noRow s1 x1).bind (fun r3 => (if r3 = 0 then (if x2 = 0 then (if inb x1 200 = true then some (((MS_unitOf s1) (x1).toNatClampNeg), s1) else none) else (if x2 = 1 then (if inb x1 200 = true then some (((MS_kind s1) (x1).toNatClampNeg), s1) else none) else (if x2 = 2 then (if inb x1 200 = true then some (((MS_amount s1) (x1).toNatClampNeg), s1) else none) else (if x2 = 3 then (if inb x1 200 = true then some (((MS_day s1) (x1).toNatClampNeg), s1) else none) else (if x2 = 4 then (if inb x1 200 = true then some (((MS_seller s1) (x1).toNatClampNeg), s1) else none) else (if x2 = 5 then (if inb x1 200 = true then (fX6_isDouble s1 x1 ((MS_day s1) (x1).toNatClampNeg)).bind (fun p17 => (if p17.1 = 0 then some ((0 : Int32), p17.2) else some ((1 : Int32), p17.2))) else none) else (if x2 = 6 then (if inb x1 200 = true then some (((MS_covered s1) (x1).toNatClampNeg), s1) else none) else some ((-2 : Int32), s1)))))))) else some ((-1 : Int32), s1)))))
def fX6_factor (st : MS) (x1 : Int32) (x2 : Int32) (x3 : Int32) (x4 : Int32) : Option (Int32 × MS) :=
  (bnd (MS_thrown_s st (0 : Int32)) (fun s1 => (fX6_in (Int32.toInt64 x1) (0 : Int64) (3 : Int64)).bind (fun r3 => (if r3 = 0 then some ((-2 : Int32), s1) else (fX6_noYear x2).bind (fun r6 => (if r6 = 0 then (fX6_in (Int32.toInt64 x3) (0 : Int64) (Int32.toInt64 x4)).bind (fun r9 => (if r9 = 0 then some ((-2 : Int32), s1) else (if x4 ≤ (1000 : Int32) then (if (MS_versions s1) = (80 : Int32) then some ((-4 : Int32), s1) else (if inb (MS_versions s1) 80 = true then (bnd (MS_ofKind_s s1 (upd (MS_ofKind s1) ((MS_versions s1)).toNatClampNeg x1)) (fun s15 => (if inb (MS_versions s15) 80 = true then (bnd (MS_ofYear_s s15 (upd (MS_ofYear s15) ((MS_versions s15)).toNatClampNeg x2)) (fun s18 => (if inb (MS_versions s18) 80 = true then (bnd (MS_low_s s18 (upd (MS_low s18) ((MS_versions s18)).toNatClampNeg x3)) (fun s21 => (if inb (MS_versions s21) 80 = true then (bnd (MS_high_s s21 (upd (MS_high s21) ((MS_versions s21)).toNatClampNeg x4)) (fun s24 => (bnd (MS_versions_s s24 ((MS_versions s24) + (1 : Int32))) (fun s26 => some (((MS_versions s26) - (1 : Int32)), s26))))) else none))) else none))) else none))) else none)) else some ((-2 : Int32), s1)))) else some ((-2 : Int32), s1)))))))
def fX6_versionOf_b81 (st : MS) (x1 : Int32) (x2 : Int32) (x3 : Int32) (x5 : Int32) (k0 : Int32) : Option ((Int32 × Int32) ⊕ (Int32 × Int32)) :=
  some (.inl (k0, (x5 + (1 : Int32))))
def fX6_versionOf_b79 (st : MS) (x1 : Int32) (x2 : Int32) (x3 : Int32) (x4 : Int32) (x5 : Int32) : Option ((Int32 × Int32) ⊕ (Int32 × Int32)) :=
  fX6_versionOf_b81 st x1 x2 x3 x5 x4
def fX6_versionOf_b74 (st : MS) (x1 : Int32) (x2 : Int32) (x3 : Int32) (x5 : Int32) : Option ((Int32 × Int32) ⊕ (Int32 × Int32)) :=
  fX6_versionOf_b81 st x1 x2 x3 x5 x5
def fX6_versionOf_b28 (st : MS) (x1 : Int32) (x2 : Int32) (x3 : Int32) (x4 : Int32) (x5 : Int32) : Option ((Int32 × Int32) ⊕ (Int32 × Int32)) :=
  (if inb x5 80 = true then (if ((MS_ofKind st) (x5).toNatClampNeg) = x1 then (if inb x5 80 = true then (if x2 < ((MS_ofYear st) (x5).toNatClampNeg) then fX6_versionOf_b79 st x1 x2 x3 x4 x5 else (if x4 = (-9 : Int32) then fX6_versionOf_b74 st x1 x2 x3 x5 else (if inb x5 80 = true then (if inb x4 80 = true then (if ((MS_ofYear st) (x5).toNatClampNeg) < ((MS_ofYear st) (x4).toNatClampNeg) then fX6_versionOf_b79 st x1 x2 x3 x4 x5 else fX6_versionOf_b74 st x1 x2 x3 x5) else none) else none))) else none) else fX6_versionOf_b79 st x1 x2 x3 x4 x5) else none)
def fX6_versionOf_l7 (st : MS) (x1 : Int32) (x2 : Int32) (x3 : Int32) (x4 : Int32) (x5 : Int32) : Option ((Int32 × Int32) ⊕ (Int32 × Int32)) :=
  (if (MS_versions st) ≤ x5 then some (.inr (x4, x5)) else (if x3 = (-9 : Int32) then fX6_versionOf_b28 st x1 x2 x3 x4 x5 else (if x3 < x5 then some (.inr (x4, x5)) else fX6_versionOf_b28 st x1 x2 x3 x4 x5)))
def fX6_versionOf (st : MS) (x1 : Int32) (x2 : Int32) (x3 : Int32) : Option (Int32) :=
  (loopN (fun (s : Int32 × Int32) => fX6_versionOf_l7 st x1 x2 x3 s.1 s.2) fuelN ((-9 : Int32), (0 : Int32))).bind (fun y12 => some y12.1)
def fX6_factorOf (st : MS) (x1 : Int32) (x2 : Int32) (x3 : Int32) (x4 : Int32) : Option (Int32) :=
  (fX6_versionOf st x1 x2 x3).bind (fun r1 => (if r1 = (-9 : Int32) then some (-9 : Int32) else (if x4 = 0 then (if inb r1 80 = true then some ((MS_low st) (r1).toNatClampNeg) else none) else (if inb r1 80 = true then some ((MS_high st) (r1).toNatClampNeg) else none))))
def fX6_factorAs_b34 (st : MS) : Option (Int32 × MS) :=
  some ((-2 : Int32), st)
def fX6_factorAs (st : MS) (x1 : Int32) (x2 : Int32) (x3 : Int32) (x4 : Int32) : Option (Int32 × MS) :=
  (bnd (MS_thrown_s st (0 : Int32)) (fun s1 => (fX6_noAs s1 x3).bind (fun r3 => (if r3 = 0 then (fX6_in (Int32.toInt64 x1) (0 : Int64) (3 : Int64)).bind (fun r6 => (if r6 = 0 then fX6_factorAs_b34 s1 else (fX6_noYear x2).bind (fun r9 => (if r9 = 0 then (fX6_factorOf s1 x1 x2 x3 x4).bind (fun r12 => some (r12, s1)) else fX6_factorAs_b34 s1)))) else some ((-1 : Int32), s1)))))
def fX6_tonsOf_b55 (st : MS) (x5 : Int32) (k0 : Int32) (k1 : Int32) : Option (Int64) :=
  (if x5 = (-9 : Int32) then some (-9 : Int64) else some ((Int32.toInt64 (k0 - k1)) * (Int32.toInt64 x5)))
def fX6_tonsOf_b54 (st : MS) (x5 : Int32) (k0 : Int32) : Option (Int64) :=
  fX6_tonsOf_b55 st x5 k0 (0 : Int32)
def fX6_tonsOf (st : MS) (x1 : Int32) (x2 : Int32) (x3 : Int32) (x4 : Int32) : Option (Int64) :=
  (if inb x1 200 = true then (if inb x1 200 = true then (fX6_factorOf st ((MS_kind st) (x1).toNatClampNeg) (((MS_day st) (x1).toNatClampNeg) / (365 : Int32)) x2 x4).bind (fun r3 => (if inb x1 200 = true then (if x3 = 0 then fX6_tonsOf_b54 st r3 ((MS_amount st) (x1).toNatClampNeg) else (if inb x1 200 = true then (if ((MS_kind st) (x1).toNatClampNeg) = (1 : Int32) then (if inb x1 200 = true then fX6_tonsOf_b55 st r3 ((MS_amount st) (x1).toNatClampNeg) ((MS_covered st) (x1).toNatClampNeg) else none) else fX6_tonsOf_b54 st r3 ((MS_amount st) (x1).toNatClampNeg)) else none)) else none)) else none) else none)
def fX6_tons_b21 (st : MS) : Option (Int64 × MS) :=
  some ((-1 : Int64), st)
def fX6_tons (st : MS) (x1 : Int32) (x2 : Int32) (x3 : Int32) (x4 : Int32) : Option (Int64 × MS) :=
  (bnd (MS_thrown_s st (0 : Int32)) (fun s1 => (fX6_noRow s1 x1).bind (fun r3 => (if r3 = 0 then (fX6_noAs s1 x2).bind (fun r6 => (if r6 = 0 then (fX6_tonsOf s1 x1 x2 x3 x4).bind (fun r9 => some (r9, s1)) else fX6_tons_b21 s1)) else fX6_tons_b21 s1))))
def fX6_isOther_b40 (st : MS) : Option (Int32) :=
  some (1 : Int32)
def fX6_isOther (st : MS) (x1 : Int32) (x2 : Int32) (x3 : Int32) : Option (Int32) :=
  (fX6_tonsOf st x1 x2 (0 : Int32) (0 : Int32)).bind (fun r1 => (fX6_tonsOf st x1 x3 (0 : Int32) (0 : Int32)).bind (fun r3 => (if (lg_cmp r1 r3) = 0 then (fX6_tonsOf st x1 x2 (0 : Int32) (1 : Int32)).bind (fun r6 => (fX6_tonsOf st x1 x3 (0 : Int32) (1 : Int32)).bind (fun r8 => (if (lg_cmp r6 r8) = 0 then some (0 : Int32) else fX6_isOther_b40 st))) else fX6_isOther_b40 st)))
def fX6_changed_b81 (st : MS) (x1 : Int32) (x2 : Int32) (x3 : Int32) (x5 : Int32) (k0 : Int32) (k1 : Int32) : Option ((Int32 × Int32) ⊕ (Int32 × Int32)) :=
  some (.inl ((k0 + k1), (x5 + (1 : Int32))))
def fX6_changed_b80 (st : MS) (x1 : Int32) (x2 : Int32) (x3 : Int32) (x5 : Int32) (k0 : Int32) : Option ((Int32 × Int32) ⊕ (Int32 × Int32)) :=
  fX6_changed_b81 st x1 x2 x3 x5 k0 (0 : Int32)
def fX6_changed_l39 (st : MS) (x1 : Int32) (x2 : Int32) (x3 : Int32) (x4 : Int32) (x5 : Int32) : Option ((Int32 × Int32) ⊕ (Int32 × Int32)) :=
  (if (MS_rows st) ≤ x5 then some (.inr (x4, x5)) else (if inb x5 200 = true then (if (((MS_day st) (x5).toNatClampNeg) / (365 : Int32)) = x1 then (fX6_isOther st x5 x2 x3).bind (fun r15 => (if r15 = 0 then fX6_changed_b80 st x1 x2 x3 x5 x4 else fX6_changed_b81 st x1 x2 x3 x5 x4 (1 : Int32))) else fX6_changed_b80 st x1 x2 x3 x5 x4) else none))
def fX6_changed (st : MS) (x1 : Int32) (x2 : Int32) (x3 : Int32) : Option (Int32 × MS) :=
  (bnd (MS_thrown_s st (0 : Int32)) (fun s1 => (fX6_noAs s1 x2).bind (fun r3 => (if r3 = 0 then (fX6_noAs s1 x3).bind (fun r6 => (if r6 = 0 then (fX6_noYear x1).bind (fun r9 => (if r9 = 0 then (loopN (fun (s : Int32 × Int32) => fX6_changed_l39 s1 x1 x2 x3 s.1 s.2) fuelN ((0 : Int32), (0 : Int32))).bind (fun y18 => some (y18.1, s1)) else some ((-2 : Int32), s1))) else some ((-1 : Int32), s1))) else some ((-1 : Int32), s1)))))
def fX6_change_b88 (st : MS) (x1 : Int32) (x2 : Int32) (x3 : Int32) (x4 : Int32) (x5 : Int32) (x6 : Int32) : Option ((Int32 × Int32) ⊕ ((Int32 × Int32) ⊕ (Int32 × MS))) :=
  some (.inl (x5, (x6 + (1 : Int32))))
def fX6_change_l40 (st : MS) (x1 : Int32) (x2 : Int32) (x3 : Int32) (x4 : Int32) (x5 : Int32) (x6 : Int32) : Option ((Int32 × Int32) ⊕ ((Int32 × Int32) ⊕ (Int32 × MS))) :=
  (if (MS_rows st) ≤ x6 then some (.inr (.inl (x5, x6))) else (if inb x6 200 = true then (if (((MS_day st) (x6).toNatClampNeg) / (365 : Int32)) = x2 then (fX6_isOther st x6 x3 x4).bind (fun r15 => (if r15 = 0 then fX6_change_b88 st x1 x2 x3 x4 x5 x6 else (if x5 = x1 then some (.inr (.inr (x6, st))) else fX6_change_b88 st x1 x2 x3 x4 (x5 + (1 : Int32)) x6))) else fX6_change_b88 st x1 x2 x3 x4 x5 x6) else none))
def fX6_change (st : MS) (x1 : Int32) (x2 : Int32) (x3 : Int32) (x4 : Int32) : Option (Int32 × MS) :=
  (bnd (MS_thrown_s st (0 : Int32)) (fun s1 => (fX6_noAs s1 x3).bind (fun r3 => (if r3 = 0 then (fX6_noAs s1 x4).bind (fun r6 => (if r6 = 0 then (fX6_noYear x2).bind (fun r9 => (if r9 = 0 then (loopN (fun (s : Int32 × Int32) => fX6_change_l40 s1 x1 x2 x3 x4 s.1 s.2) fuelN ((0 : Int32), (0 : Int32))).bind (fun y19 => Sum.elim (fun e_ => some ((-9 : Int32), s1)) (fun v_ => some v_) y19) else some ((-2 : Int32), s1))) else some ((-1 : Int32), s1))) else some ((-1 : Int32), s1)))))
def fX6_totalOf_b173 (st : MS) (x1 : Int32) (x2 : Int32) (x3 : Int32) (x4 : Int32) (x5 : Int32) (x6 : Int32) (x7 : Int32) (x8 : Int64) (x10 : Int32) : Option ((MS × Int64 × Int32) ⊕ ((MS × Int64 × Int32) ⊕ (Int64 × MS))) :=
  some (.inl (st, x8, (x10 + (1 : Int32))))
def fX6_totalOf_b170 (st : MS) (x1 : Int32) (x2 : Int32) (x3 : Int32) (x4 : Int32) (x5 : Int32) (x6 : Int32) (x7 : Int32) (x10 : Int32) (k0 : Int64) (k1 : Int64) : Option ((MS × Int64 × Int32) ⊕ ((MS × Int64 × Int32) ⊕ (Int64 × MS))) :=
  fX6_totalOf_b173 st x1 x2 x3 x4 x5 x6 x7 (k0 + k1) x10
def fX6_totalOf_b132 (st : MS) (x1 : Int32) (x2 : Int32) (x3 : Int32) (x4 : Int32) (x5 : Int32) (x6 : Int32) (x7 : Int32) (x8 : Int64) (x10 : Int32) (x12 : Int64) : Option ((MS × Int64 × Int32) ⊕ ((MS × Int64 × Int32) ⊕ (Int64 × MS))) :=
  (if inb x10 200 = true then (if inb ((MS_unitOf st) (x10).toNatClampNeg) 10 = true then (if (lg_cmp ((MS_share st) (((MS_unitOf st) (x10).toNatClampNeg)).toNatClampNeg) (0 : Int64)) ≤ 0 then fX6_totalOf_b170 st x1 x2 x3 x4 x5 x6 x7 x10 x8 (0 : Int64) else (if inb x10 200 = true then (if inb ((MS_unitOf st) (x10).toNatClampNeg) 10 = true then fX6_totalOf_b170 st x1 x2 x3 x4 x5 x6 x7 x10 x8 (x12 * ((MS_share st) (((MS_unitOf st) (x10).toNatClampNeg)).toNatClampNeg)) else none) else none)) else none) else none)
def fX6_totalOf_b82 (st : MS) (x1 : Int32) (x2 : Int32) (x3 : Int32) (x4 : Int32) (x5 : Int32) (x6 : Int32) (x7 : Int32) (x8 : Int64) (x10 : Int32) (x11 : Int32) : Option ((MS × Int64 × Int32) ⊕ ((MS × Int64 × Int32) ⊕ (Int64 × MS))) :=
  (fX6_shares st x11).bind (fun p7 => (fX6_tonsOf p7 x10 x4 x5 x7).bind (fun r9 => (if inb x10 200 = true then (if inb ((MS_unitOf p7) (x10).toNatClampNeg) 10 = true then (if (lg_cmp ((MS_share p7) (((MS_unitOf p7) (x10).toNatClampNeg)).toNatClampNeg) (0 : Int64)) ≤ 0 then fX6_totalOf_b132 p7 x1 x2 x3 x4 x5 x6 x7 x8 x10 r9 else (if (lg_cmp r9 (-9 : Int64)) = 0 then some (.inr (.inr ((-9 : Int64), p7))) else fX6_totalOf_b132 p7 x1 x2 x3 x4 x5 x6 x7 x8 x10 r9)) else none) else none)))
def fX6_totalOf_b66 (st : MS) (x1 : Int32) (x2 : Int32) (x3 : Int32) (x4 : Int32) (x5 : Int32) (x6 : Int32) (x7 : Int32) (x8 : Int64) (x10 : Int32) (x11 : Int32) : Option ((MS × Int64 × Int32) ⊕ ((MS × Int64 × Int32) ⊕ (Int64 × MS))) :=
  (if x6 = 0 then fX6_totalOf_b82 st x1 x2 x3 x4 x5 x6 x7 x8 x10 x11 else (fX6_isDouble st x10 x11).bind (fun p20 => (if p20.1 = 0 then fX6_totalOf_b82 p20.2 x1 x2 x3 x4 x5 x6 x7 x8 x10 x11 else fX6_totalOf_b173 p20.2 x1 x2 x3 x4 x5 x6 x7 x8 x10)))
def fX6_totalOf_b32 (st : MS) (x1 : Int32) (x2 : Int32) (x3 : Int32) (x4 : Int32) (x5 : Int32) (x6 : Int32) (x7 : Int32) (x8 : Int64) (x10 : Int32) (k0 : Int32) : Option ((MS × Int64 × Int32) ⊕ ((MS × Int64 × Int32) ⊕ (Int64 × MS))) :=
  (if inb x10 200 = true then (if (((MS_day st) (x10).toNatClampNeg) / (365 : Int32)) = x2 then (if x1 = (-9 : Int32) then fX6_totalOf_b66 st x1 x2 x3 x4 x5 x6 x7 x8 x10 k0 else (if inb x10 200 = true then (if ((MS_unitOf st) (x10).toNatClampNeg) = x1 then fX6_totalOf_b66 st x1 x2 x3 x4 x5 x6 x7 x8 x10 k0 else fX6_totalOf_b173 st x1 x2 x3 x4 x5 x6 x7 x8 x10) else none)) else fX6_totalOf_b173 st x1 x2 x3 x4 x5 x6 x7 x8 x10) else none)
def fX6_totalOf_l6 (x1 : Int32) (x2 : Int32) (x3 : Int32) (x4 : Int32) (x5 : Int32) (x6 : Int32) (x7 : Int32) (st : MS) (x8 : Int64) (x10 : Int32) : Option ((MS × Int64 × Int32) ⊕ ((MS × Int64 × Int32) ⊕ (Int64 × MS))) :=
  (if (MS_rows st) ≤ x10 then some (.inr (.inl (st, x8, x10))) else (if x3 = (-9 : Int32) then (if inb x10 200 = true then fX6_totalOf_b32 st x1 x2 x3 x4 x5 x6 x7 x8 x10 ((MS_day st) (x10).toNatClampNeg) else none) else fX6_totalOf_b32 st x1 x2 x3 x4 x5 x6 x7 x8 x10 x3))
def fX6_totalOf (st : MS) (x1 : Int32) (x2 : Int32) (x3 : Int32) (x4 : Int32) (x5 : Int32) (x6 : Int32) (x7 : Int32) : Option (Int64 × MS) :=
  (loopN (fun (s : MS × Int64 × Int32) => fX6_totalOf_l6 x1 x2 x3 x4 x5 x6 x7 s.1 s.2.1 s.2.2) fuelN (st, (0 : Int64), (0 : Int32))).bind (fun y26 => Sum.elim (fun e_ => some (e_.2.1, e_.1)) (fun v_ => some v_) y26)
def fX6_total (st : MS) (x1 : Int32) (x2 : Int32) (x3 : Int32) (x4 : Int32) (x5 : Int32) : Option (Int64 × MS) :=
  (bnd (MS_thrown_s st (0 : Int32)) (fun s1 => (fX6_noYear x1).bind (fun r3 => (if r3 = 0 then (fX6_noAs s1 x2).bind (fun r6 => (if r6 = 0 then (fX6_totalOf s1 (-9 : Int32) x1 (-9 : Int32) x2 x3 x4 x5).bind (fun p9 => some (p9.1, p9.2)) else some ((-1 : Int64), s1))) else some ((-2 : Int64), s1)))))
def fX6_anew_b19 (st : MS) : Option (Int64 × MS) :=
  some ((-2 : Int64), st)
def fX6_anew (st : MS) (x1 : Int32) (x2 : Int32) (x3 : Int32) (x4 : Int32) (x5 : Int32) (x6 : Int32) : Option (Int64 × MS) :=
  (bnd (MS_thrown_s st (0 : Int32)) (fun s1 => (fX6_noYear x1).bind (fun r3 => (if r3 = 0 then (fX6_noDay x2).bind (fun r6 => (if r6 = 0 then (fX6_noAs s1 x3).bind (fun r9 => (if r9 = 0 then (fX6_totalOf s1 (-9 : Int32) x1 x2 x3 x4 x5 x6).bind (fun p12 => some (p12.1, p12.2)) else some ((-1 : Int64), s1))) else fX6_anew_b19 s1)) else fX6_anew_b19 s1))))
def fX6_part (st : MS) (x1 : Int32) (x2 : Int32) (x3 : Int32) (x4 : Int32) (x5 : Int32) (x6 : Int32) : Option (Int64 × MS) :=
  (bnd (MS_thrown_s st (0 : Int32)) (fun s1 => (fX6_noUnit s1 x1).bind (fun r3 => (if r3 = 0 then (fX6_noYear x2).bind (fun r6 => (if r6 = 0 then (fX6_noAs s1 x3).bind (fun r9 => (if r9 = 0 then (fX6_totalOf s1 x1 x2 (-9 : Int32) x3 x4 x5 x6).bind (fun p12 => some (p12.1, p12.2)) else some ((-1 : Int64), s1))) else some ((-2 : Int64), s1))) else some ((-1 : Int64), s1)))))
def fX6_doubles_b61 (st : MS) (x1 : Int32) (x3 : Int32) (k0 : Int32) (k1 : Int32) : Option ((MS × Int32 × Int32) ⊕ (MS × Int32 × Int32)) :=
  some (.inl (st, (k0 + k1), (x3 + (1 : Int32))))
def fX6_doubles_b60 (st : MS) (x1 : Int32) (x3 : Int32) (k0 : Int32) : Option ((MS × Int32 × Int32) ⊕ (MS × Int32 × Int32)) :=
  fX6_doubles_b61 st x1 x3 k0 (0 : Int32)
def fX6_doubles_l19 (x1 : Int32) (st : MS) (x2 : Int32) (x3 : Int32) : Option ((MS × Int32 × Int32) ⊕ (MS × Int32 × Int32)) :=
  (if (MS_rows st) ≤ x3 then some (.inr (st, x2, x3)) else (if inb x3 200 = true then (if (((MS_day st) (x3).toNatClampNeg) / (365 : Int32)) = x1 then (if inb x3 200 = true then (fX6_isDouble st x3 ((MS_day st) (x3).toNatClampNeg)).bind (fun p10 => (if p10.1 = 0 then fX6_doubles_b60 p10.2 x1 x3 x2 else fX6_doubles_b61 p10.2 x1 x3 x2 (1 : Int32))) else none) else fX6_doubles_b60 st x1 x3 x2) else none))
def fX6_doubles (st : MS) (x1 : Int32) : Option (Int32 × MS) :=
  (bnd (MS_thrown_s st (0 : Int32)) (fun s1 => (fX6_noYear x1).bind (fun r3 => (if r3 = 0 then (loopN (fun (s : MS × Int32 × Int32) => fX6_doubles_l19 x1 s.1 s.2.1 s.2.2) fuelN (s1, (0 : Int32), (0 : Int32))).bind (fun y13 => some (y13.2.1, y13.1)) else some ((-2 : Int32), s1)))))
def fX6_onPath (st : MS) (x1 : Int32) (x2 : Int32) (x3 : Int32) (x4 : Int32) : Option (Int32 × MS) :=
  (bnd (MS_thrown_s st (0 : Int32)) (fun s1 => (fX6_noYear x1).bind (fun r3 => (if r3 = 0 then (fX6_noYear x2).bind (fun r6 => (if r6 = 0 then (fX6_noYear x3).bind (fun r9 => (if r9 = 0 then (fX6_in (Int32.toInt64 x4) (0 : Int64) (100 : Int64)).bind (fun r12 => (if r12 = 0 then some ((-2 : Int32), s1) else (if x3 ≤ x2 then some ((-2 : Int32), s1) else (fX6_in (Int32.toInt64 x1) (Int32.toInt64 x2) (Int32.toInt64 x3)).bind (fun r16 => (if r16 = 0 then some ((-2 : Int32), s1) else (fX6_totalOf s1 (-9 : Int32) x1 (-9 : Int32) (-9 : Int32) (1 : Int32) (1 : Int32) (0 : Int32)).bind (fun p19 => (fX6_totalOf p19.2 (-9 : Int32) x2 (-9 : Int32) (-9 : Int32) (1 : Int32) (1 : Int32) (1 : Int32)).bind (fun p21 => (if (lg_cmp p19.1 (-9 : Int64)) = 0 then some ((-9 : Int32), p21.2) else (if (lg_cmp p21.1 (-9 : Int64)) = 0 then some ((-9 : Int32), p21.2) else (if ((100 : Int64) * (Int32.toInt64 (x3 - x2))) = 0 then none else (if ((100 : Int64) * (Int32.toInt64 (x3 - x2))) = 0 then none else (if ((100 : Int64) * (Int32.toInt64 (x3 - x2))) = 0 then none else (if 0 < (lg_cmp p19.1 (((p21.1 / ((100 : Int64) * (Int32.toInt64 (x3 - x2)))) * (((100 : Int64) * (Int32.toInt64 (x3 - x2))) - ((Int32.toInt64 x4) * (Int32.toInt64 (x1 - x2))))) + (((p21.1 - p21.1 / ((100 : Int64) * (Int32.toInt64 (x3 - x2))) * ((100 : Int64) * (Int32.toInt64 (x3 - x2)))) * (((100 : Int64) * (Int32.toInt64 (x3 - x2))) - ((Int32.toInt64 x4) * (Int32.toInt64 (x1 - x2))))) / ((100 : Int64) * (Int32.toInt64 (x3 - x2)))))) then some ((0 : Int32), p21.2) else some ((1 : Int32), p21.2)))))))))))))) else some ((-2 : Int32), s1))) else some ((-2 : Int32), s1))) else some ((-2 : Int32), s1)))))
def fX6_issue_l55 (x1 : Int32) (x2 : Int32) (x3 : Int32) (st : MS) (x4 : Int32) : Option ((MS × Int32) ⊕ (MS × Int32)) :=
  (if x2 ≤ x4 then some (.inr (st, x4)) else (bnd (MS_serials_s st ((MS_serials st) + (1 : Int32))) (fun s11 => (if inb (MS_serials s11) 20001 = true then (bnd (MS_owner_s s11 (upd (MS_owner s11) ((MS_serials s11)).toNatClampNeg x1)) (fun s14 => (if inb (MS_serials s14) 20001 = true then (bnd (MS_used_s s14 (upd (MS_used s14) ((MS_serials s14)).toNatClampNeg (-9 : Int32))) (fun s17 => some (.inl (s17, (x4 + (1 : Int32)))))) else none))) else none))))
def fX6_issue (st : MS) (x1 : Int32) (x2 : Int32) : Option (Int32 × MS) :=
  (bnd (MS_thrown_s st (0 : Int32)) (fun s1 => (fX6_noUnit s1 x1).bind (fun r3 => (if r3 = 0 then (fX6_in (Int32.toInt64 x2) (1 : Int64) (20000 : Int64)).bind (fun r6 => (if r6 = 0 then some ((-2 : Int32), s1) else (if ((MS_serials s1) + x2) ≤ (20000 : Int32) then (loopN (fun (s : MS × Int32) => fX6_issue_l55 x1 x2 ((MS_serials s1) + (1 : Int32)) s.1 s.2) fuelN (s1, (0 : Int32))).bind (fun y19 => some (((MS_serials s1) + (1 : Int32)), y19.1)) else some ((-4 : Int32), s1)))) else some ((-1 : Int32), s1)))))
def fX6_noSerials_b21 (st : MS) : Option (Int32) :=
  some (1 : Int32)
def fX6_noSerials (st : MS) (x1 : Int32) (x2 : Int32) : Option (Int32) :=
  (if x1 < (1 : Int32) then fX6_noSerials_b21 st else (if (lg_cmp (((Int32.toInt64 x1) + (Int32.toInt64 x2)) - (1 : Int64)) (Int32.toInt64 (MS_serials st))) ≤ 0 then some (0 : Int32) else fX6_noSerials_b21 st))
def fX6_hasUsed_b34 (st : MS) (x1 : Int32) (x2 : Int32) (x4 : Int32) (k0 : Int32) : Option ((Int32 × Int32) ⊕ (Int32 × Int32)) :=
  some (.inl (k0, (x4 + (1 : Int32))))
def fX6_hasUsed_b29 (st : MS) (x1 : Int32) (x2 : Int32) (x4 : Int32) : Option ((Int32 × Int32) ⊕ (Int32 × Int32)) :=
  fX6_hasUsed_b34 st x1 x2 x4 (1 : Int32)
def fX6_hasUsed_l5 (st : MS) (x1 : Int32) (x2 : Int32) (x3 : Int32) (x4 : Int32) : Option ((Int32 × Int32) ⊕ (Int32 × Int32)) :=
  (if (x1 + x2) ≤ x4 then some (.inr (x3, x4)) else (if x3 = 0 then (if inb x4 20001 = true then (if ((MS_used st) (x4).toNatClampNeg) = (-9 : Int32) then fX6_hasUsed_b34 st x1 x2 x4 (0 : Int32) else fX6_hasUsed_b29 st x1 x2 x4) else none) else fX6_hasUsed_b29 st x1 x2 x4))
def fX6_hasUsed (st : MS) (x1 : Int32) (x2 : Int32) : Option (Int32) :=
  (loopN (fun (s : Int32 × Int32) => fX6_hasUsed_l5 st x1 x2 s.1 s.2) fuelN ((0 : Int32), x1)).bind (fun y5 => (if isB y5.1 = true then some y5.1 else none))
def fX6_move_b78 (st : MS) (x1 : Int32) (x2 : Int32) (x3 : Int32) (x5 : Int32) (k0 : Int32) (k1 : Int32) : Option ((MS × Int32 × Int32) ⊕ (MS × Int32 × Int32)) :=
  (if inb x5 20001 = true then (bnd (MS_owner_s st (upd (MS_owner st) (x5).toNatClampNeg x3)) (fun s17 => some (.inl (s17, (k0 + k1), (x5 + (1 : Int32)))))) else none)
def fX6_move_l52 (x1 : Int32) (x2 : Int32) (x3 : Int32) (st : MS) (x4 : Int32) (x5 : Int32) : Option ((MS × Int32 × Int32) ⊕ (MS × Int32 × Int32)) :=
  (if (x1 + x2) ≤ x5 then some (.inr (st, x4, x5)) else (if inb x5 20001 = true then (if ((MS_owner st) (x5).toNatClampNeg) = x3 then fX6_move_b78 st x1 x2 x3 x5 x4 (0 : Int32) else fX6_move_b78 st x1 x2 x3 x5 x4 (1 : Int32)) else none))
def fX6_move (st : MS) (x1 : Int32) (x2 : Int32) (x3 : Int32) : Option (Int32 × MS) :=
  (bnd (MS_thrown_s st (0 : Int32)) (fun s1 => (fX6_noUnit s1 x3).bind (fun r3 => (if r3 = 0 then (if (1 : Int32) ≤ x2 then (fX6_noSerials s1 x1 x2).bind (fun r7 => (if r7 = 0 then (fX6_hasUsed s1 x1 x2).bind (fun r10 => (if r10 = 0 then (loopN (fun (s : MS × Int32 × Int32) => fX6_move_l52 x1 x2 x3 s.1 s.2.1 s.2.2) fuelN (s1, (0 : Int32), x1)).bind (fun y19 => some (y19.2.1, y19.1)) else some ((-3 : Int32), s1))) else some ((-1 : Int32), s1))) else some ((-2 : Int32), s1)) else some ((-1 : Int32), s1)))))
def fX6_use_b97 (st : MS) (x1 : Int32) (x2 : Int32) (x3 : Int32) (x5 : Int32) (k0 : Int32) : Option ((Int32 × Int32) ⊕ (Int32 × Int32)) :=
  some (.inl (k0, (x5 + (1 : Int32))))
def fX6_use_b92 (st : MS) (x1 : Int32) (x2 : Int32) (x3 : Int32) (x5 : Int32) : Option ((Int32 × Int32) ⊕ (Int32 × Int32)) :=
  fX6_use_b97 st x1 x2 x3 x5 (1 : Int32)
def fX6_use_l63 (st : MS) (x1 : Int32) (x2 : Int32) (x3 : Int32) (x4 : Int32) (x5 : Int32) : Option ((Int32 × Int32) ⊕ (Int32 × Int32)) :=
  (if (x1 + x2) ≤ x5 then some (.inr (x4, x5)) else (if x4 = 0 then (if inb x5 20001 = true then (if inb x3 200 = true then (if ((MS_owner st) (x5).toNatClampNeg) = ((MS_unitOf st) (x3).toNatClampNeg) then fX6_use_b97 st x1 x2 x3 x5 (0 : Int32) else fX6_use_b92 st x1 x2 x3 x5) else none) else none) else fX6_use_b92 st x1 x2 x3 x5))
def fX6_use_l136 (x1 : Int32) (x2 : Int32) (x3 : Int32) (st : MS) (x5 : Int32) : Option ((MS × Int32) ⊕ (MS × Int32)) :=
  (if (x1 + x2) ≤ x5 then some (.inr (st, x5)) else (if inb x5 20001 = true then (bnd (MS_used_s st (upd (MS_used st) (x5).toNatClampNeg x3)) (fun s24 => some (.inl (s24, (x5 + (1 : Int32)))))) else none))
def fX6_use_b58 (st : MS) (x1 : Int32) (x2 : Int32) (x3 : Int32) (k0 : Int32) : Option (Int32 × MS) :=
  (loopN (fun (s : Int32 × Int32) => fX6_use_l63 st x1 x2 x3 s.1 s.2) fuelN (k0, x1)).bind (fun y17 => (if y17.1 = 0 then (if inb x3 200 = true then (if inb x3 200 = true then (if (((MS_covered st) (x3).toNatClampNeg) + x2) ≤ ((MS_amount st) (x3).toNatClampNeg) then (loopN (fun (s : MS × Int32) => fX6_use_l136 x1 x2 x3 s.1 s.2) fuelN (st, x1)).bind (fun y26 => (if inb x3 200 = true then (if inb x3 200 = true then (bnd (MS_covered_s y26.1 (upd (MS_covered y26.1) (x3).toNatClampNeg (((MS_covered y26.1) (x3).toNatClampNeg) + x2))) (fun s29 => (if inb x3 200 = true then some (((MS_covered s29) (x3).toNatClampNeg), s29) else none))) else none) else none)) else some ((-4 : Int32), st)) else none) else none) else some ((-3 : Int32), st)))
def fX6_use_b53 (st : MS) (x1 : Int32) (x2 : Int32) (x3 : Int32) : Option (Int32 × MS) :=
  fX6_use_b58 st x1 x2 x3 (1 : Int32)
def fX6_use (st : MS) (x1 : Int32) (x2 : Int32) (x3 : Int32) : Option (Int32 × MS) :=
  (bnd (MS_thrown_s st (0 : Int32)) (fun s1 => (fX6_noRow s1 x3).bind (fun r3 => (if r3 = 0 then (if (1 : Int32) ≤ x2 then (fX6_noSerials s1 x1 x2).bind (fun r7 => (if r7 = 0 then (if inb x3 200 = true then (if ((MS_kind s1) (x3).toNatClampNeg) = (1 : Int32) then (fX6_hasUsed s1 x1 x2).bind (fun r32 => (if r32 = 0 then fX6_use_b58 s1 x1 x2 x3 (0 : Int32) else fX6_use_b53 s1 x1 x2 x3)) else fX6_use_b53 s1 x1 x2 x3) else none) else some ((-1 : Int32), s1))) else some ((-2 : Int32), s1)) else some ((-1 : Int32), s1)))))
def fX6_owner (st : MS) (x1 : Int32) : Option (Int32 × MS) :=
  (bnd (MS_thrown_s st (0 : Int32)) (fun s1 => (fX6_in (Int32.toInt64 x1) (1 : Int64) (Int32.toInt64 (MS_serials s1))).bind (fun r3 => (if r3 = 0 then some ((-1 : Int32), s1) else (if inb x1 20001 = true then some (((MS_owner s1) (x1).toNatClampNeg), s1) else none)))))
def fX6_usedFor (st : MS) (x1 : Int32) : Option (Int32 × MS) :=
  (bnd (MS_thrown_s st (0 : Int32)) (fun s1 => (fX6_in (Int32.toInt64 x1) (1 : Int64) (Int32.toInt64 (MS_serials s1))).bind (fun r3 => (if r3 = 0 then some ((-1 : Int32), s1) else (if inb x1 20001 = true then some (((MS_used s1) (x1).toNatClampNeg), s1) else none)))))
def fX6_free_b54 (st : MS) (x1 : Int32) (x3 : Int32) (k0 : Int32) (k1 : Int32) : Option ((Int32 × Int32) ⊕ (Int32 × Int32)) :=
  some (.inl ((k0 + k1), (x3 + (1 : Int32))))
def fX6_free_b53 (st : MS) (x1 : Int32) (x3 : Int32) (k0 : Int32) : Option ((Int32 × Int32) ⊕ (Int32 × Int32)) :=
  fX6_free_b54 st x1 x3 k0 (0 : Int32)
def fX6_free_l19 (st : MS) (x1 : Int32) (x2 : Int32) (x3 : Int32) : Option ((Int32 × Int32) ⊕ (Int32 × Int32)) :=
  (if (MS_serials st) < x3 then some (.inr (x2, x3)) else (if inb x3 20001 = true then (if ((MS_owner st) (x3).toNatClampNeg) = x1 then (if inb x3 20001 = true then (if ((MS_used st) (x3).toNatClampNeg) = (-9 : Int32) then fX6_free_b54 st x1 x3 x2 (1 : Int32) else fX6_free_b53 st x1 x3 x2) else none) else fX6_free_b53 st x1 x3 x2) else none))
def fX6_free (st : MS) (x1 : Int32) : Option (Int32 × MS) :=
  (bnd (MS_thrown_s st (0 : Int32)) (fun s1 => (fX6_noUnit s1 x1).bind (fun r3 => (if r3 = 0 then (loopN (fun (s : Int32 × Int32) => fX6_free_l19 s1 x1 s.1 s.2) fuelN ((0 : Int32), (1 : Int32))).bind (fun y11 => some (y11.1, s1)) else some ((-1 : Int32), s1)))))
def fX6_begins_b39 (st : MS) : Option (Int32) :=
  some (1 : Int32)
def fX6_begins (st : MS) (x1 : Int32) : Option (Int32) :=
  (if x1 = (1 : Int32) then fX6_begins_b39 st else (if inb x1 20001 = true then (if inb (x1 - (1 : Int32)) 20001 = true then (if ((MS_owner st) (x1).toNatClampNeg) = ((MS_owner st) ((x1 - (1 : Int32))).toNatClampNeg) then (if inb x1 20001 = true then (if inb (x1 - (1 : Int32)) 20001 = true then (if ((MS_used st) (x1).toNatClampNeg) = ((MS_used st) ((x1 - (1 : Int32))).toNatClampNeg) then some (0 : Int32) else fX6_begins_b39 st) else none) else none) else fX6_begins_b39 st) else none) else none))
def fX6_runs_b31 (st : MS) (x2 : Int32) (k0 : Int32) (k1 : Int32) : Option ((Int32 × Int32) ⊕ (Int32 × Int32)) :=
  some (.inl ((k0 + k1), (x2 + (1 : Int32))))
def fX6_runs_l9 (st : MS) (x1 : Int32) (x2 : Int32) : Option ((Int32 × Int32) ⊕ (Int32 × Int32)) :=
  (if (MS_serials st) < x2 then some (.inr (x1, x2)) else (fX6_begins st x2).bind (fun r4 => (if r4 = 0 then fX6_runs_b31 st x2 x1 (0 : Int32) else fX6_runs_b31 st x2 x1 (1 : Int32))))
def fX6_runs (st : MS) : Option (Int32 × MS) :=
  (bnd (MS_thrown_s st (0 : Int32)) (fun s1 => (loopN (fun (s : Int32 × Int32) => fX6_runs_l9 s1 s.1 s.2) fuelN ((0 : Int32), (1 : Int32))).bind (fun y7 => some (y7.1, s1))))
def fX6_run_b73 (st : MS) (x1 : Int32) (x2 : Int32) (x3 : Int32) (x4 : Int32) (x6 : Int32) (k0 : Int32) (k1 : Int32) : Option ((Int32 × Int32 × Int32 × Int32) ⊕ (Int32 × Int32 × Int32 × Int32)) :=
  some (.inl (x3, x4, (k0 + k1), (x6 + (1 : Int32))))
def fX6_run_b59 (st : MS) (x1 : Int32) (x2 : Int32) (x3 : Int32) (x5 : Int32) (x6 : Int32) (k0 : Int32) : Option ((Int32 × Int32 × Int32 × Int32) ⊕ (Int32 × Int32 × Int32 × Int32)) :=
  (if x3 = x1 then fX6_run_b73 st x1 x2 x3 k0 x6 x5 (1 : Int32) else fX6_run_b73 st x1 x2 x3 k0 x6 x5 (0 : Int32))
def fX6_run_b57 (st : MS) (x1 : Int32) (x2 : Int32) (x3 : Int32) (x4 : Int32) (x5 : Int32) (x6 : Int32) : Option ((Int32 × Int32 × Int32 × Int32) ⊕ (Int32 × Int32 × Int32 × Int32)) :=
  fX6_run_b59 st x1 x2 x3 x5 x6 x4
def fX6_run_b40 (st : MS) (x1 : Int32) (x2 : Int32) (x4 : Int32) (x5 : Int32) (x6 : Int32) (k0 : Int32) (k1 : Int32) : Option ((Int32 × Int32 × Int32 × Int32) ⊕ (Int32 × Int32 × Int32 × Int32)) :=
  (if (k0 + k1) = x1 then (if x4 = 0 then fX6_run_b59 st x1 x2 (k0 + k1) x5 x6 x6 else fX6_run_b57 st x1 x2 (k0 + k1) x4 x5 x6) else fX6_run_b57 st x1 x2 (k0 + k1) x4 x5 x6)
def fX6_run_l16 (st : MS) (x1 : Int32) (x2 : Int32) (x3 : Int32) (x4 : Int32) (x5 : Int32) (x6 : Int32) : Option ((Int32 × Int32 × Int32 × Int32) ⊕ (Int32 × Int32 × Int32 × Int32)) :=
  (if (MS_serials st) < x6 then some (.inr (x3, x4, x5, x6)) else (fX6_begins st x6).bind (fun r4 => (if r4 = 0 then fX6_run_b40 st x1 x2 x4 x5 x6 x3 (0 : Int32) else fX6_run_b40 st x1 x2 x4 x5 x6 x3 (1 : Int32))))
def fX6_run (st : MS) (x1 : Int32) (x2 : Int32) : Option (Int32 × MS) :=
  (bnd (MS_thrown_s st (0 : Int32)) (fun s1 => (loopN (fun (s : Int32 × Int32 × Int32 × Int32) => fX6_run_l16 s1 x1 x2 s.1 s.2.1 s.2.2.1 s.2.2.2) fuelN ((-1 : Int32), (0 : Int32), (0 : Int32), (1 : Int32))).bind (fun y10 => (if x1 < 0 then some ((-1 : Int32), s1) else (if y10.2.2.1 = 0 then some ((-1 : Int32), s1) else (if x2 = 0 then some (y10.2.1, s1) else (if x2 = (1 : Int32) then some (y10.2.2.1, s1) else (if x2 = (2 : Int32) then (if inb y10.2.1 20001 = true then some (((MS_owner s1) (y10.2.1).toNatClampNeg), s1) else none) else (if x2 = (3 : Int32) then (if inb y10.2.1 20001 = true then some (((MS_used s1) (y10.2.1).toNatClampNeg), s1) else none) else some ((-2 : Int32), s1))))))))))
def fX6_count (st : MS) (x1 : Int32) : Option (Int32 × MS) :=
  (bnd (MS_thrown_s st (0 : Int32)) (fun s1 => (if x1 = 0 then some ((MS_units s1), s1) else (if x1 = 1 then some ((MS_rows s1), s1) else (if x1 = 2 then some ((MS_versions s1), s1) else (if x1 = 3 then some ((MS_serials s1), s1) else (if x1 = 4 then some ((MS_holdings s1), s1) else some ((-2 : Int32), s1))))))))
