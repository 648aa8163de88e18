section
-- ===== PART A: goes FIRST, ahead of the names: the tables' words, and 'selects' of the private methods out of them =====
/-- a private method of a class that the tables say can be made, by its rows of tables_1 -/
def lw_okq (q : MethodName × Nat) : Prop := (q.1.cls ≠ "java/lang/invoke/MethodHandle" ∧ q.1.cls ≠ "java/lang/invoke/VarHandle") ∧ Cond.instantiable q.1.cls q.2 ∈ tables_1 ∧ Cond.privateMethod q.1 ∈ tables_1 ∧ Cond.instanceMethod q.1 ∈ tables_1
theorem lw_p0 : lw_okq (⟨"SmokeLedger", "isUnit", "(I)Z"⟩, 5) := ⟨⟨by decide +kernel, by decide +kernel⟩, List.mem_of_getElem? (i := 12) (by decide +kernel), List.mem_of_getElem? (i := 173) (by decide +kernel), List.mem_of_getElem? (i := 174) (by decide +kernel)⟩
theorem lw_p1 : lw_okq (⟨"SmokeLedger$Holdings", "gatherTies", "()V"⟩, 11) := ⟨⟨by decide +kernel, by decide +kernel⟩, List.mem_of_getElem? (i := 20) (by decide +kernel), List.mem_of_getElem? (i := 187) (by decide +kernel), List.mem_of_getElem? (i := 188) (by decide +kernel)⟩
theorem lw_p2 : lw_okq (⟨"SmokeLedger$Holdings", "isTiedTo", "(II)Z"⟩, 11) := ⟨⟨by decide +kernel, by decide +kernel⟩, List.mem_of_getElem? (i := 20) (by decide +kernel), List.mem_of_getElem? (i := 194) (by decide +kernel), List.mem_of_getElem? (i := 195) (by decide +kernel)⟩
theorem lw_p3 : lw_okq (⟨"SmokeLedger$Holdings", "tiedToAnyOf", "(I)I"⟩, 11) := ⟨⟨by decide +kernel, by decide +kernel⟩, List.mem_of_getElem? (i := 20) (by decide +kernel), List.mem_of_getElem? (i := 198) (by decide +kernel), List.mem_of_getElem? (i := 199) (by decide +kernel)⟩
theorem lw_p4 : lw_okq (⟨"SmokeLedger$Holdings", "isTooDeep", "()Z"⟩, 11) := ⟨⟨by decide +kernel, by decide +kernel⟩, List.mem_of_getElem? (i := 20) (by decide +kernel), List.mem_of_getElem? (i := 202) (by decide +kernel), List.mem_of_getElem? (i := 203) (by decide +kernel)⟩
theorem lw_p5 : lw_okq (⟨"SmokeLedger$Holdings", "spanOn", "(I)I"⟩, 11) := ⟨⟨by decide +kernel, by decide +kernel⟩, List.mem_of_getElem? (i := 20) (by decide +kernel), List.mem_of_getElem? (i := 214) (by decide +kernel), List.mem_of_getElem? (i := 215) (by decide +kernel)⟩
theorem lw_p6 : lw_okq (⟨"SmokeLedger$Holdings", "placeOf", "(III)I"⟩, 11) := ⟨⟨by decide +kernel, by decide +kernel⟩, List.mem_of_getElem? (i := 20) (by decide +kernel), List.mem_of_getElem? (i := 218) (by decide +kernel), List.mem_of_getElem? (i := 219) (by decide +kernel)⟩
theorem lw_p7 : lw_okq (⟨"SmokeLedger$Holdings", "makeRoomAt", "(I)V"⟩, 11) := ⟨⟨by decide +kernel, by decide +kernel⟩, List.mem_of_getElem? (i := 20) (by decide +kernel), List.mem_of_getElem? (i := 222) (by decide +kernel), List.mem_of_getElem? (i := 223) (by decide +kernel)⟩
theorem lw_p8 : lw_okq (⟨"SmokeLedger$Holdings", "forgetSpans", "()V"⟩, 11) := ⟨⟨by decide +kernel, by decide +kernel⟩, List.mem_of_getElem? (i := 20) (by decide +kernel), List.mem_of_getElem? (i := 229) (by decide +kernel), List.mem_of_getElem? (i := 230) (by decide +kernel)⟩
theorem lw_p9 : lw_okq (⟨"SmokeLedger$Holdings", "shareIn", "(II)J"⟩, 11) := ⟨⟨by decide +kernel, by decide +kernel⟩, List.mem_of_getElem? (i := 20) (by decide +kernel), List.mem_of_getElem? (i := 247) (by decide +kernel), List.mem_of_getElem? (i := 248) (by decide +kernel)⟩
theorem lw_p10 : lw_okq (⟨"SmokeLedger$Holdings", "makeSpan", "(I)V"⟩, 11) := ⟨⟨by decide +kernel, by decide +kernel⟩, List.mem_of_getElem? (i := 20) (by decide +kernel), List.mem_of_getElem? (i := 251) (by decide +kernel), List.mem_of_getElem? (i := 252) (by decide +kernel)⟩
theorem lw_p11 : lw_okq (⟨"SmokeLedger$Holdings", "goOneStep", "()V"⟩, 11) := ⟨⟨by decide +kernel, by decide +kernel⟩, List.mem_of_getElem? (i := 20) (by decide +kernel), List.mem_of_getElem? (i := 259) (by decide +kernel), List.mem_of_getElem? (i := 260) (by decide +kernel)⟩
theorem lw_p12 : lw_okq (⟨"SmokeLedger", "isRow", "(I)Z"⟩, 5) := ⟨⟨by decide +kernel, by decide +kernel⟩, List.mem_of_getElem? (i := 12) (by decide +kernel), List.mem_of_getElem? (i := 292) (by decide +kernel), List.mem_of_getElem? (i := 293) (by decide +kernel)⟩
theorem lw_p13 : lw_okq (⟨"SmokeLedger", "isDouble", "(II)Z"⟩, 5) := ⟨⟨by decide +kernel, by decide +kernel⟩, List.mem_of_getElem? (i := 12) (by decide +kernel), List.mem_of_getElem? (i := 296) (by decide +kernel), List.mem_of_getElem? (i := 297) (by decide +kernel)⟩
theorem lw_p14 : lw_okq (⟨"SmokeLedger", "isAsOf", "(I)Z"⟩, 5) := ⟨⟨by decide +kernel, by decide +kernel⟩, List.mem_of_getElem? (i := 12) (by decide +kernel), List.mem_of_getElem? (i := 315) (by decide +kernel), List.mem_of_getElem? (i := 316) (by decide +kernel)⟩
theorem lw_p15 : lw_okq (⟨"SmokeLedger", "tonsOf", "(ILSmokeLedger$Way;)J"⟩, 5) := ⟨⟨by decide +kernel, by decide +kernel⟩, List.mem_of_getElem? (i := 12) (by decide +kernel), List.mem_of_getElem? (i := 354) (by decide +kernel), List.mem_of_getElem? (i := 355) (by decide +kernel)⟩
def lw_privs_1 : List (MethodName × Nat) := [(⟨"SmokeLedger", "isUnit", "(I)Z"⟩, 5), (⟨"SmokeLedger$Holdings", "gatherTies", "()V"⟩, 11), (⟨"SmokeLedger$Holdings", "isTiedTo", "(II)Z"⟩, 11), (⟨"SmokeLedger$Holdings", "tiedToAnyOf", "(I)I"⟩, 11), (⟨"SmokeLedger$Holdings", "isTooDeep", "()Z"⟩, 11), (⟨"SmokeLedger$Holdings", "spanOn", "(I)I"⟩, 11), (⟨"SmokeLedger$Holdings", "placeOf", "(III)I"⟩, 11), (⟨"SmokeLedger$Holdings", "makeRoomAt", "(I)V"⟩, 11), (⟨"SmokeLedger$Holdings", "forgetSpans", "()V"⟩, 11), (⟨"SmokeLedger$Holdings", "shareIn", "(II)J"⟩, 11), (⟨"SmokeLedger$Holdings", "makeSpan", "(I)V"⟩, 11), (⟨"SmokeLedger$Holdings", "goOneStep", "()V"⟩, 11), (⟨"SmokeLedger", "isRow", "(I)Z"⟩, 5), (⟨"SmokeLedger", "isDouble", "(II)Z"⟩, 5), (⟨"SmokeLedger", "isAsOf", "(I)Z"⟩, 5), (⟨"SmokeLedger", "tonsOf", "(ILSmokeLedger$Way;)J"⟩, 5)]
theorem lw_r1 : ∀ q ∈ lw_privs_1, lw_okq q := List.forall_mem_cons.mpr ⟨lw_p0, List.forall_mem_cons.mpr ⟨lw_p1, List.forall_mem_cons.mpr ⟨lw_p2, List.forall_mem_cons.mpr ⟨lw_p3, List.forall_mem_cons.mpr ⟨lw_p4, List.forall_mem_cons.mpr ⟨lw_p5, List.forall_mem_cons.mpr ⟨lw_p6, List.forall_mem_cons.mpr ⟨lw_p7, List.forall_mem_cons.mpr ⟨lw_p8, List.forall_mem_cons.mpr ⟨lw_p9, List.forall_mem_cons.mpr ⟨lw_p10, List.forall_mem_cons.mpr ⟨lw_p11, List.forall_mem_cons.mpr ⟨lw_p12, List.forall_mem_cons.mpr ⟨lw_p13, List.forall_mem_cons.mpr ⟨lw_p14, List.forall_mem_cons.mpr ⟨lw_p15, fun _ h => absurd h List.not_mem_nil⟩⟩⟩⟩⟩⟩⟩⟩⟩⟩⟩⟩⟩⟩⟩⟩
theorem lw_p16 : lw_okq (⟨"SmokeLedger", "versionOf", "(II)I"⟩, 5) := ⟨⟨by decide +kernel, by decide +kernel⟩, List.mem_of_getElem? (i := 12) (by decide +kernel), List.mem_of_getElem? (i := 358) (by decide +kernel), List.mem_of_getElem? (i := 359) (by decide +kernel)⟩
theorem lw_p17 : lw_okq (⟨"SmokeLedger", "isChanged", "(IIII)Z"⟩, 5) := ⟨⟨by decide +kernel, by decide +kernel⟩, List.mem_of_getElem? (i := 12) (by decide +kernel), List.mem_of_getElem? (i := 375) (by decide +kernel), List.mem_of_getElem? (i := 376) (by decide +kernel)⟩
theorem lw_p18 : lw_okq (⟨"SmokeLedger", "totalOf", "(IIILSmokeLedger$Way;)J"⟩, 5) := ⟨⟨by decide +kernel, by decide +kernel⟩, List.mem_of_getElem? (i := 12) (by decide +kernel), List.mem_of_getElem? (i := 392) (by decide +kernel), List.mem_of_getElem? (i := 393) (by decide +kernel)⟩
theorem lw_p19 : lw_okq (⟨"SmokeLedger$Serials", "insertRun", "(IIII)V"⟩, 5) := ⟨⟨by decide +kernel, by decide +kernel⟩, List.mem_of_getElem? (i := 122) (by decide +kernel), List.mem_of_getElem? (i := 424) (by decide +kernel), List.mem_of_getElem? (i := 425) (by decide +kernel)⟩
theorem lw_p20 : lw_okq (⟨"SmokeLedger$Serials", "sharedWith", "(III)I"⟩, 5) := ⟨⟨by decide +kernel, by decide +kernel⟩, List.mem_of_getElem? (i := 122) (by decide +kernel), List.mem_of_getElem? (i := 453) (by decide +kernel), List.mem_of_getElem? (i := 454) (by decide +kernel)⟩
theorem lw_p21 : lw_okq (⟨"SmokeLedger$Serials", "endOf", "(I)I"⟩, 5) := ⟨⟨by decide +kernel, by decide +kernel⟩, List.mem_of_getElem? (i := 122) (by decide +kernel), List.mem_of_getElem? (i := 457) (by decide +kernel), List.mem_of_getElem? (i := 458) (by decide +kernel)⟩
theorem lw_p22 : lw_okq (⟨"SmokeLedger$Serials", "splitBefore", "(I)I"⟩, 5) := ⟨⟨by decide +kernel, by decide +kernel⟩, List.mem_of_getElem? (i := 122) (by decide +kernel), List.mem_of_getElem? (i := 473) (by decide +kernel), List.mem_of_getElem? (i := 474) (by decide +kernel)⟩
theorem lw_p23 : lw_okq (⟨"SmokeLedger$Serials", "joinAlike", "()V"⟩, 5) := ⟨⟨by decide +kernel, by decide +kernel⟩, List.mem_of_getElem? (i := 122) (by decide +kernel), List.mem_of_getElem? (i := 481) (by decide +kernel), List.mem_of_getElem? (i := 482) (by decide +kernel)⟩
theorem lw_p24 : lw_okq (⟨"SmokeLedgerModel", "noUnit", "(I)Z"⟩, 26) := ⟨⟨by decide +kernel, by decide +kernel⟩, List.mem_of_getElem? (i := 523) (by decide +kernel), List.mem_of_getElem? (i := 616) (by decide +kernel), List.mem_of_getElem? (i := 617) (by decide +kernel)⟩
theorem lw_p25 : lw_okq (⟨"SmokeLedgerModel", "mayHold", "(II)Z"⟩, 26) := ⟨⟨by decide +kernel, by decide +kernel⟩, List.mem_of_getElem? (i := 523) (by decide +kernel), List.mem_of_getElem? (i := 628) (by decide +kernel), List.mem_of_getElem? (i := 629) (by decide +kernel)⟩
theorem lw_p26 : lw_okq (⟨"SmokeLedgerModel", "lay", "(I)V"⟩, 26) := ⟨⟨by decide +kernel, by decide +kernel⟩, List.mem_of_getElem? (i := 523) (by decide +kernel), List.mem_of_getElem? (i := 632) (by decide +kernel), List.mem_of_getElem? (i := 633) (by decide +kernel)⟩
theorem lw_p27 : lw_okq (⟨"SmokeLedgerModel", "shares", "(I)V"⟩, 26) := ⟨⟨by decide +kernel, by decide +kernel⟩, List.mem_of_getElem? (i := 523) (by decide +kernel), List.mem_of_getElem? (i := 646) (by decide +kernel), List.mem_of_getElem? (i := 647) (by decide +kernel)⟩
theorem lw_p28 : lw_okq (⟨"SmokeLedgerModel", "noRow", "(I)Z"⟩, 26) := ⟨⟨by decide +kernel, by decide +kernel⟩, List.mem_of_getElem? (i := 523) (by decide +kernel), List.mem_of_getElem? (i := 666) (by decide +kernel), List.mem_of_getElem? (i := 667) (by decide +kernel)⟩
theorem lw_p29 : lw_okq (⟨"SmokeLedgerModel", "isDouble", "(II)Z"⟩, 26) := ⟨⟨by decide +kernel, by decide +kernel⟩, List.mem_of_getElem? (i := 523) (by decide +kernel), List.mem_of_getElem? (i := 670) (by decide +kernel), List.mem_of_getElem? (i := 671) (by decide +kernel)⟩
theorem lw_p30 : lw_okq (⟨"SmokeLedgerModel", "noAs", "(I)Z"⟩, 26) := ⟨⟨by decide +kernel, by decide +kernel⟩, List.mem_of_getElem? (i := 523) (by decide +kernel), List.mem_of_getElem? (i := 686) (by decide +kernel), List.mem_of_getElem? (i := 687) (by decide +kernel)⟩
theorem lw_p31 : lw_okq (⟨"SmokeLedgerModel", "factorOf", "(IIIZ)I"⟩, 26) := ⟨⟨by decide +kernel, by decide +kernel⟩, List.mem_of_getElem? (i := 523) (by decide +kernel), List.mem_of_getElem? (i := 690) (by decide +kernel), List.mem_of_getElem? (i := 691) (by decide +kernel)⟩
def lw_privs_2 : List (MethodName × Nat) := [(⟨"SmokeLedger", "versionOf", "(II)I"⟩, 5), (⟨"SmokeLedger", "isChanged", "(IIII)Z"⟩, 5), (⟨"SmokeLedger", "totalOf", "(IIILSmokeLedger$Way;)J"⟩, 5), (⟨"SmokeLedger$Serials", "insertRun", "(IIII)V"⟩, 5), (⟨"SmokeLedger$Serials", "sharedWith", "(III)I"⟩, 5), (⟨"SmokeLedger$Serials", "endOf", "(I)I"⟩, 5), (⟨"SmokeLedger$Serials", "splitBefore", "(I)I"⟩, 5), (⟨"SmokeLedger$Serials", "joinAlike", "()V"⟩, 5), (⟨"SmokeLedgerModel", "noUnit", "(I)Z"⟩, 26), (⟨"SmokeLedgerModel", "mayHold", "(II)Z"⟩, 26), (⟨"SmokeLedgerModel", "lay", "(I)V"⟩, 26), (⟨"SmokeLedgerModel", "shares", "(I)V"⟩, 26), (⟨"SmokeLedgerModel", "noRow", "(I)Z"⟩, 26), (⟨"SmokeLedgerModel", "isDouble", "(II)Z"⟩, 26), (⟨"SmokeLedgerModel", "noAs", "(I)Z"⟩, 26), (⟨"SmokeLedgerModel", "factorOf", "(IIIZ)I"⟩, 26)]
theorem lw_r2 : ∀ q ∈ lw_privs_2, lw_okq q := List.forall_mem_cons.mpr ⟨lw_p16, List.forall_mem_cons.mpr ⟨lw_p17, List.forall_mem_cons.mpr ⟨lw_p18, List.forall_mem_cons.mpr ⟨lw_p19, List.forall_mem_cons.mpr ⟨lw_p20, List.forall_mem_cons.mpr ⟨lw_p21, List.forall_mem_cons.mpr ⟨lw_p22, List.forall_mem_cons.mpr ⟨lw_p23, List.forall_mem_cons.mpr ⟨lw_p24, List.forall_mem_cons.mpr ⟨lw_p25, List.forall_mem_cons.mpr ⟨lw_p26, List.forall_mem_cons.mpr ⟨lw_p27, List.forall_mem_cons.mpr ⟨lw_p28, List.forall_mem_cons.mpr ⟨lw_p29, List.forall_mem_cons.mpr ⟨lw_p30, List.forall_mem_cons.mpr ⟨lw_p31, fun _ h => absurd h List.not_mem_nil⟩⟩⟩⟩⟩⟩⟩⟩⟩⟩⟩⟩⟩⟩⟩⟩
theorem lw_p32 : lw_okq (⟨"SmokeLedgerModel", "versionOf", "(III)I"⟩, 26) := ⟨⟨by decide +kernel, by decide +kernel⟩, List.mem_of_getElem? (i := 523) (by decide +kernel), List.mem_of_getElem? (i := 694) (by decide +kernel), List.mem_of_getElem? (i := 695) (by decide +kernel)⟩
theorem lw_p33 : lw_okq (⟨"SmokeLedgerModel", "tonsOf", "(IIZZ)J"⟩, 26) := ⟨⟨by decide +kernel, by decide +kernel⟩, List.mem_of_getElem? (i := 523) (by decide +kernel), List.mem_of_getElem? (i := 702) (by decide +kernel), List.mem_of_getElem? (i := 703) (by decide +kernel)⟩
theorem lw_p34 : lw_okq (⟨"SmokeLedgerModel", "isOther", "(III)Z"⟩, 26) := ⟨⟨by decide +kernel, by decide +kernel⟩, List.mem_of_getElem? (i := 523) (by decide +kernel), List.mem_of_getElem? (i := 711) (by decide +kernel), List.mem_of_getElem? (i := 712) (by decide +kernel)⟩
theorem lw_p35 : lw_okq (⟨"SmokeLedgerModel", "totalOf", "(IIIIZZZ)J"⟩, 26) := ⟨⟨by decide +kernel, by decide +kernel⟩, List.mem_of_getElem? (i := 523) (by decide +kernel), List.mem_of_getElem? (i := 723) (by decide +kernel), List.mem_of_getElem? (i := 724) (by decide +kernel)⟩
theorem lw_p36 : lw_okq (⟨"SmokeLedgerModel", "noSerials", "(II)Z"⟩, 26) := ⟨⟨by decide +kernel, by decide +kernel⟩, List.mem_of_getElem? (i := 523) (by decide +kernel), List.mem_of_getElem? (i := 752) (by decide +kernel), List.mem_of_getElem? (i := 753) (by decide +kernel)⟩
theorem lw_p37 : lw_okq (⟨"SmokeLedgerModel", "hasUsed", "(II)Z"⟩, 26) := ⟨⟨by decide +kernel, by decide +kernel⟩, List.mem_of_getElem? (i := 523) (by decide +kernel), List.mem_of_getElem? (i := 756) (by decide +kernel), List.mem_of_getElem? (i := 757) (by decide +kernel)⟩
theorem lw_p38 : lw_okq (⟨"SmokeLedgerModel", "begins", "(I)Z"⟩, 26) := ⟨⟨by decide +kernel, by decide +kernel⟩, List.mem_of_getElem? (i := 523) (by decide +kernel), List.mem_of_getElem? (i := 780) (by decide +kernel), List.mem_of_getElem? (i := 781) (by decide +kernel)⟩
def lw_privs_3 : List (MethodName × Nat) := [(⟨"SmokeLedgerModel", "versionOf", "(III)I"⟩, 26), (⟨"SmokeLedgerModel", "tonsOf", "(IIZZ)J"⟩, 26), (⟨"SmokeLedgerModel", "isOther", "(III)Z"⟩, 26), (⟨"SmokeLedgerModel", "totalOf", "(IIIIZZZ)J"⟩, 26), (⟨"SmokeLedgerModel", "noSerials", "(II)Z"⟩, 26), (⟨"SmokeLedgerModel", "hasUsed", "(II)Z"⟩, 26), (⟨"SmokeLedgerModel", "begins", "(I)Z"⟩, 26)]
theorem lw_r3 : ∀ q ∈ lw_privs_3, lw_okq q := List.forall_mem_cons.mpr ⟨lw_p32, List.forall_mem_cons.mpr ⟨lw_p33, List.forall_mem_cons.mpr ⟨lw_p34, List.forall_mem_cons.mpr ⟨lw_p35, List.forall_mem_cons.mpr ⟨lw_p36, List.forall_mem_cons.mpr ⟨lw_p37, List.forall_mem_cons.mpr ⟨lw_p38, fun _ h => absurd h List.not_mem_nil⟩⟩⟩⟩⟩⟩⟩
def lw_privs : List (MethodName × Nat) := lw_privs_1 ++ (lw_privs_2 ++ (lw_privs_3))
def lw_tbl : List Cond := k2_sels lw_privs ++ tables_1
theorem lw_privs_ok : ∀ q ∈ lw_privs, lw_okq q := by
  show ∀ q ∈ lw_privs_1 ++ (lw_privs_2 ++ (lw_privs_3)), lw_okq q
  exact List.forall_mem_append.mpr ⟨lw_r1, List.forall_mem_append.mpr ⟨lw_r2, lw_r3⟩⟩
-- ===== end of PART A; then your names; then what follows =====
end
section
/-! ===== BEGIN words of one list among another's, by their places ===== -/
theorem goodIn_r {big : List Cond} (ws : List Cond) (ps : List Nat) (hp : ws = ps.filterMap (fun i => big[i]?)) (h : ws.all goodWord = true) : GoodIn big ws := by
  intro w hw
  have h1 := List.all_eq_true.mp h w hw
  rw [hp] at hw
  obtain ⟨i, -, hi⟩ := List.mem_filterMap.mp hw
  have hm : w ∈ big := by first | exact List.mem_of_getElem? hi | exact List.getElem?_mem hi
  exact ⟨hm, good_of_word h1⟩
theorem goodIn_app {big a b : List Cond} (ha : GoodIn big a) (hb : GoodIn big b) : GoodIn big (a ++ b) := fun w h => (List.mem_append.mp h).elim (ha w) (hb w)
theorem goodIn_ca {big a b : List Cond} {c : Cond} (ha : GoodIn big (c :: a)) (hb : GoodIn big b) : GoodIn big (c :: (a ++ b)) := fun w h => (List.mem_cons.mp h).elim (fun e => ha w (List.mem_cons.mpr (Or.inl e))) (fun h => (List.mem_append.mp h).elim (fun h => ha w (List.mem_cons.mpr (Or.inr h))) (hb w))
theorem goodIn_sub {big ws : List Cond} (hm : ∀ w ∈ ws, w ∈ big) (h : ws.all goodWord = true) : GoodIn big ws := fun w hw => ⟨hm w hw, good_of_word (List.all_eq_true.mp h w hw)⟩
/-! ===== END ===== -/

/-! ===== BEGIN printed: names, fields, word lists, decode rows ===== -/
def RX0 : String := "SmokeLedger$Factors"
def TX0 : u_T := fun k => match k with
  | 0 => ("SmokeLedger$Factors", "kind", "[I", true)
  | 1 => ("SmokeLedger$Factors", "year", "[I", true)
  | 2 => ("SmokeLedger$Factors", "low", "[I", true)
  | 3 => ("SmokeLedger$Factors", "high", "[I", true)
  | _ => ("SmokeLedger$Factors", "size", "I", false)
def tyX0 : Nat → FieldType := fun k => match k with
  | 0 => .array .int
  | 1 => .array .int
  | 2 => .array .int
  | 3 => .array .int
  | _ => .int
abbrev wsX00 : List Cond := u_ws RX0 TX0 5
theorem nmX0 : ∀ a, a < 5 → ∀ b, b < 5 → a ≠ b → (TX0 a).2.1 ≠ (TX0 b).2.1 := by decide +kernel
theorem tyX0_ok : ∀ k, k < 5 → parseFieldDescriptor (TX0 k).2.2.1 = some (tyX0 k) := by decide +kernel
abbrev cX0_init : ByteArray := prog_2_method_1_code
def yX0_init : MethodName := ⟨RX0, "<init>", "()V"⟩
abbrev cX0_add : ByteArray := prog_2_method_2_code
def yX0_add : MethodName := ⟨RX0, "add", "(IIII)I"⟩
abbrev cX0_versionFor : ByteArray := prog_2_method_3_code
def yX0_versionFor : MethodName := ⟨RX0, "versionFor", "(III)I"⟩
abbrev cX0_endOf : ByteArray := prog_2_method_4_code
def yX0_endOf : MethodName := ⟨RX0, "endOf", "(IZ)I"⟩
def RX1 : String := "SmokeLedger$Holdings"
def TX1 : u_T := fun k => match k with
  | 0 => ("SmokeLedger$Holdings", "holder", "[I", true)
  | 1 => ("SmokeLedger$Holdings", "held", "[I", true)
  | 2 => ("SmokeLedger$Holdings", "hundredths", "[I", true)
  | 3 => ("SmokeLedger$Holdings", "day", "[I", true)
  | 4 => ("SmokeLedger$Holdings", "size", "I", false)
  | 5 => ("SmokeLedger$Holdings", "tied", "[I", true)
  | 6 => ("SmokeLedger$Holdings", "spanIsMade", "[Z", true)
  | 7 => ("SmokeLedger$Holdings", "spanShares", "[J", true)
  | 8 => ("SmokeLedger$Holdings", "matrix", "[I", true)
  | 9 => ("SmokeLedger$Holdings", "reached", "[J", true)
  | _ => ("SmokeLedger$Holdings", "reachedNext", "[J", true)
def tyX1 : Nat → FieldType := fun k => match k with
  | 0 => .array .int
  | 1 => .array .int
  | 2 => .array .int
  | 3 => .array .int
  | 4 => .int
  | 5 => .array .int
  | 6 => .array .boolean
  | 7 => .array .long
  | 8 => .array .int
  | 9 => .array .long
  | _ => .array .long
abbrev wsX10 : List Cond := u_ws RX1 TX1 11
theorem nmX1 : ∀ a, a < 11 → ∀ b, b < 11 → a ≠ b → (TX1 a).2.1 ≠ (TX1 b).2.1 := by decide +kernel
theorem tyX1_ok : ∀ k, k < 11 → parseFieldDescriptor (TX1 k).2.2.1 = some (tyX1 k) := by decide +kernel
abbrev cX1_init : ByteArray := prog_3_method_1_code
def yX1_init : MethodName := ⟨RX1, "<init>", "()V"⟩
abbrev cX1_tell : ByteArray := prog_3_method_2_code
def yX1_tell : MethodName := ⟨RX1, "tell", "(IIII)I"⟩
abbrev cX1_heldOn : ByteArray := prog_3_method_3_code
def yX1_heldOn : MethodName := ⟨RX1, "heldOn", "(III)I"⟩
abbrev cX1_mayTie : ByteArray := prog_3_method_4_code
def yX1_mayTie : MethodName := ⟨RX1, "mayTie", "(II)Z"⟩
abbrev cX1_shareOn : ByteArray := prog_3_method_5_code
def yX1_shareOn : MethodName := ⟨RX1, "shareOn", "(II)J"⟩
abbrev cX1_sharesSummed : ByteArray := prog_3_method_6_code
def yX1_sharesSummed : MethodName := ⟨RX1, "sharesSummed", "(III)J"⟩
abbrev cX1_placeOf : ByteArray := prog_3_method_7_code
def yX1_placeOf : MethodName := ⟨RX1, "placeOf", "(III)I"⟩
abbrev cX1_spanOn : ByteArray := prog_3_method_8_code
def yX1_spanOn : MethodName := ⟨RX1, "spanOn", "(I)I"⟩
abbrev cX1_makeRoomAt : ByteArray := prog_3_method_9_code
def yX1_makeRoomAt : MethodName := ⟨RX1, "makeRoomAt", "(I)V"⟩
abbrev cX1_gatherTies : ByteArray := prog_3_method_10_code
def yX1_gatherTies : MethodName := ⟨RX1, "gatherTies", "()V"⟩
abbrev cX1_tiedToAnyOf : ByteArray := prog_3_method_11_code
def yX1_tiedToAnyOf : MethodName := ⟨RX1, "tiedToAnyOf", "(I)I"⟩
abbrev cX1_isTiedTo : ByteArray := prog_3_method_12_code
def yX1_isTiedTo : MethodName := ⟨RX1, "isTiedTo", "(II)Z"⟩
abbrev cX1_isTooDeep : ByteArray := prog_3_method_13_code
def yX1_isTooDeep : MethodName := ⟨RX1, "isTooDeep", "()Z"⟩
abbrev cX1_forgetSpans : ByteArray := prog_3_method_14_code
def yX1_forgetSpans : MethodName := ⟨RX1, "forgetSpans", "()V"⟩
abbrev cX1_shareIn : ByteArray := prog_3_method_15_code
def yX1_shareIn : MethodName := ⟨RX1, "shareIn", "(II)J"⟩
abbrev cX1_makeSpan : ByteArray := prog_3_method_16_code
def yX1_makeSpan : MethodName := ⟨RX1, "makeSpan", "(I)V"⟩
abbrev cX1_goOneStep : ByteArray := prog_3_method_17_code
def yX1_goOneStep : MethodName := ⟨RX1, "goOneStep", "()V"⟩
def RX2 : String := "SmokeLedger$Rows"
def TX2 : u_T := fun k => match k with
  | 0 => ("SmokeLedger$Rows", "unit", "[I", true)
  | 1 => ("SmokeLedger$Rows", "kind", "[I", true)
  | 2 => ("SmokeLedger$Rows", "amount", "[I", true)
  | 3 => ("SmokeLedger$Rows", "day", "[I", true)
  | 4 => ("SmokeLedger$Rows", "seller", "[I", true)
  | 5 => ("SmokeLedger$Rows", "covered", "[I", true)
  | _ => ("SmokeLedger$Rows", "size", "I", false)
def tyX2 : Nat → FieldType := fun k => match k with
  | 0 => .array .int
  | 1 => .array .int
  | 2 => .array .int
  | 3 => .array .int
  | 4 => .array .int
  | 5 => .array .int
  | _ => .int
abbrev wsX20 : List Cond := u_ws RX2 TX2 7
theorem nmX2 : ∀ a, a < 7 → ∀ b, b < 7 → a ≠ b → (TX2 a).2.1 ≠ (TX2 b).2.1 := by decide +kernel
theorem tyX2_ok : ∀ k, k < 7 → parseFieldDescriptor (TX2 k).2.2.1 = some (tyX2 k) := by decide +kernel
abbrev cX2_init : ByteArray := prog_4_method_1_code
def yX2_init : MethodName := ⟨RX2, "<init>", "()V"⟩
abbrev cX2_add : ByteArray := prog_4_method_2_code
def yX2_add : MethodName := ⟨RX2, "add", "(IIIII)I"⟩
abbrev cX2_yearOf : ByteArray := prog_4_method_3_code
def yX2_yearOf : MethodName := ⟨RX2, "yearOf", "(I)I"⟩
abbrev cX2_isOfYear : ByteArray := prog_4_method_4_code
def yX2_isOfYear : MethodName := ⟨RX2, "isOfYear", "(II)Z"⟩
abbrev cX2_uncovered : ByteArray := prog_4_method_5_code
def yX2_uncovered : MethodName := ⟨RX2, "uncovered", "(I)I"⟩
def RX3 : String := "SmokeLedger$Serials"
def TX3 : u_T := fun k => match k with
  | 0 => ("SmokeLedger$Serials", "first", "[I", false)
  | 1 => ("SmokeLedger$Serials", "owner", "[I", false)
  | 2 => ("SmokeLedger$Serials", "row", "[I", false)
  | 3 => ("SmokeLedger$Serials", "size", "I", false)
  | _ => ("SmokeLedger$Serials", "issued", "I", false)
def tyX3 : Nat → FieldType := fun k => match k with
  | 0 => .array .int
  | 1 => .array .int
  | 2 => .array .int
  | 3 => .int
  | _ => .int
abbrev wsX30 : List Cond := u_ws RX3 TX3 5
theorem nmX3 : ∀ a, a < 5 → ∀ b, b < 5 → a ≠ b → (TX3 a).2.1 ≠ (TX3 b).2.1 := by decide +kernel
theorem tyX3_ok : ∀ k, k < 5 → parseFieldDescriptor (TX3 k).2.2.1 = some (tyX3 k) := by decide +kernel
abbrev cX3_init : ByteArray := prog_5_method_1_code
def yX3_init : MethodName := ⟨RX3, "<init>", "()V"⟩
abbrev cX3_add : ByteArray := prog_5_method_2_code
def yX3_add : MethodName := ⟨RX3, "add", "(II)I"⟩
abbrev cX3_areIssued : ByteArray := prog_5_method_3_code
def yX3_areIssued : MethodName := ⟨RX3, "areIssued", "(II)Z"⟩
abbrev cX3_runWith : ByteArray := prog_5_method_4_code
def yX3_runWith : MethodName := ⟨RX3, "runWith", "(I)I"⟩
abbrev cX3_lengthOf : ByteArray := prog_5_method_5_code
def yX3_lengthOf : MethodName := ⟨RX3, "lengthOf", "(I)I"⟩
abbrev cX3_usedAmong : ByteArray := prog_5_method_6_code
def yX3_usedAmong : MethodName := ⟨RX3, "usedAmong", "(II)I"⟩
abbrev cX3_ownedAmong : ByteArray := prog_5_method_7_code
def yX3_ownedAmong : MethodName := ⟨RX3, "ownedAmong", "(III)I"⟩
abbrev cX3_unusedOf : ByteArray := prog_5_method_8_code
def yX3_unusedOf : MethodName := ⟨RX3, "unusedOf", "(I)I"⟩
abbrev cX3_mark : ByteArray := prog_5_method_9_code
def yX3_mark : MethodName := ⟨RX3, "mark", "(IIII)V"⟩
abbrev cX3_endOf : ByteArray := prog_5_method_10_code
def yX3_endOf : MethodName := ⟨RX3, "endOf", "(I)I"⟩
abbrev cX3_sharedWith : ByteArray := prog_5_method_11_code
def yX3_sharedWith : MethodName := ⟨RX3, "sharedWith", "(III)I"⟩
abbrev cX3_splitBefore : ByteArray := prog_5_method_12_code
def yX3_splitBefore : MethodName := ⟨RX3, "splitBefore", "(I)I"⟩
abbrev cX3_insertRun : ByteArray := prog_5_method_13_code
def yX3_insertRun : MethodName := ⟨RX3, "insertRun", "(IIII)V"⟩
abbrev cX3_joinAlike : ByteArray := prog_5_method_14_code
def yX3_joinAlike : MethodName := ⟨RX3, "joinAlike", "()V"⟩
def RX4 : String := "SmokeLedger$Way"
def TX4 : u_T := fun k => match k with
  | 0 => ("SmokeLedger$Way", "as", "I", true)
  | 1 => ("SmokeLedger$Way", "market", "Z", true)
  | 2 => ("SmokeLedger$Way", "once", "Z", true)
  | _ => ("SmokeLedger$Way", "high", "Z", true)
def tyX4 : Nat → FieldType := fun k => match k with
  | 0 => .int
  | 1 => .boolean
  | 2 => .boolean
  | _ => .boolean
abbrev wsX40 : List Cond := u_ws RX4 TX4 4
theorem nmX4 : ∀ a, a < 4 → ∀ b, b < 4 → a ≠ b → (TX4 a).2.1 ≠ (TX4 b).2.1 := by decide +kernel
theorem tyX4_ok : ∀ k, k < 4 → parseFieldDescriptor (TX4 k).2.2.1 = some (tyX4 k) := by decide +kernel
abbrev cX4_init : ByteArray := prog_6_method_1_code
def yX4_init : MethodName := ⟨RX4, "<init>", "(IZZZ)V"⟩
def RX5 : String := "SmokeLedger"
def TX5 : u_T := fun k => match k with
  | 0 => ("SmokeLedger", "holdings", "LSmokeLedger$Holdings;", true)
  | 1 => ("SmokeLedger", "rows", "LSmokeLedger$Rows;", true)
  | 2 => ("SmokeLedger", "factors", "LSmokeLedger$Factors;", true)
  | 3 => ("SmokeLedger", "serials", "LSmokeLedger$Serials;", true)
  | _ => ("SmokeLedger", "units", "I", false)
def tyX5 : Nat → FieldType := fun k => match k with
  | 0 => .object "SmokeLedger$Holdings"
  | 1 => .object "SmokeLedger$Rows"
  | 2 => .object "SmokeLedger$Factors"
  | 3 => .object "SmokeLedger$Serials"
  | _ => .int
abbrev wsX50 : List Cond := u_ws RX5 TX5 5
theorem nmX5 : ∀ a, a < 5 → ∀ b, b < 5 → a ≠ b → (TX5 a).2.1 ≠ (TX5 b).2.1 := by decide +kernel
theorem tyX5_ok : ∀ k, k < 5 → parseFieldDescriptor (TX5 k).2.2.1 = some (tyX5 k) := by decide +kernel
abbrev cX5_init : ByteArray := prog_1_method_1_code
def yX5_init : MethodName := ⟨RX5, "<init>", "()V"⟩
abbrev cX5_unit : ByteArray := prog_1_method_2_code
def yX5_unit : MethodName := ⟨RX5, "unit", "()I"⟩
abbrev cX5_hold : ByteArray := prog_1_method_3_code
def yX5_hold : MethodName := ⟨RX5, "hold", "(IIII)I"⟩
abbrev cX5_holds : ByteArray := prog_1_method_4_code
def yX5_holds : MethodName := ⟨RX5, "holds", "(III)I"⟩
abbrev cX5_share : ByteArray := prog_1_method_5_code
def yX5_share : MethodName := ⟨RX5, "share", "(II)J"⟩
abbrev cX5_days : ByteArray := prog_1_method_6_code
def yX5_days : MethodName := ⟨RX5, "days", "(III)J"⟩
abbrev cX5_row : ByteArray := prog_1_method_7_code
def yX5_row : MethodName := ⟨RX5, "row", "(IIIII)I"⟩
abbrev cX5_told : ByteArray := prog_1_method_8_code
def yX5_told : MethodName := ⟨RX5, "told", "(II)I"⟩
abbrev cX5_factor : ByteArray := prog_1_method_9_code
def yX5_factor : MethodName := ⟨RX5, "factor", "(IIII)I"⟩
abbrev cX5_factorAs : ByteArray := prog_1_method_10_code
def yX5_factorAs : MethodName := ⟨RX5, "factorAs", "(IIIZ)I"⟩
abbrev cX5_tons : ByteArray := prog_1_method_11_code
def yX5_tons : MethodName := ⟨RX5, "tons", "(IIZZ)J"⟩
abbrev cX5_changed : ByteArray := prog_1_method_12_code
def yX5_changed : MethodName := ⟨RX5, "changed", "(III)I"⟩
abbrev cX5_change : ByteArray := prog_1_method_13_code
def yX5_change : MethodName := ⟨RX5, "change", "(IIII)I"⟩
abbrev cX5_total : ByteArray := prog_1_method_14_code
def yX5_total : MethodName := ⟨RX5, "total", "(IIZZZ)J"⟩
abbrev cX5_anew : ByteArray := prog_1_method_15_code
def yX5_anew : MethodName := ⟨RX5, "anew", "(IIIZZZ)J"⟩
abbrev cX5_part : ByteArray := prog_1_method_16_code
def yX5_part : MethodName := ⟨RX5, "part", "(IIIZZZ)J"⟩
abbrev cX5_doubles : ByteArray := prog_1_method_17_code
def yX5_doubles : MethodName := ⟨RX5, "doubles", "(I)I"⟩
abbrev cX5_onPath : ByteArray := prog_1_method_18_code
def yX5_onPath : MethodName := ⟨RX5, "onPath", "(IIII)I"⟩
abbrev cX5_issue : ByteArray := prog_1_method_19_code
def yX5_issue : MethodName := ⟨RX5, "issue", "(II)I"⟩
abbrev cX5_move : ByteArray := prog_1_method_20_code
def yX5_move : MethodName := ⟨RX5, "move", "(III)I"⟩
abbrev cX5_use : ByteArray := prog_1_method_21_code
def yX5_use : MethodName := ⟨RX5, "use", "(III)I"⟩
abbrev cX5_owner : ByteArray := prog_1_method_22_code
def yX5_owner : MethodName := ⟨RX5, "owner", "(I)I"⟩
abbrev cX5_usedFor : ByteArray := prog_1_method_23_code
def yX5_usedFor : MethodName := ⟨RX5, "usedFor", "(I)I"⟩
abbrev cX5_free : ByteArray := prog_1_method_24_code
def yX5_free : MethodName := ⟨RX5, "free", "(I)I"⟩
abbrev cX5_runs : ByteArray := prog_1_method_25_code
def yX5_runs : MethodName := ⟨RX5, "runs", "()I"⟩
abbrev cX5_run : ByteArray := prog_1_method_26_code
def yX5_run : MethodName := ⟨RX5, "run", "(II)I"⟩
abbrev cX5_count : ByteArray := prog_1_method_27_code
def yX5_count : MethodName := ⟨RX5, "count", "(I)I"⟩
abbrev cX5_isUnit : ByteArray := prog_1_method_28_code
def yX5_isUnit : MethodName := ⟨RX5, "isUnit", "(I)Z"⟩
abbrev cX5_isRow : ByteArray := prog_1_method_29_code
def yX5_isRow : MethodName := ⟨RX5, "isRow", "(I)Z"⟩
abbrev cX5_isAsOf : ByteArray := prog_1_method_30_code
def yX5_isAsOf : MethodName := ⟨RX5, "isAsOf", "(I)Z"⟩
abbrev cX5_isHundredths : ByteArray := prog_1_method_31_code
def yX5_isHundredths : MethodName := ⟨RX5, "isHundredths", "(I)Z"⟩
abbrev cX5_isDay : ByteArray := prog_1_method_32_code
def yX5_isDay : MethodName := ⟨RX5, "isDay", "(I)Z"⟩
abbrev cX5_isYear : ByteArray := prog_1_method_33_code
def yX5_isYear : MethodName := ⟨RX5, "isYear", "(I)Z"⟩
abbrev cX5_isKind : ByteArray := prog_1_method_34_code
def yX5_isKind : MethodName := ⟨RX5, "isKind", "(I)Z"⟩
abbrev cX5_isDouble : ByteArray := prog_1_method_35_code
def yX5_isDouble : MethodName := ⟨RX5, "isDouble", "(II)Z"⟩
abbrev cX5_versionOf : ByteArray := prog_1_method_36_code
def yX5_versionOf : MethodName := ⟨RX5, "versionOf", "(II)I"⟩
abbrev cX5_tonsOf : ByteArray := prog_1_method_37_code
def yX5_tonsOf : MethodName := ⟨RX5, "tonsOf", "(ILSmokeLedger$Way;)J"⟩
abbrev cX5_isChanged : ByteArray := prog_1_method_38_code
def yX5_isChanged : MethodName := ⟨RX5, "isChanged", "(IIII)Z"⟩
abbrev cX5_totalOf : ByteArray := prog_1_method_39_code
def yX5_totalOf : MethodName := ⟨RX5, "totalOf", "(IIILSmokeLedger$Way;)J"⟩
abbrev cX5_cutPart : ByteArray := prog_1_method_40_code
def yX5_cutPart : MethodName := ⟨RX5, "cutPart", "(JJJ)J"⟩
def RX6 : String := "SmokeLedgerModel"
def TX6 : u_T := fun k => match k with
  | 0 => ("SmokeLedgerModel", "thrown", "I", false)
  | 1 => ("SmokeLedgerModel", "units", "I", false)
  | 2 => ("SmokeLedgerModel", "holdings", "I", false)
  | 3 => ("SmokeLedgerModel", "who", "[I", true)
  | 4 => ("SmokeLedgerModel", "whom", "[I", true)
  | 5 => ("SmokeLedgerModel", "part", "[I", true)
  | 6 => ("SmokeLedgerModel", "since", "[I", true)
  | 7 => ("SmokeLedgerModel", "rows", "I", false)
  | 8 => ("SmokeLedgerModel", "unitOf", "[I", true)
  | 9 => ("SmokeLedgerModel", "kind", "[I", true)
  | 10 => ("SmokeLedgerModel", "amount", "[I", true)
  | 11 => ("SmokeLedgerModel", "day", "[I", true)
  | 12 => ("SmokeLedgerModel", "seller", "[I", true)
  | 13 => ("SmokeLedgerModel", "covered", "[I", true)
  | 14 => ("SmokeLedgerModel", "versions", "I", false)
  | 15 => ("SmokeLedgerModel", "ofKind", "[I", true)
  | 16 => ("SmokeLedgerModel", "ofYear", "[I", true)
  | 17 => ("SmokeLedgerModel", "low", "[I", true)
  | 18 => ("SmokeLedgerModel", "high", "[I", true)
  | 19 => ("SmokeLedgerModel", "serials", "I", false)
  | 20 => ("SmokeLedgerModel", "owner", "[I", true)
  | 21 => ("SmokeLedgerModel", "used", "[I", true)
  | 22 => ("SmokeLedgerModel", "held", "[I", true)
  | 23 => ("SmokeLedgerModel", "share", "[J", true)
  | 24 => ("SmokeLedgerModel", "edge", "[Z", true)
  | _ => ("SmokeLedgerModel", "deep", "[I", true)
def tyX6 : Nat → FieldType := fun k => match k with
  | 0 => .int
  | 1 => .int
  | 2 => .int
  | 3 => .array .int
  | 4 => .array .int
  | 5 => .array .int
  | 6 => .array .int
  | 7 => .int
  | 8 => .array .int
  | 9 => .array .int
  | 10 => .array .int
  | 11 => .array .int
  | 12 => .array .int
  | 13 => .array .int
  | 14 => .int
  | 15 => .array .int
  | 16 => .array .int
  | 17 => .array .int
  | 18 => .array .int
  | 19 => .int
  | 20 => .array .int
  | 21 => .array .int
  | 22 => .array .int
  | 23 => .array .long
  | 24 => .array .boolean
  | _ => .array .int
abbrev wsX60 : List Cond := u_ws RX6 TX6 26
theorem nmX6 : ∀ a, a < 26 → ∀ b, b < 26 → a ≠ b → (TX6 a).2.1 ≠ (TX6 b).2.1 := by decide +kernel
theorem tyX6_ok : ∀ k, k < 26 → parseFieldDescriptor (TX6 k).2.2.1 = some (tyX6 k) := by decide +kernel
abbrev cX6_init : ByteArray := prog_8_method_1_code
def yX6_init : MethodName := ⟨RX6, "<init>", "()V"⟩
abbrev cX6_in : ByteArray := prog_8_method_3_code
def yX6_in : MethodName := ⟨RX6, "in", "(JJJ)Z"⟩
abbrev cX6_noUnit : ByteArray := prog_8_method_4_code
def yX6_noUnit : MethodName := ⟨RX6, "noUnit", "(I)Z"⟩
abbrev cX6_noDay : ByteArray := prog_8_method_5_code
def yX6_noDay : MethodName := ⟨RX6, "noDay", "(I)Z"⟩
abbrev cX6_noYear : ByteArray := prog_8_method_6_code
def yX6_noYear : MethodName := ⟨RX6, "noYear", "(I)Z"⟩
abbrev cX6_noAs : ByteArray := prog_8_method_7_code
def yX6_noAs : MethodName := ⟨RX6, "noAs", "(I)Z"⟩
abbrev cX6_noRow : ByteArray := prog_8_method_8_code
def yX6_noRow : MethodName := ⟨RX6, "noRow", "(I)Z"⟩
abbrev cX6_unit : ByteArray := prog_8_method_9_code
def yX6_unit : MethodName := ⟨RX6, "unit", "()I"⟩
abbrev cX6_lay : ByteArray := prog_8_method_10_code
def yX6_lay : MethodName := ⟨RX6, "lay", "(I)V"⟩
abbrev cX6_shares : ByteArray := prog_8_method_11_code
def yX6_shares : MethodName := ⟨RX6, "shares", "(I)V"⟩
abbrev cX6_mayHold : ByteArray := prog_8_method_12_code
def yX6_mayHold : MethodName := ⟨RX6, "mayHold", "(II)Z"⟩
abbrev cX6_hold : ByteArray := prog_8_method_13_code
def yX6_hold : MethodName := ⟨RX6, "hold", "(IIII)I"⟩
abbrev cX6_holds : ByteArray := prog_8_method_14_code
def yX6_holds : MethodName := ⟨RX6, "holds", "(III)I"⟩
abbrev cX6_share : ByteArray := prog_8_method_15_code
def yX6_share : MethodName := ⟨RX6, "share", "(II)J"⟩
abbrev cX6_days : ByteArray := prog_8_method_16_code
def yX6_days : MethodName := ⟨RX6, "days", "(III)J"⟩
abbrev cX6_row : ByteArray := prog_8_method_17_code
def yX6_row : MethodName := ⟨RX6, "row", "(IIIII)I"⟩
abbrev cX6_isDouble : ByteArray := prog_8_method_18_code
def yX6_isDouble : MethodName := ⟨RX6, "isDouble", "(II)Z"⟩
abbrev cX6_told : ByteArray := prog_8_method_19_code
def yX6_told : MethodName := ⟨RX6, "told", "(II)I"⟩
abbrev cX6_factor : ByteArray := prog_8_method_20_code
def yX6_factor : MethodName := ⟨RX6, "factor", "(IIII)I"⟩
abbrev cX6_versionOf : ByteArray := prog_8_method_21_code
def yX6_versionOf : MethodName := ⟨RX6, "versionOf", "(III)I"⟩
abbrev cX6_factorOf : ByteArray := prog_8_method_22_code
def yX6_factorOf : MethodName := ⟨RX6, "factorOf", "(IIIZ)I"⟩
abbrev cX6_factorAs : ByteArray := prog_8_method_23_code
def yX6_factorAs : MethodName := ⟨RX6, "factorAs", "(IIIZ)I"⟩
abbrev cX6_tonsOf : ByteArray := prog_8_method_24_code
def yX6_tonsOf : MethodName := ⟨RX6, "tonsOf", "(IIZZ)J"⟩
abbrev cX6_tons : ByteArray := prog_8_method_25_code
def yX6_tons : MethodName := ⟨RX6, "tons", "(IIZZ)J"⟩
abbrev cX6_isOther : ByteArray := prog_8_method_26_code
def yX6_isOther : MethodName := ⟨RX6, "isOther", "(III)Z"⟩
abbrev cX6_changed : ByteArray := prog_8_method_27_code
def yX6_changed : MethodName := ⟨RX6, "changed", "(III)I"⟩
abbrev cX6_change : ByteArray := prog_8_method_28_code
def yX6_change : MethodName := ⟨RX6, "change", "(IIII)I"⟩
abbrev cX6_totalOf : ByteArray := prog_8_method_29_code
def yX6_totalOf : MethodName := ⟨RX6, "totalOf", "(IIIIZZZ)J"⟩
abbrev cX6_total : ByteArray := prog_8_method_30_code
def yX6_total : MethodName := ⟨RX6, "total", "(IIZZZ)J"⟩
abbrev cX6_anew : ByteArray := prog_8_method_31_code
def yX6_anew : MethodName := ⟨RX6, "anew", "(IIIZZZ)J"⟩
abbrev cX6_part : ByteArray := prog_8_method_32_code
def yX6_part : MethodName := ⟨RX6, "part", "(IIIZZZ)J"⟩
abbrev cX6_doubles : ByteArray := prog_8_method_33_code
def yX6_doubles : MethodName := ⟨RX6, "doubles", "(I)I"⟩
abbrev cX6_onPath : ByteArray := prog_8_method_34_code
def yX6_onPath : MethodName := ⟨RX6, "onPath", "(IIII)I"⟩
abbrev cX6_issue : ByteArray := prog_8_method_35_code
def yX6_issue : MethodName := ⟨RX6, "issue", "(II)I"⟩
abbrev cX6_noSerials : ByteArray := prog_8_method_36_code
def yX6_noSerials : MethodName := ⟨RX6, "noSerials", "(II)Z"⟩
abbrev cX6_hasUsed : ByteArray := prog_8_method_37_code
def yX6_hasUsed : MethodName := ⟨RX6, "hasUsed", "(II)Z"⟩
abbrev cX6_move : ByteArray := prog_8_method_38_code
def yX6_move : MethodName := ⟨RX6, "move", "(III)I"⟩
abbrev cX6_use : ByteArray := prog_8_method_39_code
def yX6_use : MethodName := ⟨RX6, "use", "(III)I"⟩
abbrev cX6_owner : ByteArray := prog_8_method_40_code
def yX6_owner : MethodName := ⟨RX6, "owner", "(I)I"⟩
abbrev cX6_usedFor : ByteArray := prog_8_method_41_code
def yX6_usedFor : MethodName := ⟨RX6, "usedFor", "(I)I"⟩
abbrev cX6_free : ByteArray := prog_8_method_42_code
def yX6_free : MethodName := ⟨RX6, "free", "(I)I"⟩
abbrev cX6_begins : ByteArray := prog_8_method_43_code
def yX6_begins : MethodName := ⟨RX6, "begins", "(I)Z"⟩
abbrev cX6_runs : ByteArray := prog_8_method_44_code
def yX6_runs : MethodName := ⟨RX6, "runs", "()I"⟩
abbrev cX6_run : ByteArray := prog_8_method_45_code
def yX6_run : MethodName := ⟨RX6, "run", "(II)I"⟩
abbrev cX6_count : ByteArray := prog_8_method_46_code
def yX6_count : MethodName := ⟨RX6, "count", "(I)I"⟩
def RJx8e188 : String := "java/lang/Cloneable"
def TJx8e188 : u_T := fun k => match k with
  | _ => ("", "", "", false)
def tyJx8e188 : Nat → FieldType := fun k => match k with
  | _ => .int
abbrev wsJx8e1880 : List Cond := u_ws RJx8e188 TJx8e188 0
theorem nmJx8e188 : ∀ a, a < 0 → ∀ b, b < 0 → a ≠ b → (TJx8e188 a).2.1 ≠ (TJx8e188 b).2.1 := by decide +kernel
theorem tyJx8e188_ok : ∀ k, k < 0 → parseFieldDescriptor (TJx8e188 k).2.2.1 = some (tyJx8e188 k) := by decide +kernel
def RJ9 : String := "java/lang/Math"
def TJ9 : u_T := fun k => match k with
  | _ => ("", "", "", false)
def tyJ9 : Nat → FieldType := fun k => match k with
  | _ => .int
abbrev wsJ90 : List Cond := u_ws RJ9 TJ9 0
theorem nmJ9 : ∀ a, a < 0 → ∀ b, b < 0 → a ≠ b → (TJ9 a).2.1 ≠ (TJ9 b).2.1 := by decide +kernel
theorem tyJ9_ok : ∀ k, k < 0 → parseFieldDescriptor (TJ9 k).2.2.1 = some (tyJ9 k) := by decide +kernel
abbrev cJ9_max_7cf53 : ByteArray := prog_10_method_65_code
def yJ9_max_7cf53 : MethodName := ⟨RJ9, "max", "(II)I"⟩
abbrev cJ9_min_7cf53 : ByteArray := prog_10_method_69_code
def yJ9_min_7cf53 : MethodName := ⟨RJ9, "min", "(II)I"⟩
def RJ10 : String := "java/lang/System"
def TJ10 : u_T := fun k => match k with
  | _ => ("", "", "", false)
def tyJ10 : Nat → FieldType := fun k => match k with
  | _ => .int
abbrev wsJ100 : List Cond := u_ws RJ10 TJ10 0
theorem nmJ10 : ∀ a, a < 0 → ∀ b, b < 0 → a ≠ b → (TJ10 a).2.1 ≠ (TJ10 b).2.1 := by decide +kernel
theorem tyJ10_ok : ∀ k, k < 0 → parseFieldDescriptor (TJ10 k).2.2.1 = some (tyJ10 k) := by decide +kernel
def RJ7 : String := "java/util/Arrays"
def TJ7 : u_T := fun k => match k with
  | _ => ("", "", "", false)
def tyJ7 : Nat → FieldType := fun k => match k with
  | _ => .int
abbrev wsJ70 : List Cond := u_ws RJ7 TJ7 0
theorem nmJ7 : ∀ a, a < 0 → ∀ b, b < 0 → a ≠ b → (TJ7 a).2.1 ≠ (TJ7 b).2.1 := by decide +kernel
theorem tyJ7_ok : ∀ k, k < 0 → parseFieldDescriptor (TJ7 k).2.2.1 = some (tyJ7 k) := by decide +kernel
abbrev cJ7_fill_d0a16 : ByteArray := prog_12_method_101_code
def yJ7_fill_d0a16 : MethodName := ⟨RJ7, "fill", "([JJ)V"⟩
abbrev cJ7_fill_53178 : ByteArray := prog_12_method_103_code
def yJ7_fill_53178 : MethodName := ⟨RJ7, "fill", "([II)V"⟩
abbrev cJ7_copyOf_59c91 : ByteArray := prog_12_method_123_code
def yJ7_copyOf_59c91 : MethodName := ⟨RJ7, "copyOf", "([II)[I"⟩
def RL : String := "SmokeLedgerLaw"
abbrev cL_law : ByteArray := code
def yL_law : MethodName := ⟨RL, "law", "([I)Z"⟩
def wsX0_init : List Cond := .code yX0_init cX0_init 1 none :: ([.methodLink RX0 3 objectInit, .instanceMethod objectInit, .code objectInit ⟨#[0xb1]⟩ 1 none, .arrayClass .int, .fieldLink RX0 9 "SmokeLedger$Factors" "kind" "[I", .fieldLink RX0 15 "SmokeLedger$Factors" "year" "[I", .fieldLink RX0 18 "SmokeLedger$Factors" "low" "[I", .fieldLink RX0 21 "SmokeLedger$Factors" "high" "[I", .fieldLink RX0 24 "SmokeLedger$Factors" "size" "I"] ++ wsX00)
def wsX0_add : List Cond := .code yX0_add cX0_add 5 (some .int) :: ([.fieldLink RX0 24 "SmokeLedger$Factors" "size" "I", .fieldLink RX0 9 "SmokeLedger$Factors" "kind" "[I", .fieldLink RX0 15 "SmokeLedger$Factors" "year" "[I", .fieldLink RX0 18 "SmokeLedger$Factors" "low" "[I", .fieldLink RX0 21 "SmokeLedger$Factors" "high" "[I"] ++ wsX00)
def wsX0_versionFor : List Cond := .code yX0_versionFor cX0_versionFor 7 (some .int) :: ([.fieldLink RX0 24 "SmokeLedger$Factors" "size" "I", .fieldLink RX0 9 "SmokeLedger$Factors" "kind" "[I", .fieldLink RX0 15 "SmokeLedger$Factors" "year" "[I"] ++ wsX00)
def wsX0_endOf : List Cond := .code yX0_endOf cX0_endOf 3 (some .int) :: ([.fieldLink RX0 21 "SmokeLedger$Factors" "high" "[I", .fieldLink RX0 18 "SmokeLedger$Factors" "low" "[I"] ++ wsX00)
def wsX1_init : List Cond := .code yX1_init cX1_init 1 none :: ([.methodLink RX1 3 objectInit, .instanceMethod objectInit, .code objectInit ⟨#[0xb1]⟩ 1 none, .arrayClass .int, .fieldLink RX1 9 "SmokeLedger$Holdings" "holder" "[I", .fieldLink RX1 15 "SmokeLedger$Holdings" "held" "[I", .fieldLink RX1 18 "SmokeLedger$Holdings" "hundredths" "[I", .fieldLink RX1 21 "SmokeLedger$Holdings" "day" "[I", .fieldLink RX1 24 "SmokeLedger$Holdings" "tied" "[I", .arrayClass .boolean, .fieldLink RX1 27 "SmokeLedger$Holdings" "spanIsMade" "[Z", .arrayClass .long, .fieldLink RX1 31 "SmokeLedger$Holdings" "spanShares" "[J", .fieldLink RX1 35 "SmokeLedger$Holdings" "matrix" "[I", .fieldLink RX1 38 "SmokeLedger$Holdings" "reached" "[J", .fieldLink RX1 41 "SmokeLedger$Holdings" "reachedNext" "[J", .fieldLink RX1 44 "SmokeLedger$Holdings" "size" "I"] ++ wsX10)
def wsX1_spanOn : List Cond := .code yX1_spanOn cX1_spanOn 3 (some .int) :: ([.fieldLink RX1 44 "SmokeLedger$Holdings" "size" "I", .fieldLink RX1 21 "SmokeLedger$Holdings" "day" "[I"] ++ wsX10)
def wsX1_heldOn : List Cond := .code yX1_heldOn cX1_heldOn 5 (some .int) :: ([.fieldLink RX1 9 "SmokeLedger$Holdings" "holder" "[I", .fieldLink RX1 15 "SmokeLedger$Holdings" "held" "[I", .fieldLink RX1 18 "SmokeLedger$Holdings" "hundredths" "[I", .methodLink RX1 55 yX1_spanOn, .instanceMethod yX1_spanOn, .selects RX1 yX1_spanOn yX1_spanOn, .initialized RX1, .code yX1_spanOn cX1_spanOn 3 (some .int), .fieldLink RX1 44 "SmokeLedger$Holdings" "size" "I", .fieldLink RX1 21 "SmokeLedger$Holdings" "day" "[I"] ++ wsX10)
def wsX1_placeOf : List Cond := .code yX1_placeOf cX1_placeOf 5 (some .int) :: ([.fieldLink RX1 44 "SmokeLedger$Holdings" "size" "I", .fieldLink RX1 9 "SmokeLedger$Holdings" "holder" "[I", .fieldLink RX1 15 "SmokeLedger$Holdings" "held" "[I", .fieldLink RX1 21 "SmokeLedger$Holdings" "day" "[I"] ++ wsX10)
def wsX1_makeRoomAt : List Cond := .code yX1_makeRoomAt cX1_makeRoomAt 3 none :: ([.fieldLink RX1 44 "SmokeLedger$Holdings" "size" "I", .fieldLink RX1 9 "SmokeLedger$Holdings" "holder" "[I", .methodLink RX1 87 arraycopyName, .native arraycopyName, .static arraycopyName, .initialized "java/lang/System", .fieldLink RX1 15 "SmokeLedger$Holdings" "held" "[I", .fieldLink RX1 18 "SmokeLedger$Holdings" "hundredths" "[I", .fieldLink RX1 21 "SmokeLedger$Holdings" "day" "[I"] ++ wsX10)
def wsX1_forgetSpans : List Cond := .code yX1_forgetSpans cX1_forgetSpans 2 none :: ([.fieldLink RX1 27 "SmokeLedger$Holdings" "spanIsMade" "[Z"] ++ wsX10)
def wsX1_tell_r1 : List Cond := [Cond.fieldLink RX1 44 "SmokeLedger$Holdings" "size" "I", Cond.fieldLink RX1 9 "SmokeLedger$Holdings" "holder" "[I", Cond.fieldLink RX1 15 "SmokeLedger$Holdings" "held" "[I", Cond.fieldLink RX1 21 "SmokeLedger$Holdings" "day" "[I", Cond.fieldLink RX1 18 "SmokeLedger$Holdings" "hundredths" "[I", Cond.methodLink RX1 48 yX1_heldOn, Cond.instanceMethod yX1_heldOn, Cond.selects RX1 yX1_heldOn yX1_heldOn, Cond.initialized RX1, Cond.code yX1_heldOn cX1_heldOn 5 (some .int), Cond.methodLink RX1 55 yX1_spanOn, Cond.instanceMethod yX1_spanOn, Cond.selects RX1 yX1_spanOn yX1_spanOn, Cond.code yX1_spanOn cX1_spanOn 3 (some .int), Cond.methodLink RX1 52 yX1_placeOf, Cond.instanceMethod yX1_placeOf, Cond.selects RX1 yX1_placeOf yX1_placeOf, Cond.code yX1_placeOf cX1_placeOf 5 (some .int), Cond.methodLink RX1 59 yX1_makeRoomAt, Cond.instanceMethod yX1_makeRoomAt, Cond.selects RX1 yX1_makeRoomAt yX1_makeRoomAt, Cond.code yX1_makeRoomAt cX1_makeRoomAt 3 none, Cond.methodLink RX1 87 arraycopyName, Cond.native arraycopyName]
def wsX1_tell_r2 : List Cond := [Cond.static arraycopyName, Cond.initialized "java/lang/System", Cond.methodLink RX1 63 yX1_forgetSpans, Cond.instanceMethod yX1_forgetSpans, Cond.selects RX1 yX1_forgetSpans yX1_forgetSpans, Cond.code yX1_forgetSpans cX1_forgetSpans 2 none, Cond.fieldLink RX1 27 "SmokeLedger$Holdings" "spanIsMade" "[Z"]
def wsX1_tell : List Cond := .code yX1_tell cX1_tell 7 (some .int) :: ((wsX1_tell_r1 ++ wsX1_tell_r2) ++ wsX10)
def wsJ7_fill_53178 : List Cond := .code yJ7_fill_53178 cJ7_fill_53178 4 none :: ([])
def wsX1_gatherTies : List Cond := .code yX1_gatherTies cX1_gatherTies 2 none :: ([.fieldLink RX1 24 "SmokeLedger$Holdings" "tied" "[I", .fieldLink RX1 44 "SmokeLedger$Holdings" "size" "I", .fieldLink RX1 18 "SmokeLedger$Holdings" "hundredths" "[I", .fieldLink RX1 9 "SmokeLedger$Holdings" "holder" "[I", .fieldLink RX1 15 "SmokeLedger$Holdings" "held" "[I", .methodLink RX1 93 yJ7_fill_53178, .static yJ7_fill_53178, .initialized RJ7, .code yJ7_fill_53178 cJ7_fill_53178 4 none] ++ wsX10)
def wsX1_tiedToAnyOf : List Cond := .code yX1_tiedToAnyOf cX1_tiedToAnyOf 4 (some .int) :: ([.fieldLink RX1 24 "SmokeLedger$Holdings" "tied" "[I"] ++ wsX10)
def wsX1_isTiedTo : List Cond := .code yX1_isTiedTo cX1_isTiedTo 5 (some .boolean) :: ([.methodLink RX1 99 yX1_tiedToAnyOf, .instanceMethod yX1_tiedToAnyOf, .selects RX1 yX1_tiedToAnyOf yX1_tiedToAnyOf, .initialized RX1, .code yX1_tiedToAnyOf cX1_tiedToAnyOf 4 (some .int), .fieldLink RX1 24 "SmokeLedger$Holdings" "tied" "[I"] ++ wsX10)
def wsX1_isTooDeep : List Cond := .code yX1_isTooDeep cX1_isTooDeep 3 (some .boolean) :: ([.methodLink RX1 99 yX1_tiedToAnyOf, .instanceMethod yX1_tiedToAnyOf, .selects RX1 yX1_tiedToAnyOf yX1_tiedToAnyOf, .initialized RX1, .code yX1_tiedToAnyOf cX1_tiedToAnyOf 4 (some .int), .fieldLink RX1 24 "SmokeLedger$Holdings" "tied" "[I"] ++ wsX10)
def wsX1_mayTie_r1 : List Cond := [Cond.fieldLink RX1 24 "SmokeLedger$Holdings" "tied" "[I", Cond.methodLink RX1 66 yX1_gatherTies, Cond.instanceMethod yX1_gatherTies, Cond.selects RX1 yX1_gatherTies yX1_gatherTies, Cond.initialized RX1, Cond.code yX1_gatherTies cX1_gatherTies 2 none, Cond.fieldLink RX1 44 "SmokeLedger$Holdings" "size" "I", Cond.fieldLink RX1 18 "SmokeLedger$Holdings" "hundredths" "[I", Cond.fieldLink RX1 9 "SmokeLedger$Holdings" "holder" "[I", Cond.fieldLink RX1 15 "SmokeLedger$Holdings" "held" "[I", Cond.methodLink RX1 93 yJ7_fill_53178, Cond.static yJ7_fill_53178, Cond.initialized RJ7, Cond.code yJ7_fill_53178 cJ7_fill_53178 4 none, Cond.methodLink RX1 69 yX1_isTiedTo, Cond.instanceMethod yX1_isTiedTo, Cond.selects RX1 yX1_isTiedTo yX1_isTiedTo, Cond.code yX1_isTiedTo cX1_isTiedTo 5 (some .boolean), Cond.methodLink RX1 99 yX1_tiedToAnyOf, Cond.instanceMethod yX1_tiedToAnyOf, Cond.selects RX1 yX1_tiedToAnyOf yX1_tiedToAnyOf, Cond.code yX1_tiedToAnyOf cX1_tiedToAnyOf 4 (some .int), Cond.methodLink RX1 73 yX1_isTooDeep, Cond.instanceMethod yX1_isTooDeep]
def wsX1_mayTie_r2 : List Cond := [Cond.selects RX1 yX1_isTooDeep yX1_isTooDeep, Cond.code yX1_isTooDeep cX1_isTooDeep 3 (some .boolean)]
def wsX1_mayTie : List Cond := .code yX1_mayTie cX1_mayTie 3 (some .boolean) :: ((wsX1_mayTie_r1 ++ wsX1_mayTie_r2) ++ wsX10)
def wsJ7_fill_d0a16 : List Cond := .code yJ7_fill_d0a16 cJ7_fill_d0a16 5 none :: ([])
def wsX1_goOneStep : List Cond := .code yX1_goOneStep cX1_goOneStep 5 none :: ([.fieldLink RX1 38 "SmokeLedger$Holdings" "reached" "[J", .fieldLink RX1 35 "SmokeLedger$Holdings" "matrix" "[I", .fieldLink RX1 41 "SmokeLedger$Holdings" "reachedNext" "[J", .constantLong RX1 113 (100), .methodLink RX1 87 arraycopyName, .native arraycopyName, .static arraycopyName, .initialized "java/lang/System"] ++ wsX10)
def wsX1_makeSpan_r1 : List Cond := [Cond.fieldLink RX1 35 "SmokeLedger$Holdings" "matrix" "[I", Cond.fieldLink RX1 9 "SmokeLedger$Holdings" "holder" "[I", Cond.fieldLink RX1 15 "SmokeLedger$Holdings" "held" "[I", Cond.fieldLink RX1 18 "SmokeLedger$Holdings" "hundredths" "[I", Cond.fieldLink RX1 38 "SmokeLedger$Holdings" "reached" "[J", Cond.constantLong RX1 108 (1000000), Cond.fieldLink RX1 31 "SmokeLedger$Holdings" "spanShares" "[J", Cond.methodLink RX1 87 arraycopyName, Cond.native arraycopyName, Cond.static arraycopyName, Cond.initialized "java/lang/System", Cond.fieldLink RX1 27 "SmokeLedger$Holdings" "spanIsMade" "[Z", Cond.methodLink RX1 93 yJ7_fill_53178, Cond.static yJ7_fill_53178, Cond.initialized RJ7, Cond.code yJ7_fill_53178 cJ7_fill_53178 4 none, Cond.methodLink RX1 105 yJ7_fill_d0a16, Cond.static yJ7_fill_d0a16, Cond.code yJ7_fill_d0a16 cJ7_fill_d0a16 5 none, Cond.methodLink RX1 110 yX1_goOneStep, Cond.instanceMethod yX1_goOneStep, Cond.selects RX1 yX1_goOneStep yX1_goOneStep, Cond.initialized RX1, Cond.code yX1_goOneStep cX1_goOneStep 5 none]
def wsX1_makeSpan_r2 : List Cond := [Cond.fieldLink RX1 41 "SmokeLedger$Holdings" "reachedNext" "[J", Cond.constantLong RX1 113 (100)]
def wsX1_makeSpan : List Cond := .code yX1_makeSpan cX1_makeSpan 5 none :: ((wsX1_makeSpan_r1 ++ wsX1_makeSpan_r2) ++ wsX10)
def wsX1_shareIn_r1 : List Cond := [Cond.fieldLink RX1 27 "SmokeLedger$Holdings" "spanIsMade" "[Z", Cond.fieldLink RX1 31 "SmokeLedger$Holdings" "spanShares" "[J", Cond.methodLink RX1 102 yX1_makeSpan, Cond.instanceMethod yX1_makeSpan, Cond.selects RX1 yX1_makeSpan yX1_makeSpan, Cond.initialized RX1, Cond.code yX1_makeSpan cX1_makeSpan 5 none, Cond.fieldLink RX1 35 "SmokeLedger$Holdings" "matrix" "[I", Cond.fieldLink RX1 9 "SmokeLedger$Holdings" "holder" "[I", Cond.fieldLink RX1 15 "SmokeLedger$Holdings" "held" "[I", Cond.fieldLink RX1 18 "SmokeLedger$Holdings" "hundredths" "[I", Cond.fieldLink RX1 38 "SmokeLedger$Holdings" "reached" "[J", Cond.constantLong RX1 108 (1000000), Cond.methodLink RX1 87 arraycopyName, Cond.native arraycopyName, Cond.static arraycopyName, Cond.initialized "java/lang/System", Cond.methodLink RX1 93 yJ7_fill_53178, Cond.static yJ7_fill_53178, Cond.initialized RJ7, Cond.code yJ7_fill_53178 cJ7_fill_53178 4 none, Cond.methodLink RX1 105 yJ7_fill_d0a16, Cond.static yJ7_fill_d0a16, Cond.code yJ7_fill_d0a16 cJ7_fill_d0a16 5 none]
def wsX1_shareIn_r2 : List Cond := [Cond.methodLink RX1 110 yX1_goOneStep, Cond.instanceMethod yX1_goOneStep, Cond.selects RX1 yX1_goOneStep yX1_goOneStep, Cond.code yX1_goOneStep cX1_goOneStep 5 none, Cond.fieldLink RX1 41 "SmokeLedger$Holdings" "reachedNext" "[J", Cond.constantLong RX1 113 (100)]
def wsX1_shareIn : List Cond := .code yX1_shareIn cX1_shareIn 3 (some .long) :: ((wsX1_shareIn_r1 ++ wsX1_shareIn_r2) ++ wsX10)
def wsX1_shareOn_r1 : List Cond := [Cond.methodLink RX1 55 yX1_spanOn, Cond.instanceMethod yX1_spanOn, Cond.selects RX1 yX1_spanOn yX1_spanOn, Cond.initialized RX1, Cond.code yX1_spanOn cX1_spanOn 3 (some .int), Cond.fieldLink RX1 44 "SmokeLedger$Holdings" "size" "I", Cond.fieldLink RX1 21 "SmokeLedger$Holdings" "day" "[I", Cond.methodLink RX1 77 yX1_shareIn, Cond.instanceMethod yX1_shareIn, Cond.selects RX1 yX1_shareIn yX1_shareIn, Cond.code yX1_shareIn cX1_shareIn 3 (some .long), Cond.fieldLink RX1 27 "SmokeLedger$Holdings" "spanIsMade" "[Z", Cond.fieldLink RX1 31 "SmokeLedger$Holdings" "spanShares" "[J", Cond.methodLink RX1 102 yX1_makeSpan, Cond.instanceMethod yX1_makeSpan, Cond.selects RX1 yX1_makeSpan yX1_makeSpan, Cond.code yX1_makeSpan cX1_makeSpan 5 none, Cond.fieldLink RX1 35 "SmokeLedger$Holdings" "matrix" "[I", Cond.fieldLink RX1 9 "SmokeLedger$Holdings" "holder" "[I", Cond.fieldLink RX1 15 "SmokeLedger$Holdings" "held" "[I", Cond.fieldLink RX1 18 "SmokeLedger$Holdings" "hundredths" "[I", Cond.fieldLink RX1 38 "SmokeLedger$Holdings" "reached" "[J", Cond.constantLong RX1 108 (1000000), Cond.methodLink RX1 87 arraycopyName]
def wsX1_shareOn_r2 : List Cond := [Cond.native arraycopyName, Cond.static arraycopyName, Cond.initialized "java/lang/System", Cond.methodLink RX1 93 yJ7_fill_53178, Cond.static yJ7_fill_53178, Cond.initialized RJ7, Cond.code yJ7_fill_53178 cJ7_fill_53178 4 none, Cond.methodLink RX1 105 yJ7_fill_d0a16, Cond.static yJ7_fill_d0a16, Cond.code yJ7_fill_d0a16 cJ7_fill_d0a16 5 none, Cond.methodLink RX1 110 yX1_goOneStep, Cond.instanceMethod yX1_goOneStep, Cond.selects RX1 yX1_goOneStep yX1_goOneStep, Cond.code yX1_goOneStep cX1_goOneStep 5 none, Cond.fieldLink RX1 41 "SmokeLedger$Holdings" "reachedNext" "[J", Cond.constantLong RX1 113 (100)]
def wsX1_shareOn : List Cond := .code yX1_shareOn cX1_shareOn 3 (some .long) :: ((wsX1_shareOn_r1 ++ wsX1_shareOn_r2) ++ wsX10)
def wsX1_sharesSummed_r1 : List Cond := [Cond.fieldLink RX1 44 "SmokeLedger$Holdings" "size" "I", Cond.fieldLink RX1 21 "SmokeLedger$Holdings" "day" "[I", Cond.methodLink RX1 81 Lib.Math.min.name, Cond.static Lib.Math.min.name, Cond.initialized "java/lang/Math", Cond.code Lib.Math.min.name Lib.Math.min.code 2 (some .int), Cond.methodLink RX1 55 yX1_spanOn, Cond.instanceMethod yX1_spanOn, Cond.selects RX1 yX1_spanOn yX1_spanOn, Cond.initialized RX1, Cond.code yX1_spanOn cX1_spanOn 3 (some .int), Cond.methodLink RX1 77 yX1_shareIn, Cond.instanceMethod yX1_shareIn, Cond.selects RX1 yX1_shareIn yX1_shareIn, Cond.code yX1_shareIn cX1_shareIn 3 (some .long), Cond.fieldLink RX1 27 "SmokeLedger$Holdings" "spanIsMade" "[Z", Cond.fieldLink RX1 31 "SmokeLedger$Holdings" "spanShares" "[J", Cond.methodLink RX1 102 yX1_makeSpan, Cond.instanceMethod yX1_makeSpan, Cond.selects RX1 yX1_makeSpan yX1_makeSpan, Cond.code yX1_makeSpan cX1_makeSpan 5 none, Cond.fieldLink RX1 35 "SmokeLedger$Holdings" "matrix" "[I", Cond.fieldLink RX1 9 "SmokeLedger$Holdings" "holder" "[I", Cond.fieldLink RX1 15 "SmokeLedger$Holdings" "held" "[I"]
def wsX1_sharesSummed_r2 : List Cond := [Cond.fieldLink RX1 18 "SmokeLedger$Holdings" "hundredths" "[I", Cond.fieldLink RX1 38 "SmokeLedger$Holdings" "reached" "[J", Cond.constantLong RX1 108 (1000000), Cond.methodLink RX1 87 arraycopyName, Cond.native arraycopyName, Cond.static arraycopyName, Cond.initialized "java/lang/System", Cond.methodLink RX1 93 yJ7_fill_53178, Cond.static yJ7_fill_53178, Cond.initialized RJ7, Cond.code yJ7_fill_53178 cJ7_fill_53178 4 none, Cond.methodLink RX1 105 yJ7_fill_d0a16, Cond.static yJ7_fill_d0a16, Cond.code yJ7_fill_d0a16 cJ7_fill_d0a16 5 none, Cond.methodLink RX1 110 yX1_goOneStep, Cond.instanceMethod yX1_goOneStep, Cond.selects RX1 yX1_goOneStep yX1_goOneStep, Cond.code yX1_goOneStep cX1_goOneStep 5 none, Cond.fieldLink RX1 41 "SmokeLedger$Holdings" "reachedNext" "[J", Cond.constantLong RX1 113 (100)]
def wsX1_sharesSummed : List Cond := .code yX1_sharesSummed cX1_sharesSummed 9 (some .long) :: ((wsX1_sharesSummed_r1 ++ wsX1_sharesSummed_r2) ++ wsX10)
def wsX2_init : List Cond := .code yX2_init cX2_init 1 none :: ([.methodLink RX2 3 objectInit, .instanceMethod objectInit, .code objectInit ⟨#[0xb1]⟩ 1 none, .arrayClass .int, .fieldLink RX2 9 "SmokeLedger$Rows" "unit" "[I", .fieldLink RX2 15 "SmokeLedger$Rows" "kind" "[I", .fieldLink RX2 18 "SmokeLedger$Rows" "amount" "[I", .fieldLink RX2 21 "SmokeLedger$Rows" "day" "[I", .fieldLink RX2 24 "SmokeLedger$Rows" "seller" "[I", .fieldLink RX2 27 "SmokeLedger$Rows" "covered" "[I", .fieldLink RX2 30 "SmokeLedger$Rows" "size" "I"] ++ wsX20)
def wsX2_add : List Cond := .code yX2_add cX2_add 6 (some .int) :: ([.fieldLink RX2 30 "SmokeLedger$Rows" "size" "I", .fieldLink RX2 9 "SmokeLedger$Rows" "unit" "[I", .fieldLink RX2 15 "SmokeLedger$Rows" "kind" "[I", .fieldLink RX2 18 "SmokeLedger$Rows" "amount" "[I", .fieldLink RX2 21 "SmokeLedger$Rows" "day" "[I", .fieldLink RX2 24 "SmokeLedger$Rows" "seller" "[I"] ++ wsX20)
def wsX2_yearOf : List Cond := .code yX2_yearOf cX2_yearOf 2 (some .int) :: ([.fieldLink RX2 21 "SmokeLedger$Rows" "day" "[I"] ++ wsX20)
def wsX2_isOfYear : List Cond := .code yX2_isOfYear cX2_isOfYear 3 (some .boolean) :: ([.methodLink RX2 34 yX2_yearOf, .instanceMethod yX2_yearOf, .selects RX2 yX2_yearOf yX2_yearOf, .initialized RX2, .code yX2_yearOf cX2_yearOf 2 (some .int), .fieldLink RX2 21 "SmokeLedger$Rows" "day" "[I"] ++ wsX20)
def wsX2_uncovered : List Cond := .code yX2_uncovered cX2_uncovered 2 (some .int) :: ([.fieldLink RX2 18 "SmokeLedger$Rows" "amount" "[I", .fieldLink RX2 27 "SmokeLedger$Rows" "covered" "[I"] ++ wsX20)
def wsX3_init : List Cond := .code yX3_init cX3_init 1 none :: ([.methodLink RX3 3 objectInit, .instanceMethod objectInit, .code objectInit ⟨#[0xb1]⟩ 1 none, .arrayClass .int, .fieldLink RX3 9 "SmokeLedger$Serials" "first" "[I", .fieldLink RX3 15 "SmokeLedger$Serials" "owner" "[I", .fieldLink RX3 18 "SmokeLedger$Serials" "row" "[I", .fieldLink RX3 21 "SmokeLedger$Serials" "size" "I", .fieldLink RX3 25 "SmokeLedger$Serials" "issued" "I"] ++ wsX30)
def wsJ7_copyOf_59c91 : List Cond := .code yJ7_copyOf_59c91 cJ7_copyOf_59c91 3 (some (.array .int)) :: ([.methodLink RJ7 316 ⟨"[I", "clone", "()Ljava/lang/Object;"⟩, .sameMethod "[I" "java/lang/Object" "clone" "()Ljava/lang/Object;", .native ⟨"java/lang/Object", "clone", "()Ljava/lang/Object;"⟩, .instanceMethod ⟨"java/lang/Object", "clone", "()Ljava/lang/Object;"⟩, .selects "[I" ⟨"[I", "clone", "()Ljava/lang/Object;"⟩ ⟨"java/lang/Object", "clone", "()Ljava/lang/Object;"⟩, .classLink RJ7 317 "[I", .arrayClass .int, .methodLink RJ7 304 Lib.Math.min.name, .static Lib.Math.min.name, .initialized "java/lang/Math", .code Lib.Math.min.name Lib.Math.min.code 2 (some .int), .methodLink RJ7 150 arraycopyName, .native arraycopyName, .static arraycopyName, .initialized "java/lang/System"])
def wsX3_insertRun : List Cond := .code yX3_insertRun cX3_insertRun 6 none :: ([.fieldLink RX3 21 "SmokeLedger$Serials" "size" "I", .fieldLink RX3 9 "SmokeLedger$Serials" "first" "[I", .fieldLink RX3 15 "SmokeLedger$Serials" "owner" "[I", .fieldLink RX3 18 "SmokeLedger$Serials" "row" "[I", .methodLink RX3 67 arraycopyName, .native arraycopyName, .static arraycopyName, .initialized "java/lang/System", .methodLink RX3 61 yJ7_copyOf_59c91, .static yJ7_copyOf_59c91, .initialized RJ7, .code yJ7_copyOf_59c91 cJ7_copyOf_59c91 3 (some (.array .int)), .methodLink RJ7 316 ⟨"[I", "clone", "()Ljava/lang/Object;"⟩, .sameMethod "[I" "java/lang/Object" "clone" "()Ljava/lang/Object;", .native ⟨"java/lang/Object", "clone", "()Ljava/lang/Object;"⟩, .instanceMethod ⟨"java/lang/Object", "clone", "()Ljava/lang/Object;"⟩, .selects "[I" ⟨"[I", "clone", "()Ljava/lang/Object;"⟩ ⟨"java/lang/Object", "clone", "()Ljava/lang/Object;"⟩, .classLink RJ7 317 "[I", .arrayClass .int, .methodLink RJ7 304 Lib.Math.min.name, .static Lib.Math.min.name, .initialized "java/lang/Math", .code Lib.Math.min.name Lib.Math.min.code 2 (some .int), .methodLink RJ7 150 arraycopyName] ++ wsX30)
def wsX3_add_r1 : List Cond := [Cond.fieldLink RX3 25 "SmokeLedger$Serials" "issued" "I", Cond.fieldLink RX3 21 "SmokeLedger$Serials" "size" "I", Cond.fieldLink RX3 15 "SmokeLedger$Serials" "owner" "[I", Cond.fieldLink RX3 18 "SmokeLedger$Serials" "row" "[I", Cond.methodLink RX3 28 yX3_insertRun, Cond.instanceMethod yX3_insertRun, Cond.selects RX3 yX3_insertRun yX3_insertRun, Cond.initialized RX3, Cond.code yX3_insertRun cX3_insertRun 6 none, Cond.fieldLink RX3 9 "SmokeLedger$Serials" "first" "[I", Cond.methodLink RX3 67 arraycopyName, Cond.native arraycopyName, Cond.static arraycopyName, Cond.initialized "java/lang/System", Cond.methodLink RX3 61 yJ7_copyOf_59c91, Cond.static yJ7_copyOf_59c91, Cond.initialized RJ7, Cond.code yJ7_copyOf_59c91 cJ7_copyOf_59c91 3 (some (.array .int)), Cond.methodLink RJ7 316 ⟨"[I", "clone", "()Ljava/lang/Object;"⟩, Cond.sameMethod "[I" "java/lang/Object" "clone" "()Ljava/lang/Object;", Cond.native ⟨"java/lang/Object", "clone", "()Ljava/lang/Object;"⟩, Cond.instanceMethod ⟨"java/lang/Object", "clone", "()Ljava/lang/Object;"⟩, Cond.selects "[I" ⟨"[I", "clone", "()Ljava/lang/Object;"⟩ ⟨"java/lang/Object", "clone", "()Ljava/lang/Object;"⟩, Cond.classLink RJ7 317 "[I"]
def wsX3_add_r2 : List Cond := [Cond.arrayClass .int, Cond.methodLink RJ7 304 Lib.Math.min.name, Cond.static Lib.Math.min.name, Cond.initialized "java/lang/Math", Cond.code Lib.Math.min.name Lib.Math.min.code 2 (some .int), Cond.methodLink RJ7 150 arraycopyName]
def wsX3_add : List Cond := .code yX3_add cX3_add 4 (some .int) :: ((wsX3_add_r1 ++ wsX3_add_r2) ++ wsX30)
def wsX3_areIssued : List Cond := .code yX3_areIssued cX3_areIssued 3 (some .boolean) :: ([.fieldLink RX3 25 "SmokeLedger$Serials" "issued" "I"] ++ wsX30)
def wsX3_runWith : List Cond := .code yX3_runWith cX3_runWith 3 (some .int) :: ([.fieldLink RX3 21 "SmokeLedger$Serials" "size" "I", .fieldLink RX3 9 "SmokeLedger$Serials" "first" "[I"] ++ wsX30)
def wsX3_endOf : List Cond := .code yX3_endOf cX3_endOf 2 (some .int) :: ([.fieldLink RX3 21 "SmokeLedger$Serials" "size" "I", .fieldLink RX3 9 "SmokeLedger$Serials" "first" "[I", .fieldLink RX3 25 "SmokeLedger$Serials" "issued" "I"] ++ wsX30)
def wsX3_lengthOf : List Cond := .code yX3_lengthOf cX3_lengthOf 2 (some .int) :: ([.fieldLink RX3 9 "SmokeLedger$Serials" "first" "[I", .methodLink RX3 32 yX3_endOf, .instanceMethod yX3_endOf, .selects RX3 yX3_endOf yX3_endOf, .initialized RX3, .code yX3_endOf cX3_endOf 2 (some .int), .fieldLink RX3 21 "SmokeLedger$Serials" "size" "I", .fieldLink RX3 25 "SmokeLedger$Serials" "issued" "I"] ++ wsX30)
def wsX3_sharedWith : List Cond := .code yX3_sharedWith cX3_sharedWith 4 (some .int) :: ([.methodLink RX3 49 Lib.Math.min.name, .static Lib.Math.min.name, .initialized "java/lang/Math", .code Lib.Math.min.name Lib.Math.min.code 2 (some .int), .fieldLink RX3 9 "SmokeLedger$Serials" "first" "[I", .methodLink RX3 55 Lib.Math.max.name, .static Lib.Math.max.name, .code Lib.Math.max.name Lib.Math.max.code 2 (some .int), .methodLink RX3 32 yX3_endOf, .instanceMethod yX3_endOf, .selects RX3 yX3_endOf yX3_endOf, .initialized RX3, .code yX3_endOf cX3_endOf 2 (some .int), .fieldLink RX3 21 "SmokeLedger$Serials" "size" "I", .fieldLink RX3 25 "SmokeLedger$Serials" "issued" "I"] ++ wsX30)
def wsX3_usedAmong : List Cond := .code yX3_usedAmong cX3_usedAmong 5 (some .int) :: ([.fieldLink RX3 21 "SmokeLedger$Serials" "size" "I", .fieldLink RX3 18 "SmokeLedger$Serials" "row" "[I", .methodLink RX3 36 yX3_sharedWith, .instanceMethod yX3_sharedWith, .selects RX3 yX3_sharedWith yX3_sharedWith, .initialized RX3, .code yX3_sharedWith cX3_sharedWith 4 (some .int), .methodLink RX3 49 Lib.Math.min.name, .static Lib.Math.min.name, .initialized "java/lang/Math", .code Lib.Math.min.name Lib.Math.min.code 2 (some .int), .fieldLink RX3 9 "SmokeLedger$Serials" "first" "[I", .methodLink RX3 55 Lib.Math.max.name, .static Lib.Math.max.name, .code Lib.Math.max.name Lib.Math.max.code 2 (some .int), .methodLink RX3 32 yX3_endOf, .instanceMethod yX3_endOf, .selects RX3 yX3_endOf yX3_endOf, .code yX3_endOf cX3_endOf 2 (some .int), .fieldLink RX3 25 "SmokeLedger$Serials" "issued" "I"] ++ wsX30)
def wsX3_ownedAmong : List Cond := .code yX3_ownedAmong cX3_ownedAmong 6 (some .int) :: ([.fieldLink RX3 21 "SmokeLedger$Serials" "size" "I", .fieldLink RX3 15 "SmokeLedger$Serials" "owner" "[I", .methodLink RX3 36 yX3_sharedWith, .instanceMethod yX3_sharedWith, .selects RX3 yX3_sharedWith yX3_sharedWith, .initialized RX3, .code yX3_sharedWith cX3_sharedWith 4 (some .int), .methodLink RX3 49 Lib.Math.min.name, .static Lib.Math.min.name, .initialized "java/lang/Math", .code Lib.Math.min.name Lib.Math.min.code 2 (some .int), .fieldLink RX3 9 "SmokeLedger$Serials" "first" "[I", .methodLink RX3 55 Lib.Math.max.name, .static Lib.Math.max.name, .code Lib.Math.max.name Lib.Math.max.code 2 (some .int), .methodLink RX3 32 yX3_endOf, .instanceMethod yX3_endOf, .selects RX3 yX3_endOf yX3_endOf, .code yX3_endOf cX3_endOf 2 (some .int), .fieldLink RX3 25 "SmokeLedger$Serials" "issued" "I"] ++ wsX30)
def wsX3_unusedOf : List Cond := .code yX3_unusedOf cX3_unusedOf 4 (some .int) :: ([.fieldLink RX3 21 "SmokeLedger$Serials" "size" "I", .fieldLink RX3 15 "SmokeLedger$Serials" "owner" "[I", .fieldLink RX3 18 "SmokeLedger$Serials" "row" "[I", .methodLink RX3 40 yX3_lengthOf, .instanceMethod yX3_lengthOf, .selects RX3 yX3_lengthOf yX3_lengthOf, .initialized RX3, .code yX3_lengthOf cX3_lengthOf 2 (some .int), .fieldLink RX3 9 "SmokeLedger$Serials" "first" "[I", .methodLink RX3 32 yX3_endOf, .instanceMethod yX3_endOf, .selects RX3 yX3_endOf yX3_endOf, .code yX3_endOf cX3_endOf 2 (some .int), .fieldLink RX3 25 "SmokeLedger$Serials" "issued" "I"] ++ wsX30)
def wsX3_splitBefore_r1 : List Cond := [Cond.fieldLink RX3 25 "SmokeLedger$Serials" "issued" "I", Cond.fieldLink RX3 21 "SmokeLedger$Serials" "size" "I", Cond.fieldLink RX3 9 "SmokeLedger$Serials" "first" "[I", Cond.fieldLink RX3 15 "SmokeLedger$Serials" "owner" "[I", Cond.fieldLink RX3 18 "SmokeLedger$Serials" "row" "[I", Cond.methodLink RX3 58 yX3_runWith, Cond.instanceMethod yX3_runWith, Cond.selects RX3 yX3_runWith yX3_runWith, Cond.initialized RX3, Cond.code yX3_runWith cX3_runWith 3 (some .int), Cond.methodLink RX3 28 yX3_insertRun, Cond.instanceMethod yX3_insertRun, Cond.selects RX3 yX3_insertRun yX3_insertRun, Cond.code yX3_insertRun cX3_insertRun 6 none, Cond.methodLink RX3 67 arraycopyName, Cond.native arraycopyName, Cond.static arraycopyName, Cond.initialized "java/lang/System", Cond.methodLink RX3 61 yJ7_copyOf_59c91, Cond.static yJ7_copyOf_59c91, Cond.initialized RJ7, Cond.code yJ7_copyOf_59c91 cJ7_copyOf_59c91 3 (some (.array .int)), Cond.methodLink RJ7 316 ⟨"[I", "clone", "()Ljava/lang/Object;"⟩, Cond.sameMethod "[I" "java/lang/Object" "clone" "()Ljava/lang/Object;"]
def wsX3_splitBefore_r2 : List Cond := [Cond.native ⟨"java/lang/Object", "clone", "()Ljava/lang/Object;"⟩, Cond.instanceMethod ⟨"java/lang/Object", "clone", "()Ljava/lang/Object;"⟩, Cond.selects "[I" ⟨"[I", "clone", "()Ljava/lang/Object;"⟩ ⟨"java/lang/Object", "clone", "()Ljava/lang/Object;"⟩, Cond.classLink RJ7 317 "[I", Cond.arrayClass .int, Cond.methodLink RJ7 304 Lib.Math.min.name, Cond.static Lib.Math.min.name, Cond.initialized "java/lang/Math", Cond.code Lib.Math.min.name Lib.Math.min.code 2 (some .int), Cond.methodLink RJ7 150 arraycopyName]
def wsX3_splitBefore : List Cond := .code yX3_splitBefore cX3_splitBefore 3 (some .int) :: ((wsX3_splitBefore_r1 ++ wsX3_splitBefore_r2) ++ wsX30)
def wsX3_joinAlike : List Cond := .code yX3_joinAlike cX3_joinAlike 3 none :: ([.fieldLink RX3 21 "SmokeLedger$Serials" "size" "I", .fieldLink RX3 15 "SmokeLedger$Serials" "owner" "[I", .fieldLink RX3 18 "SmokeLedger$Serials" "row" "[I", .fieldLink RX3 9 "SmokeLedger$Serials" "first" "[I"] ++ wsX30)
def wsX3_mark_r1 : List Cond := [Cond.fieldLink RX3 15 "SmokeLedger$Serials" "owner" "[I", Cond.fieldLink RX3 18 "SmokeLedger$Serials" "row" "[I", Cond.methodLink RX3 43 yX3_splitBefore, Cond.instanceMethod yX3_splitBefore, Cond.selects RX3 yX3_splitBefore yX3_splitBefore, Cond.initialized RX3, Cond.code yX3_splitBefore cX3_splitBefore 3 (some .int), Cond.fieldLink RX3 25 "SmokeLedger$Serials" "issued" "I", Cond.fieldLink RX3 21 "SmokeLedger$Serials" "size" "I", Cond.fieldLink RX3 9 "SmokeLedger$Serials" "first" "[I", Cond.methodLink RX3 58 yX3_runWith, Cond.instanceMethod yX3_runWith, Cond.selects RX3 yX3_runWith yX3_runWith, Cond.code yX3_runWith cX3_runWith 3 (some .int), Cond.methodLink RX3 28 yX3_insertRun, Cond.instanceMethod yX3_insertRun, Cond.selects RX3 yX3_insertRun yX3_insertRun, Cond.code yX3_insertRun cX3_insertRun 6 none, Cond.methodLink RX3 67 arraycopyName, Cond.native arraycopyName, Cond.static arraycopyName, Cond.initialized "java/lang/System", Cond.methodLink RX3 61 yJ7_copyOf_59c91, Cond.static yJ7_copyOf_59c91]
def wsX3_mark_r2 : List Cond := [Cond.initialized RJ7, Cond.code yJ7_copyOf_59c91 cJ7_copyOf_59c91 3 (some (.array .int)), Cond.methodLink RJ7 316 ⟨"[I", "clone", "()Ljava/lang/Object;"⟩, Cond.sameMethod "[I" "java/lang/Object" "clone" "()Ljava/lang/Object;", Cond.native ⟨"java/lang/Object", "clone", "()Ljava/lang/Object;"⟩, Cond.instanceMethod ⟨"java/lang/Object", "clone", "()Ljava/lang/Object;"⟩, Cond.selects "[I" ⟨"[I", "clone", "()Ljava/lang/Object;"⟩ ⟨"java/lang/Object", "clone", "()Ljava/lang/Object;"⟩, Cond.classLink RJ7 317 "[I", Cond.arrayClass .int, Cond.methodLink RJ7 304 Lib.Math.min.name, Cond.static Lib.Math.min.name, Cond.initialized "java/lang/Math", Cond.code Lib.Math.min.name Lib.Math.min.code 2 (some .int), Cond.methodLink RJ7 150 arraycopyName, Cond.methodLink RX3 46 yX3_joinAlike, Cond.instanceMethod yX3_joinAlike, Cond.selects RX3 yX3_joinAlike yX3_joinAlike, Cond.code yX3_joinAlike cX3_joinAlike 3 none]
def wsX3_mark : List Cond := .code yX3_mark cX3_mark 8 none :: ((wsX3_mark_r1 ++ wsX3_mark_r2) ++ wsX30)
def wsX4_init : List Cond := .code yX4_init cX4_init 5 none :: ([.methodLink RX4 1 objectInit, .instanceMethod objectInit, .code objectInit ⟨#[0xb1]⟩ 1 none, .fieldLink RX4 7 "SmokeLedger$Way" "as" "I", .fieldLink RX4 13 "SmokeLedger$Way" "market" "Z", .fieldLink RX4 17 "SmokeLedger$Way" "once" "Z", .fieldLink RX4 20 "SmokeLedger$Way" "high" "Z"] ++ wsX40)
def wsX5_init_r1 : List Cond := [Cond.methodLink RX5 1 objectInit, Cond.instanceMethod objectInit, Cond.code objectInit ⟨#[0xb1]⟩ 1 none, Cond.classLink RX5 7 RX1, Cond.instantiable RX1 11, Cond.initialized RX1, Cond.fieldLink RX5 10 "SmokeLedger" "holdings" "LSmokeLedger$Holdings;", Cond.classLink RX5 16 RX2, Cond.instantiable RX2 7, Cond.initialized RX2, Cond.fieldLink RX5 19 "SmokeLedger" "rows" "LSmokeLedger$Rows;", Cond.classLink RX5 23 RX0, Cond.instantiable RX0 5, Cond.initialized RX0, Cond.fieldLink RX5 26 "SmokeLedger" "factors" "LSmokeLedger$Factors;", Cond.classLink RX5 30 RX3, Cond.instantiable RX3 5, Cond.initialized RX3, Cond.fieldLink RX5 33 "SmokeLedger" "serials" "LSmokeLedger$Serials;", Cond.fieldLink RX5 37 "SmokeLedger" "units" "I", Cond.methodLink RX5 9 yX1_init, Cond.instanceMethod yX1_init, Cond.code yX1_init cX1_init 1 none, Cond.methodLink RX1 3 objectInit]
def wsX5_init_r2 : List Cond := [Cond.arrayClass .int, Cond.fieldLink RX1 9 "SmokeLedger$Holdings" "holder" "[I", Cond.fieldLink RX1 15 "SmokeLedger$Holdings" "held" "[I", Cond.fieldLink RX1 18 "SmokeLedger$Holdings" "hundredths" "[I", Cond.fieldLink RX1 21 "SmokeLedger$Holdings" "day" "[I", Cond.fieldLink RX1 24 "SmokeLedger$Holdings" "tied" "[I", Cond.arrayClass .boolean, Cond.fieldLink RX1 27 "SmokeLedger$Holdings" "spanIsMade" "[Z", Cond.arrayClass .long, Cond.fieldLink RX1 31 "SmokeLedger$Holdings" "spanShares" "[J", Cond.fieldLink RX1 35 "SmokeLedger$Holdings" "matrix" "[I", Cond.fieldLink RX1 38 "SmokeLedger$Holdings" "reached" "[J", Cond.fieldLink RX1 41 "SmokeLedger$Holdings" "reachedNext" "[J", Cond.fieldLink RX1 44 "SmokeLedger$Holdings" "size" "I", Cond.methodLink RX5 18 yX2_init, Cond.instanceMethod yX2_init, Cond.code yX2_init cX2_init 1 none, Cond.methodLink RX2 3 objectInit, Cond.fieldLink RX2 9 "SmokeLedger$Rows" "unit" "[I", Cond.fieldLink RX2 15 "SmokeLedger$Rows" "kind" "[I", Cond.fieldLink RX2 18 "SmokeLedger$Rows" "amount" "[I", Cond.fieldLink RX2 21 "SmokeLedger$Rows" "day" "[I", Cond.fieldLink RX2 24 "SmokeLedger$Rows" "seller" "[I", Cond.fieldLink RX2 27 "SmokeLedger$Rows" "covered" "[I"]
def wsX5_init_r3 : List Cond := [Cond.fieldLink RX2 30 "SmokeLedger$Rows" "size" "I", Cond.methodLink RX5 25 yX0_init, Cond.instanceMethod yX0_init, Cond.code yX0_init cX0_init 1 none, Cond.methodLink RX0 3 objectInit, Cond.fieldLink RX0 9 "SmokeLedger$Factors" "kind" "[I", Cond.fieldLink RX0 15 "SmokeLedger$Factors" "year" "[I", Cond.fieldLink RX0 18 "SmokeLedger$Factors" "low" "[I", Cond.fieldLink RX0 21 "SmokeLedger$Factors" "high" "[I", Cond.fieldLink RX0 24 "SmokeLedger$Factors" "size" "I", Cond.methodLink RX5 32 yX3_init, Cond.instanceMethod yX3_init, Cond.code yX3_init cX3_init 1 none, Cond.methodLink RX3 3 objectInit, Cond.fieldLink RX3 9 "SmokeLedger$Serials" "first" "[I", Cond.fieldLink RX3 15 "SmokeLedger$Serials" "owner" "[I", Cond.fieldLink RX3 18 "SmokeLedger$Serials" "row" "[I", Cond.fieldLink RX3 21 "SmokeLedger$Serials" "size" "I", Cond.fieldLink RX3 25 "SmokeLedger$Serials" "issued" "I"]
def wsX5_init : List Cond := .code yX5_init cX5_init 1 none :: ((wsX5_init_r1 ++ (wsX5_init_r2 ++ wsX5_init_r3)) ++ wsX10 ++ wsX50 ++ wsX20 ++ wsX00 ++ wsX30)
def wsX5_unit : List Cond := .code yX5_unit cX5_unit 1 (some .int) :: ([.fieldLink RX5 37 "SmokeLedger" "units" "I"] ++ wsX50)
def wsX5_isUnit : List Cond := .code yX5_isUnit cX5_isUnit 2 (some .boolean) :: ([.fieldLink RX5 37 "SmokeLedger" "units" "I"] ++ wsX50)
def wsX5_isHundredths : List Cond := .code yX5_isHundredths cX5_isHundredths 1 (some .boolean) :: ([])
def wsX5_isDay : List Cond := .code yX5_isDay cX5_isDay 1 (some .boolean) :: ([])
def wsX5_hold_r1 : List Cond := [Cond.fieldLink RX5 10 "SmokeLedger" "holdings" "LSmokeLedger$Holdings;", Cond.methodLink RX5 41 yX5_isUnit, Cond.instanceMethod yX5_isUnit, Cond.selects RX5 yX5_isUnit yX5_isUnit, Cond.initialized RX5, Cond.code yX5_isUnit cX5_isUnit 2 (some .boolean), Cond.fieldLink RX5 37 "SmokeLedger" "units" "I", Cond.methodLink RX5 45 yX5_isHundredths, Cond.static yX5_isHundredths, Cond.code yX5_isHundredths cX5_isHundredths 1 (some .boolean), Cond.methodLink RX5 48 yX5_isDay, Cond.static yX5_isDay, Cond.code yX5_isDay cX5_isDay 1 (some .boolean), Cond.methodLink RX5 51 yX1_mayTie, Cond.instanceMethod yX1_mayTie, Cond.selects RX1 yX1_mayTie yX1_mayTie, Cond.initialized RX1, Cond.code yX1_mayTie cX1_mayTie 3 (some .boolean), Cond.fieldLink RX1 24 "SmokeLedger$Holdings" "tied" "[I", Cond.methodLink RX1 66 yX1_gatherTies, Cond.instanceMethod yX1_gatherTies, Cond.selects RX1 yX1_gatherTies yX1_gatherTies, Cond.code yX1_gatherTies cX1_gatherTies 2 none, Cond.fieldLink RX1 44 "SmokeLedger$Holdings" "size" "I"]
def wsX5_hold_r2 : List Cond := [Cond.fieldLink RX1 18 "SmokeLedger$Holdings" "hundredths" "[I", Cond.fieldLink RX1 9 "SmokeLedger$Holdings" "holder" "[I", Cond.fieldLink RX1 15 "SmokeLedger$Holdings" "held" "[I", Cond.methodLink RX1 93 yJ7_fill_53178, Cond.static yJ7_fill_53178, Cond.initialized RJ7, Cond.code yJ7_fill_53178 cJ7_fill_53178 4 none, Cond.methodLink RX1 69 yX1_isTiedTo, Cond.instanceMethod yX1_isTiedTo, Cond.selects RX1 yX1_isTiedTo yX1_isTiedTo, Cond.code yX1_isTiedTo cX1_isTiedTo 5 (some .boolean), Cond.methodLink RX1 99 yX1_tiedToAnyOf, Cond.instanceMethod yX1_tiedToAnyOf, Cond.selects RX1 yX1_tiedToAnyOf yX1_tiedToAnyOf, Cond.code yX1_tiedToAnyOf cX1_tiedToAnyOf 4 (some .int), Cond.methodLink RX1 73 yX1_isTooDeep, Cond.instanceMethod yX1_isTooDeep, Cond.selects RX1 yX1_isTooDeep yX1_isTooDeep, Cond.code yX1_isTooDeep cX1_isTooDeep 3 (some .boolean), Cond.methodLink RX5 55 yX1_tell, Cond.instanceMethod yX1_tell, Cond.selects RX1 yX1_tell yX1_tell, Cond.code yX1_tell cX1_tell 7 (some .int), Cond.fieldLink RX1 21 "SmokeLedger$Holdings" "day" "[I"]
def wsX5_hold_r3 : List Cond := [Cond.methodLink RX1 48 yX1_heldOn, Cond.instanceMethod yX1_heldOn, Cond.selects RX1 yX1_heldOn yX1_heldOn, Cond.code yX1_heldOn cX1_heldOn 5 (some .int), Cond.methodLink RX1 55 yX1_spanOn, Cond.instanceMethod yX1_spanOn, Cond.selects RX1 yX1_spanOn yX1_spanOn, Cond.code yX1_spanOn cX1_spanOn 3 (some .int), Cond.methodLink RX1 52 yX1_placeOf, Cond.instanceMethod yX1_placeOf, Cond.selects RX1 yX1_placeOf yX1_placeOf, Cond.code yX1_placeOf cX1_placeOf 5 (some .int), Cond.methodLink RX1 59 yX1_makeRoomAt, Cond.instanceMethod yX1_makeRoomAt, Cond.selects RX1 yX1_makeRoomAt yX1_makeRoomAt, Cond.code yX1_makeRoomAt cX1_makeRoomAt 3 none, Cond.methodLink RX1 87 arraycopyName, Cond.native arraycopyName, Cond.static arraycopyName, Cond.initialized "java/lang/System", Cond.methodLink RX1 63 yX1_forgetSpans, Cond.instanceMethod yX1_forgetSpans, Cond.selects RX1 yX1_forgetSpans yX1_forgetSpans, Cond.code yX1_forgetSpans cX1_forgetSpans 2 none]
def wsX5_hold_r4 : List Cond := [Cond.fieldLink RX1 27 "SmokeLedger$Holdings" "spanIsMade" "[Z"]
def wsX5_hold : List Cond := .code yX5_hold cX5_hold 5 (some .int) :: ((wsX5_hold_r1 ++ (wsX5_hold_r2 ++ (wsX5_hold_r3 ++ wsX5_hold_r4))) ++ wsX50 ++ wsX10)
def wsX5_holds : List Cond := .code yX5_holds cX5_holds 4 (some .int) :: ([.fieldLink RX5 10 "SmokeLedger" "holdings" "LSmokeLedger$Holdings;", .methodLink RX5 41 yX5_isUnit, .instanceMethod yX5_isUnit, .selects RX5 yX5_isUnit yX5_isUnit, .initialized RX5, .code yX5_isUnit cX5_isUnit 2 (some .boolean), .fieldLink RX5 37 "SmokeLedger" "units" "I", .methodLink RX5 48 yX5_isDay, .static yX5_isDay, .code yX5_isDay cX5_isDay 1 (some .boolean), .methodLink RX5 59 yX1_heldOn, .instanceMethod yX1_heldOn, .selects RX1 yX1_heldOn yX1_heldOn, .initialized RX1, .code yX1_heldOn cX1_heldOn 5 (some .int), .fieldLink RX1 9 "SmokeLedger$Holdings" "holder" "[I", .fieldLink RX1 15 "SmokeLedger$Holdings" "held" "[I", .fieldLink RX1 18 "SmokeLedger$Holdings" "hundredths" "[I", .methodLink RX1 55 yX1_spanOn, .instanceMethod yX1_spanOn, .selects RX1 yX1_spanOn yX1_spanOn, .code yX1_spanOn cX1_spanOn 3 (some .int), .fieldLink RX1 44 "SmokeLedger$Holdings" "size" "I", .fieldLink RX1 21 "SmokeLedger$Holdings" "day" "[I"] ++ wsX50 ++ wsX10)
def wsX5_share_r1 : List Cond := [Cond.constantLong RX5 63 (-1), Cond.fieldLink RX5 10 "SmokeLedger" "holdings" "LSmokeLedger$Holdings;", Cond.constantLong RX5 69 (-2), Cond.methodLink RX5 41 yX5_isUnit, Cond.instanceMethod yX5_isUnit, Cond.selects RX5 yX5_isUnit yX5_isUnit, Cond.initialized RX5, Cond.code yX5_isUnit cX5_isUnit 2 (some .boolean), Cond.fieldLink RX5 37 "SmokeLedger" "units" "I", Cond.methodLink RX5 48 yX5_isDay, Cond.static yX5_isDay, Cond.code yX5_isDay cX5_isDay 1 (some .boolean), Cond.methodLink RX5 65 yX1_shareOn, Cond.instanceMethod yX1_shareOn, Cond.selects RX1 yX1_shareOn yX1_shareOn, Cond.initialized RX1, Cond.code yX1_shareOn cX1_shareOn 3 (some .long), Cond.methodLink RX1 55 yX1_spanOn, Cond.instanceMethod yX1_spanOn, Cond.selects RX1 yX1_spanOn yX1_spanOn, Cond.code yX1_spanOn cX1_spanOn 3 (some .int), Cond.fieldLink RX1 44 "SmokeLedger$Holdings" "size" "I", Cond.fieldLink RX1 21 "SmokeLedger$Holdings" "day" "[I", Cond.methodLink RX1 77 yX1_shareIn]
def wsX5_share_r2 : List Cond := [Cond.instanceMethod yX1_shareIn, Cond.selects RX1 yX1_shareIn yX1_shareIn, Cond.code yX1_shareIn cX1_shareIn 3 (some .long), Cond.fieldLink RX1 27 "SmokeLedger$Holdings" "spanIsMade" "[Z", Cond.fieldLink RX1 31 "SmokeLedger$Holdings" "spanShares" "[J", Cond.methodLink RX1 102 yX1_makeSpan, Cond.instanceMethod yX1_makeSpan, Cond.selects RX1 yX1_makeSpan yX1_makeSpan, Cond.code yX1_makeSpan cX1_makeSpan 5 none, Cond.fieldLink RX1 35 "SmokeLedger$Holdings" "matrix" "[I", Cond.fieldLink RX1 9 "SmokeLedger$Holdings" "holder" "[I", Cond.fieldLink RX1 15 "SmokeLedger$Holdings" "held" "[I", Cond.fieldLink RX1 18 "SmokeLedger$Holdings" "hundredths" "[I", Cond.fieldLink RX1 38 "SmokeLedger$Holdings" "reached" "[J", Cond.constantLong RX1 108 (1000000), Cond.methodLink RX1 87 arraycopyName, Cond.native arraycopyName, Cond.static arraycopyName, Cond.initialized "java/lang/System", Cond.methodLink RX1 93 yJ7_fill_53178, Cond.static yJ7_fill_53178, Cond.initialized RJ7, Cond.code yJ7_fill_53178 cJ7_fill_53178 4 none, Cond.methodLink RX1 105 yJ7_fill_d0a16]
def wsX5_share_r3 : List Cond := [Cond.static yJ7_fill_d0a16, Cond.code yJ7_fill_d0a16 cJ7_fill_d0a16 5 none, Cond.methodLink RX1 110 yX1_goOneStep, Cond.instanceMethod yX1_goOneStep, Cond.selects RX1 yX1_goOneStep yX1_goOneStep, Cond.code yX1_goOneStep cX1_goOneStep 5 none, Cond.fieldLink RX1 41 "SmokeLedger$Holdings" "reachedNext" "[J", Cond.constantLong RX1 113 (100)]
def wsX5_share : List Cond := .code yX5_share cX5_share 3 (some .long) :: ((wsX5_share_r1 ++ (wsX5_share_r2 ++ wsX5_share_r3)) ++ wsX50 ++ wsX10)
def wsX5_days_r1 : List Cond := [Cond.constantLong RX5 63 (-1), Cond.constantLong RX5 69 (-2), Cond.fieldLink RX5 10 "SmokeLedger" "holdings" "LSmokeLedger$Holdings;", Cond.methodLink RX5 41 yX5_isUnit, Cond.instanceMethod yX5_isUnit, Cond.selects RX5 yX5_isUnit yX5_isUnit, Cond.initialized RX5, Cond.code yX5_isUnit cX5_isUnit 2 (some .boolean), Cond.fieldLink RX5 37 "SmokeLedger" "units" "I", Cond.methodLink RX5 48 yX5_isDay, Cond.static yX5_isDay, Cond.code yX5_isDay cX5_isDay 1 (some .boolean), Cond.methodLink RX5 71 yX1_sharesSummed, Cond.instanceMethod yX1_sharesSummed, Cond.selects RX1 yX1_sharesSummed yX1_sharesSummed, Cond.initialized RX1, Cond.code yX1_sharesSummed cX1_sharesSummed 9 (some .long), Cond.fieldLink RX1 44 "SmokeLedger$Holdings" "size" "I", Cond.fieldLink RX1 21 "SmokeLedger$Holdings" "day" "[I", Cond.methodLink RX1 81 Lib.Math.min.name, Cond.static Lib.Math.min.name, Cond.initialized "java/lang/Math", Cond.code Lib.Math.min.name Lib.Math.min.code 2 (some .int), Cond.methodLink RX1 55 yX1_spanOn]
def wsX5_days_r2 : List Cond := [Cond.instanceMethod yX1_spanOn, Cond.selects RX1 yX1_spanOn yX1_spanOn, Cond.code yX1_spanOn cX1_spanOn 3 (some .int), Cond.methodLink RX1 77 yX1_shareIn, Cond.instanceMethod yX1_shareIn, Cond.selects RX1 yX1_shareIn yX1_shareIn, Cond.code yX1_shareIn cX1_shareIn 3 (some .long), Cond.fieldLink RX1 27 "SmokeLedger$Holdings" "spanIsMade" "[Z", Cond.fieldLink RX1 31 "SmokeLedger$Holdings" "spanShares" "[J", Cond.methodLink RX1 102 yX1_makeSpan, Cond.instanceMethod yX1_makeSpan, Cond.selects RX1 yX1_makeSpan yX1_makeSpan, Cond.code yX1_makeSpan cX1_makeSpan 5 none, Cond.fieldLink RX1 35 "SmokeLedger$Holdings" "matrix" "[I", Cond.fieldLink RX1 9 "SmokeLedger$Holdings" "holder" "[I", Cond.fieldLink RX1 15 "SmokeLedger$Holdings" "held" "[I", Cond.fieldLink RX1 18 "SmokeLedger$Holdings" "hundredths" "[I", Cond.fieldLink RX1 38 "SmokeLedger$Holdings" "reached" "[J", Cond.constantLong RX1 108 (1000000), Cond.methodLink RX1 87 arraycopyName, Cond.native arraycopyName, Cond.static arraycopyName, Cond.initialized "java/lang/System", Cond.methodLink RX1 93 yJ7_fill_53178]
def wsX5_days_r3 : List Cond := [Cond.static yJ7_fill_53178, Cond.initialized RJ7, Cond.code yJ7_fill_53178 cJ7_fill_53178 4 none, Cond.methodLink RX1 105 yJ7_fill_d0a16, Cond.static yJ7_fill_d0a16, Cond.code yJ7_fill_d0a16 cJ7_fill_d0a16 5 none, Cond.methodLink RX1 110 yX1_goOneStep, Cond.instanceMethod yX1_goOneStep, Cond.selects RX1 yX1_goOneStep yX1_goOneStep, Cond.code yX1_goOneStep cX1_goOneStep 5 none, Cond.fieldLink RX1 41 "SmokeLedger$Holdings" "reachedNext" "[J", Cond.constantLong RX1 113 (100)]
def wsX5_days : List Cond := .code yX5_days cX5_days 4 (some .long) :: ((wsX5_days_r1 ++ (wsX5_days_r2 ++ wsX5_days_r3)) ++ wsX50 ++ wsX10)
def wsX5_isKind : List Cond := .code yX5_isKind cX5_isKind 1 (some .boolean) :: ([])
def wsX5_row_r1 : List Cond := [Cond.constant RX5 78 (100000), Cond.fieldLink RX5 19 "SmokeLedger" "rows" "LSmokeLedger$Rows;", Cond.methodLink RX5 41 yX5_isUnit, Cond.instanceMethod yX5_isUnit, Cond.selects RX5 yX5_isUnit yX5_isUnit, Cond.initialized RX5, Cond.code yX5_isUnit cX5_isUnit 2 (some .boolean), Cond.fieldLink RX5 37 "SmokeLedger" "units" "I", Cond.methodLink RX5 75 yX5_isKind, Cond.static yX5_isKind, Cond.code yX5_isKind cX5_isKind 1 (some .boolean), Cond.methodLink RX5 48 yX5_isDay, Cond.static yX5_isDay, Cond.code yX5_isDay cX5_isDay 1 (some .boolean), Cond.methodLink RX5 79 yX2_add, Cond.instanceMethod yX2_add, Cond.selects RX2 yX2_add yX2_add, Cond.initialized RX2, Cond.code yX2_add cX2_add 6 (some .int), Cond.fieldLink RX2 30 "SmokeLedger$Rows" "size" "I", Cond.fieldLink RX2 9 "SmokeLedger$Rows" "unit" "[I", Cond.fieldLink RX2 15 "SmokeLedger$Rows" "kind" "[I", Cond.fieldLink RX2 18 "SmokeLedger$Rows" "amount" "[I", Cond.fieldLink RX2 21 "SmokeLedger$Rows" "day" "[I"]
def wsX5_row_r2 : List Cond := [Cond.fieldLink RX2 24 "SmokeLedger$Rows" "seller" "[I"]
def wsX5_row : List Cond := .code yX5_row cX5_row 6 (some .int) :: ((wsX5_row_r1 ++ wsX5_row_r2) ++ wsX50 ++ wsX20)
def wsX5_isRow : List Cond := .code yX5_isRow cX5_isRow 2 (some .boolean) :: ([.fieldLink RX5 19 "SmokeLedger" "rows" "LSmokeLedger$Rows;", .fieldLink RX5 132 "SmokeLedger$Rows" "size" "I"] ++ wsX50 ++ wsX20)
def wsX5_isDouble_r1 : List Cond := [Cond.fieldLink RX5 19 "SmokeLedger" "rows" "LSmokeLedger$Rows;", Cond.fieldLink RX5 99 "SmokeLedger$Rows" "seller" "[I", Cond.fieldLink RX5 10 "SmokeLedger" "holdings" "LSmokeLedger$Holdings;", Cond.fieldLink RX5 86 "SmokeLedger$Rows" "unit" "[I", Cond.methodLink RX5 65 yX1_shareOn, Cond.instanceMethod yX1_shareOn, Cond.selects RX1 yX1_shareOn yX1_shareOn, Cond.initialized RX1, Cond.code yX1_shareOn cX1_shareOn 3 (some .long), Cond.methodLink RX1 55 yX1_spanOn, Cond.instanceMethod yX1_spanOn, Cond.selects RX1 yX1_spanOn yX1_spanOn, Cond.code yX1_spanOn cX1_spanOn 3 (some .int), Cond.fieldLink RX1 44 "SmokeLedger$Holdings" "size" "I", Cond.fieldLink RX1 21 "SmokeLedger$Holdings" "day" "[I", Cond.methodLink RX1 77 yX1_shareIn, Cond.instanceMethod yX1_shareIn, Cond.selects RX1 yX1_shareIn yX1_shareIn, Cond.code yX1_shareIn cX1_shareIn 3 (some .long), Cond.fieldLink RX1 27 "SmokeLedger$Holdings" "spanIsMade" "[Z", Cond.fieldLink RX1 31 "SmokeLedger$Holdings" "spanShares" "[J", Cond.methodLink RX1 102 yX1_makeSpan, Cond.instanceMethod yX1_makeSpan, Cond.selects RX1 yX1_makeSpan yX1_makeSpan]
def wsX5_isDouble_r2 : List Cond := [Cond.code yX1_makeSpan cX1_makeSpan 5 none, Cond.fieldLink RX1 35 "SmokeLedger$Holdings" "matrix" "[I", Cond.fieldLink RX1 9 "SmokeLedger$Holdings" "holder" "[I", Cond.fieldLink RX1 15 "SmokeLedger$Holdings" "held" "[I", Cond.fieldLink RX1 18 "SmokeLedger$Holdings" "hundredths" "[I", Cond.fieldLink RX1 38 "SmokeLedger$Holdings" "reached" "[J", Cond.constantLong RX1 108 (1000000), Cond.methodLink RX1 87 arraycopyName, Cond.native arraycopyName, Cond.static arraycopyName, Cond.initialized "java/lang/System", Cond.methodLink RX1 93 yJ7_fill_53178, Cond.static yJ7_fill_53178, Cond.initialized RJ7, Cond.code yJ7_fill_53178 cJ7_fill_53178 4 none, Cond.methodLink RX1 105 yJ7_fill_d0a16, Cond.static yJ7_fill_d0a16, Cond.code yJ7_fill_d0a16 cJ7_fill_d0a16 5 none, Cond.methodLink RX1 110 yX1_goOneStep, Cond.instanceMethod yX1_goOneStep, Cond.selects RX1 yX1_goOneStep yX1_goOneStep, Cond.code yX1_goOneStep cX1_goOneStep 5 none, Cond.fieldLink RX1 41 "SmokeLedger$Holdings" "reachedNext" "[J", Cond.constantLong RX1 113 (100)]
def wsX5_isDouble : List Cond := .code yX5_isDouble cX5_isDouble 4 (some .boolean) :: ((wsX5_isDouble_r1 ++ wsX5_isDouble_r2) ++ wsX50 ++ wsX20 ++ wsX10)
def wsX5_told_r1 : List Cond := [Cond.fieldLink RX5 19 "SmokeLedger" "rows" "LSmokeLedger$Rows;", Cond.fieldLink RX5 86 "SmokeLedger$Rows" "unit" "[I", Cond.fieldLink RX5 90 "SmokeLedger$Rows" "kind" "[I", Cond.fieldLink RX5 93 "SmokeLedger$Rows" "amount" "[I", Cond.fieldLink RX5 96 "SmokeLedger$Rows" "day" "[I", Cond.fieldLink RX5 99 "SmokeLedger$Rows" "seller" "[I", Cond.fieldLink RX5 105 "SmokeLedger$Rows" "covered" "[I", Cond.methodLink RX5 83 yX5_isRow, Cond.instanceMethod yX5_isRow, Cond.selects RX5 yX5_isRow yX5_isRow, Cond.initialized RX5, Cond.code yX5_isRow cX5_isRow 2 (some .boolean), Cond.fieldLink RX5 132 "SmokeLedger$Rows" "size" "I", Cond.methodLink RX5 102 yX5_isDouble, Cond.instanceMethod yX5_isDouble, Cond.selects RX5 yX5_isDouble yX5_isDouble, Cond.code yX5_isDouble cX5_isDouble 4 (some .boolean), Cond.fieldLink RX5 10 "SmokeLedger" "holdings" "LSmokeLedger$Holdings;", Cond.methodLink RX5 65 yX1_shareOn, Cond.instanceMethod yX1_shareOn, Cond.selects RX1 yX1_shareOn yX1_shareOn, Cond.initialized RX1, Cond.code yX1_shareOn cX1_shareOn 3 (some .long), Cond.methodLink RX1 55 yX1_spanOn]
def wsX5_told_r2 : List Cond := [Cond.instanceMethod yX1_spanOn, Cond.selects RX1 yX1_spanOn yX1_spanOn, Cond.code yX1_spanOn cX1_spanOn 3 (some .int), Cond.fieldLink RX1 44 "SmokeLedger$Holdings" "size" "I", Cond.fieldLink RX1 21 "SmokeLedger$Holdings" "day" "[I", Cond.methodLink RX1 77 yX1_shareIn, Cond.instanceMethod yX1_shareIn, Cond.selects RX1 yX1_shareIn yX1_shareIn, Cond.code yX1_shareIn cX1_shareIn 3 (some .long), Cond.fieldLink RX1 27 "SmokeLedger$Holdings" "spanIsMade" "[Z", Cond.fieldLink RX1 31 "SmokeLedger$Holdings" "spanShares" "[J", Cond.methodLink RX1 102 yX1_makeSpan, Cond.instanceMethod yX1_makeSpan, Cond.selects RX1 yX1_makeSpan yX1_makeSpan, Cond.code yX1_makeSpan cX1_makeSpan 5 none, Cond.fieldLink RX1 35 "SmokeLedger$Holdings" "matrix" "[I", Cond.fieldLink RX1 9 "SmokeLedger$Holdings" "holder" "[I", Cond.fieldLink RX1 15 "SmokeLedger$Holdings" "held" "[I", Cond.fieldLink RX1 18 "SmokeLedger$Holdings" "hundredths" "[I", Cond.fieldLink RX1 38 "SmokeLedger$Holdings" "reached" "[J", Cond.constantLong RX1 108 (1000000), Cond.methodLink RX1 87 arraycopyName, Cond.native arraycopyName, Cond.static arraycopyName]
def wsX5_told_r3 : List Cond := [Cond.initialized "java/lang/System", Cond.methodLink RX1 93 yJ7_fill_53178, Cond.static yJ7_fill_53178, Cond.initialized RJ7, Cond.code yJ7_fill_53178 cJ7_fill_53178 4 none, Cond.methodLink RX1 105 yJ7_fill_d0a16, Cond.static yJ7_fill_d0a16, Cond.code yJ7_fill_d0a16 cJ7_fill_d0a16 5 none, Cond.methodLink RX1 110 yX1_goOneStep, Cond.instanceMethod yX1_goOneStep, Cond.selects RX1 yX1_goOneStep yX1_goOneStep, Cond.code yX1_goOneStep cX1_goOneStep 5 none, Cond.fieldLink RX1 41 "SmokeLedger$Holdings" "reachedNext" "[J", Cond.constantLong RX1 113 (100)]
def wsX5_told : List Cond := .code yX5_told cX5_told 3 (some .int) :: ((wsX5_told_r1 ++ (wsX5_told_r2 ++ wsX5_told_r3)) ++ wsX50 ++ wsX20 ++ wsX10)
def wsX5_isYear : List Cond := .code yX5_isYear cX5_isYear 1 (some .boolean) :: ([])
def wsX5_factor : List Cond := .code yX5_factor cX5_factor 5 (some .int) :: ([.fieldLink RX5 26 "SmokeLedger" "factors" "LSmokeLedger$Factors;", .methodLink RX5 75 yX5_isKind, .static yX5_isKind, .initialized RX5, .code yX5_isKind cX5_isKind 1 (some .boolean), .methodLink RX5 108 yX5_isYear, .static yX5_isYear, .code yX5_isYear cX5_isYear 1 (some .boolean), .methodLink RX5 111 yX0_add, .instanceMethod yX0_add, .selects RX0 yX0_add yX0_add, .initialized RX0, .code yX0_add cX0_add 5 (some .int), .fieldLink RX0 24 "SmokeLedger$Factors" "size" "I", .fieldLink RX0 9 "SmokeLedger$Factors" "kind" "[I", .fieldLink RX0 15 "SmokeLedger$Factors" "year" "[I", .fieldLink RX0 18 "SmokeLedger$Factors" "low" "[I", .fieldLink RX0 21 "SmokeLedger$Factors" "high" "[I"] ++ wsX50 ++ wsX00)
def wsX5_isAsOf : List Cond := .code yX5_isAsOf cX5_isAsOf 2 (some .boolean) :: ([.fieldLink RX5 26 "SmokeLedger" "factors" "LSmokeLedger$Factors;", .fieldLink RX5 193 "SmokeLedger$Factors" "size" "I"] ++ wsX50 ++ wsX00)
def wsX5_factorAs_r1 : List Cond := [Cond.fieldLink RX5 26 "SmokeLedger" "factors" "LSmokeLedger$Factors;", Cond.methodLink RX5 113 yX5_isAsOf, Cond.instanceMethod yX5_isAsOf, Cond.selects RX5 yX5_isAsOf yX5_isAsOf, Cond.initialized RX5, Cond.code yX5_isAsOf cX5_isAsOf 2 (some .boolean), Cond.fieldLink RX5 193 "SmokeLedger$Factors" "size" "I", Cond.methodLink RX5 75 yX5_isKind, Cond.static yX5_isKind, Cond.code yX5_isKind cX5_isKind 1 (some .boolean), Cond.methodLink RX5 108 yX5_isYear, Cond.static yX5_isYear, Cond.code yX5_isYear cX5_isYear 1 (some .boolean), Cond.methodLink RX5 116 yX0_versionFor, Cond.instanceMethod yX0_versionFor, Cond.selects RX0 yX0_versionFor yX0_versionFor, Cond.initialized RX0, Cond.code yX0_versionFor cX0_versionFor 7 (some .int), Cond.fieldLink RX0 24 "SmokeLedger$Factors" "size" "I", Cond.fieldLink RX0 9 "SmokeLedger$Factors" "kind" "[I", Cond.fieldLink RX0 15 "SmokeLedger$Factors" "year" "[I", Cond.methodLink RX5 119 yX0_endOf, Cond.instanceMethod yX0_endOf, Cond.selects RX0 yX0_endOf yX0_endOf]
def wsX5_factorAs_r2 : List Cond := [Cond.code yX0_endOf cX0_endOf 3 (some .int), Cond.fieldLink RX0 21 "SmokeLedger$Factors" "high" "[I", Cond.fieldLink RX0 18 "SmokeLedger$Factors" "low" "[I"]
def wsX5_factorAs : List Cond := .code yX5_factorAs cX5_factorAs 5 (some .int) :: ((wsX5_factorAs_r1 ++ wsX5_factorAs_r2) ++ wsX50 ++ wsX00)
def wsX5_versionOf : List Cond := .code yX5_versionOf cX5_versionOf 3 (some .int) :: ([.fieldLink RX5 26 "SmokeLedger" "factors" "LSmokeLedger$Factors;", .fieldLink RX5 19 "SmokeLedger" "rows" "LSmokeLedger$Rows;", .fieldLink RX5 90 "SmokeLedger$Rows" "kind" "[I", .methodLink RX5 198 yX2_yearOf, .instanceMethod yX2_yearOf, .selects RX2 yX2_yearOf yX2_yearOf, .initialized RX2, .code yX2_yearOf cX2_yearOf 2 (some .int), .fieldLink RX2 21 "SmokeLedger$Rows" "day" "[I", .methodLink RX5 116 yX0_versionFor, .instanceMethod yX0_versionFor, .selects RX0 yX0_versionFor yX0_versionFor, .initialized RX0, .code yX0_versionFor cX0_versionFor 7 (some .int), .fieldLink RX0 24 "SmokeLedger$Factors" "size" "I", .fieldLink RX0 9 "SmokeLedger$Factors" "kind" "[I", .fieldLink RX0 15 "SmokeLedger$Factors" "year" "[I"] ++ wsX50 ++ wsX20 ++ wsX00)
def wsX5_tonsOf_r1 : List Cond := [Cond.fieldLink RX5 26 "SmokeLedger" "factors" "LSmokeLedger$Factors;", Cond.fieldLink RX5 201 "SmokeLedger$Way" "as" "I", Cond.fieldLink RX5 207 "SmokeLedger$Way" "high" "Z", Cond.constantLong RX5 146 (-9), Cond.fieldLink RX5 211 "SmokeLedger$Way" "market" "Z", Cond.fieldLink RX5 19 "SmokeLedger" "rows" "LSmokeLedger$Rows;", Cond.fieldLink RX5 90 "SmokeLedger$Rows" "kind" "[I", Cond.fieldLink RX5 93 "SmokeLedger$Rows" "amount" "[I", Cond.methodLink RX5 204 yX5_versionOf, Cond.instanceMethod yX5_versionOf, Cond.selects RX5 yX5_versionOf yX5_versionOf, Cond.initialized RX5, Cond.code yX5_versionOf cX5_versionOf 3 (some .int), Cond.methodLink RX5 198 yX2_yearOf, Cond.instanceMethod yX2_yearOf, Cond.selects RX2 yX2_yearOf yX2_yearOf, Cond.initialized RX2, Cond.code yX2_yearOf cX2_yearOf 2 (some .int), Cond.fieldLink RX2 21 "SmokeLedger$Rows" "day" "[I", Cond.methodLink RX5 116 yX0_versionFor, Cond.instanceMethod yX0_versionFor, Cond.selects RX0 yX0_versionFor yX0_versionFor, Cond.initialized RX0, Cond.code yX0_versionFor cX0_versionFor 7 (some .int)]
def wsX5_tonsOf_r2 : List Cond := [Cond.fieldLink RX0 24 "SmokeLedger$Factors" "size" "I", Cond.fieldLink RX0 9 "SmokeLedger$Factors" "kind" "[I", Cond.fieldLink RX0 15 "SmokeLedger$Factors" "year" "[I", Cond.methodLink RX5 119 yX0_endOf, Cond.instanceMethod yX0_endOf, Cond.selects RX0 yX0_endOf yX0_endOf, Cond.code yX0_endOf cX0_endOf 3 (some .int), Cond.fieldLink RX0 21 "SmokeLedger$Factors" "high" "[I", Cond.fieldLink RX0 18 "SmokeLedger$Factors" "low" "[I", Cond.methodLink RX5 170 yX2_uncovered, Cond.instanceMethod yX2_uncovered, Cond.selects RX2 yX2_uncovered yX2_uncovered, Cond.code yX2_uncovered cX2_uncovered 2 (some .int), Cond.fieldLink RX2 18 "SmokeLedger$Rows" "amount" "[I", Cond.fieldLink RX2 27 "SmokeLedger$Rows" "covered" "[I"]
def wsX5_tonsOf : List Cond := .code yX5_tonsOf cX5_tonsOf 6 (some .long) :: ((wsX5_tonsOf_r1 ++ wsX5_tonsOf_r2) ++ wsX50 ++ wsX40 ++ wsX20 ++ wsX00)
def wsX5_tons_r1 : List Cond := [Cond.constantLong RX5 63 (-1), Cond.classLink RX5 123 RX4, Cond.instantiable RX4 4, Cond.initialized RX4, Cond.methodLink RX5 83 yX5_isRow, Cond.instanceMethod yX5_isRow, Cond.selects RX5 yX5_isRow yX5_isRow, Cond.initialized RX5, Cond.code yX5_isRow cX5_isRow 2 (some .boolean), Cond.fieldLink RX5 19 "SmokeLedger" "rows" "LSmokeLedger$Rows;", Cond.fieldLink RX5 132 "SmokeLedger$Rows" "size" "I", Cond.methodLink RX5 113 yX5_isAsOf, Cond.instanceMethod yX5_isAsOf, Cond.selects RX5 yX5_isAsOf yX5_isAsOf, Cond.code yX5_isAsOf cX5_isAsOf 2 (some .boolean), Cond.fieldLink RX5 26 "SmokeLedger" "factors" "LSmokeLedger$Factors;", Cond.fieldLink RX5 193 "SmokeLedger$Factors" "size" "I", Cond.methodLink RX5 125 yX4_init, Cond.instanceMethod yX4_init, Cond.code yX4_init cX4_init 5 none, Cond.methodLink RX4 1 objectInit, Cond.instanceMethod objectInit, Cond.code objectInit ⟨#[0xb1]⟩ 1 none, Cond.fieldLink RX4 7 "SmokeLedger$Way" "as" "I"]
def wsX5_tons_r2 : List Cond := [Cond.fieldLink RX4 13 "SmokeLedger$Way" "market" "Z", Cond.fieldLink RX4 17 "SmokeLedger$Way" "once" "Z", Cond.fieldLink RX4 20 "SmokeLedger$Way" "high" "Z", Cond.methodLink RX5 128 yX5_tonsOf, Cond.instanceMethod yX5_tonsOf, Cond.selects RX5 yX5_tonsOf yX5_tonsOf, Cond.code yX5_tonsOf cX5_tonsOf 6 (some .long), Cond.fieldLink RX5 201 "SmokeLedger$Way" "as" "I", Cond.fieldLink RX5 207 "SmokeLedger$Way" "high" "Z", Cond.constantLong RX5 146 (-9), Cond.fieldLink RX5 211 "SmokeLedger$Way" "market" "Z", Cond.fieldLink RX5 90 "SmokeLedger$Rows" "kind" "[I", Cond.fieldLink RX5 93 "SmokeLedger$Rows" "amount" "[I", Cond.methodLink RX5 204 yX5_versionOf, Cond.instanceMethod yX5_versionOf, Cond.selects RX5 yX5_versionOf yX5_versionOf, Cond.code yX5_versionOf cX5_versionOf 3 (some .int), Cond.methodLink RX5 198 yX2_yearOf, Cond.instanceMethod yX2_yearOf, Cond.selects RX2 yX2_yearOf yX2_yearOf, Cond.initialized RX2, Cond.code yX2_yearOf cX2_yearOf 2 (some .int), Cond.fieldLink RX2 21 "SmokeLedger$Rows" "day" "[I", Cond.methodLink RX5 116 yX0_versionFor]
def wsX5_tons_r3 : List Cond := [Cond.instanceMethod yX0_versionFor, Cond.selects RX0 yX0_versionFor yX0_versionFor, Cond.initialized RX0, Cond.code yX0_versionFor cX0_versionFor 7 (some .int), Cond.fieldLink RX0 24 "SmokeLedger$Factors" "size" "I", Cond.fieldLink RX0 9 "SmokeLedger$Factors" "kind" "[I", Cond.fieldLink RX0 15 "SmokeLedger$Factors" "year" "[I", Cond.methodLink RX5 119 yX0_endOf, Cond.instanceMethod yX0_endOf, Cond.selects RX0 yX0_endOf yX0_endOf, Cond.code yX0_endOf cX0_endOf 3 (some .int), Cond.fieldLink RX0 21 "SmokeLedger$Factors" "high" "[I", Cond.fieldLink RX0 18 "SmokeLedger$Factors" "low" "[I", Cond.methodLink RX5 170 yX2_uncovered, Cond.instanceMethod yX2_uncovered, Cond.selects RX2 yX2_uncovered yX2_uncovered, Cond.code yX2_uncovered cX2_uncovered 2 (some .int), Cond.fieldLink RX2 18 "SmokeLedger$Rows" "amount" "[I", Cond.fieldLink RX2 27 "SmokeLedger$Rows" "covered" "[I"]
def wsX5_tons : List Cond := .code yX5_tons cX5_tons 5 (some .long) :: ((wsX5_tons_r1 ++ (wsX5_tons_r2 ++ wsX5_tons_r3)) ++ wsX40 ++ wsX50 ++ wsX20 ++ wsX00)
def wsX5_isChanged_r1 : List Cond := [Cond.fieldLink RX5 19 "SmokeLedger" "rows" "LSmokeLedger$Rows;", Cond.fieldLink RX5 26 "SmokeLedger" "factors" "LSmokeLedger$Factors;", Cond.methodLink RX5 143 yX2_isOfYear, Cond.instanceMethod yX2_isOfYear, Cond.selects RX2 yX2_isOfYear yX2_isOfYear, Cond.initialized RX2, Cond.code yX2_isOfYear cX2_isOfYear 3 (some .boolean), Cond.methodLink RX2 34 yX2_yearOf, Cond.instanceMethod yX2_yearOf, Cond.selects RX2 yX2_yearOf yX2_yearOf, Cond.code yX2_yearOf cX2_yearOf 2 (some .int), Cond.fieldLink RX2 21 "SmokeLedger$Rows" "day" "[I", Cond.methodLink RX5 204 yX5_versionOf, Cond.instanceMethod yX5_versionOf, Cond.selects RX5 yX5_versionOf yX5_versionOf, Cond.initialized RX5, Cond.code yX5_versionOf cX5_versionOf 3 (some .int), Cond.fieldLink RX5 90 "SmokeLedger$Rows" "kind" "[I", Cond.methodLink RX5 198 yX2_yearOf, Cond.methodLink RX5 116 yX0_versionFor, Cond.instanceMethod yX0_versionFor, Cond.selects RX0 yX0_versionFor yX0_versionFor, Cond.initialized RX0, Cond.code yX0_versionFor cX0_versionFor 7 (some .int)]
def wsX5_isChanged_r2 : List Cond := [Cond.fieldLink RX0 24 "SmokeLedger$Factors" "size" "I", Cond.fieldLink RX0 9 "SmokeLedger$Factors" "kind" "[I", Cond.fieldLink RX0 15 "SmokeLedger$Factors" "year" "[I", Cond.methodLink RX5 119 yX0_endOf, Cond.instanceMethod yX0_endOf, Cond.selects RX0 yX0_endOf yX0_endOf, Cond.code yX0_endOf cX0_endOf 3 (some .int), Cond.fieldLink RX0 21 "SmokeLedger$Factors" "high" "[I", Cond.fieldLink RX0 18 "SmokeLedger$Factors" "low" "[I"]
def wsX5_isChanged : List Cond := .code yX5_isChanged cX5_isChanged 7 (some .boolean) :: ((wsX5_isChanged_r1 ++ wsX5_isChanged_r2) ++ wsX50 ++ wsX20 ++ wsX00)
def wsX5_changed_r1 : List Cond := [Cond.fieldLink RX5 19 "SmokeLedger" "rows" "LSmokeLedger$Rows;", Cond.fieldLink RX5 132 "SmokeLedger$Rows" "size" "I", Cond.methodLink RX5 113 yX5_isAsOf, Cond.instanceMethod yX5_isAsOf, Cond.selects RX5 yX5_isAsOf yX5_isAsOf, Cond.initialized RX5, Cond.code yX5_isAsOf cX5_isAsOf 2 (some .boolean), Cond.fieldLink RX5 26 "SmokeLedger" "factors" "LSmokeLedger$Factors;", Cond.fieldLink RX5 193 "SmokeLedger$Factors" "size" "I", Cond.methodLink RX5 108 yX5_isYear, Cond.static yX5_isYear, Cond.code yX5_isYear cX5_isYear 1 (some .boolean), Cond.methodLink RX5 135 yX5_isChanged, Cond.instanceMethod yX5_isChanged, Cond.selects RX5 yX5_isChanged yX5_isChanged, Cond.code yX5_isChanged cX5_isChanged 7 (some .boolean), Cond.methodLink RX5 143 yX2_isOfYear, Cond.instanceMethod yX2_isOfYear, Cond.selects RX2 yX2_isOfYear yX2_isOfYear, Cond.initialized RX2, Cond.code yX2_isOfYear cX2_isOfYear 3 (some .boolean), Cond.methodLink RX2 34 yX2_yearOf, Cond.instanceMethod yX2_yearOf, Cond.selects RX2 yX2_yearOf yX2_yearOf]
def wsX5_changed_r2 : List Cond := [Cond.code yX2_yearOf cX2_yearOf 2 (some .int), Cond.fieldLink RX2 21 "SmokeLedger$Rows" "day" "[I", Cond.methodLink RX5 204 yX5_versionOf, Cond.instanceMethod yX5_versionOf, Cond.selects RX5 yX5_versionOf yX5_versionOf, Cond.code yX5_versionOf cX5_versionOf 3 (some .int), Cond.fieldLink RX5 90 "SmokeLedger$Rows" "kind" "[I", Cond.methodLink RX5 198 yX2_yearOf, Cond.methodLink RX5 116 yX0_versionFor, Cond.instanceMethod yX0_versionFor, Cond.selects RX0 yX0_versionFor yX0_versionFor, Cond.initialized RX0, Cond.code yX0_versionFor cX0_versionFor 7 (some .int), Cond.fieldLink RX0 24 "SmokeLedger$Factors" "size" "I", Cond.fieldLink RX0 9 "SmokeLedger$Factors" "kind" "[I", Cond.fieldLink RX0 15 "SmokeLedger$Factors" "year" "[I", Cond.methodLink RX5 119 yX0_endOf, Cond.instanceMethod yX0_endOf, Cond.selects RX0 yX0_endOf yX0_endOf, Cond.code yX0_endOf cX0_endOf 3 (some .int), Cond.fieldLink RX0 21 "SmokeLedger$Factors" "high" "[I", Cond.fieldLink RX0 18 "SmokeLedger$Factors" "low" "[I"]
def wsX5_changed : List Cond := .code yX5_changed cX5_changed 6 (some .int) :: ((wsX5_changed_r1 ++ wsX5_changed_r2) ++ wsX50 ++ wsX20 ++ wsX00)
def wsX5_change_r1 : List Cond := [Cond.fieldLink RX5 19 "SmokeLedger" "rows" "LSmokeLedger$Rows;", Cond.fieldLink RX5 132 "SmokeLedger$Rows" "size" "I", Cond.methodLink RX5 113 yX5_isAsOf, Cond.instanceMethod yX5_isAsOf, Cond.selects RX5 yX5_isAsOf yX5_isAsOf, Cond.initialized RX5, Cond.code yX5_isAsOf cX5_isAsOf 2 (some .boolean), Cond.fieldLink RX5 26 "SmokeLedger" "factors" "LSmokeLedger$Factors;", Cond.fieldLink RX5 193 "SmokeLedger$Factors" "size" "I", Cond.methodLink RX5 108 yX5_isYear, Cond.static yX5_isYear, Cond.code yX5_isYear cX5_isYear 1 (some .boolean), Cond.methodLink RX5 135 yX5_isChanged, Cond.instanceMethod yX5_isChanged, Cond.selects RX5 yX5_isChanged yX5_isChanged, Cond.code yX5_isChanged cX5_isChanged 7 (some .boolean), Cond.methodLink RX5 143 yX2_isOfYear, Cond.instanceMethod yX2_isOfYear, Cond.selects RX2 yX2_isOfYear yX2_isOfYear, Cond.initialized RX2, Cond.code yX2_isOfYear cX2_isOfYear 3 (some .boolean), Cond.methodLink RX2 34 yX2_yearOf, Cond.instanceMethod yX2_yearOf, Cond.selects RX2 yX2_yearOf yX2_yearOf]
def wsX5_change_r2 : List Cond := [Cond.code yX2_yearOf cX2_yearOf 2 (some .int), Cond.fieldLink RX2 21 "SmokeLedger$Rows" "day" "[I", Cond.methodLink RX5 204 yX5_versionOf, Cond.instanceMethod yX5_versionOf, Cond.selects RX5 yX5_versionOf yX5_versionOf, Cond.code yX5_versionOf cX5_versionOf 3 (some .int), Cond.fieldLink RX5 90 "SmokeLedger$Rows" "kind" "[I", Cond.methodLink RX5 198 yX2_yearOf, Cond.methodLink RX5 116 yX0_versionFor, Cond.instanceMethod yX0_versionFor, Cond.selects RX0 yX0_versionFor yX0_versionFor, Cond.initialized RX0, Cond.code yX0_versionFor cX0_versionFor 7 (some .int), Cond.fieldLink RX0 24 "SmokeLedger$Factors" "size" "I", Cond.fieldLink RX0 9 "SmokeLedger$Factors" "kind" "[I", Cond.fieldLink RX0 15 "SmokeLedger$Factors" "year" "[I", Cond.methodLink RX5 119 yX0_endOf, Cond.instanceMethod yX0_endOf, Cond.selects RX0 yX0_endOf yX0_endOf, Cond.code yX0_endOf cX0_endOf 3 (some .int), Cond.fieldLink RX0 21 "SmokeLedger$Factors" "high" "[I", Cond.fieldLink RX0 18 "SmokeLedger$Factors" "low" "[I"]
def wsX5_change : List Cond := .code yX5_change cX5_change 7 (some .int) :: ((wsX5_change_r1 ++ wsX5_change_r2) ++ wsX50 ++ wsX20 ++ wsX00)
def wsX5_totalOf_r1 : List Cond := [Cond.fieldLink RX5 19 "SmokeLedger" "rows" "LSmokeLedger$Rows;", Cond.fieldLink RX5 132 "SmokeLedger$Rows" "size" "I", Cond.fieldLink RX5 86 "SmokeLedger$Rows" "unit" "[I", Cond.fieldLink RX5 96 "SmokeLedger$Rows" "day" "[I", Cond.fieldLink RX5 10 "SmokeLedger" "holdings" "LSmokeLedger$Holdings;", Cond.fieldLink RX5 214 "SmokeLedger$Way" "once" "Z", Cond.constantLong RX5 146 (-9), Cond.methodLink RX5 143 yX2_isOfYear, Cond.instanceMethod yX2_isOfYear, Cond.selects RX2 yX2_isOfYear yX2_isOfYear, Cond.initialized RX2, Cond.code yX2_isOfYear cX2_isOfYear 3 (some .boolean), Cond.methodLink RX2 34 yX2_yearOf, Cond.instanceMethod yX2_yearOf, Cond.selects RX2 yX2_yearOf yX2_yearOf, Cond.code yX2_yearOf cX2_yearOf 2 (some .int), Cond.fieldLink RX2 21 "SmokeLedger$Rows" "day" "[I", Cond.methodLink RX5 65 yX1_shareOn, Cond.instanceMethod yX1_shareOn, Cond.selects RX1 yX1_shareOn yX1_shareOn, Cond.initialized RX1, Cond.code yX1_shareOn cX1_shareOn 3 (some .long), Cond.methodLink RX1 55 yX1_spanOn, Cond.instanceMethod yX1_spanOn]
def wsX5_totalOf_r2 : List Cond := [Cond.selects RX1 yX1_spanOn yX1_spanOn, Cond.code yX1_spanOn cX1_spanOn 3 (some .int), Cond.fieldLink RX1 44 "SmokeLedger$Holdings" "size" "I", Cond.fieldLink RX1 21 "SmokeLedger$Holdings" "day" "[I", Cond.methodLink RX1 77 yX1_shareIn, Cond.instanceMethod yX1_shareIn, Cond.selects RX1 yX1_shareIn yX1_shareIn, Cond.code yX1_shareIn cX1_shareIn 3 (some .long), Cond.fieldLink RX1 27 "SmokeLedger$Holdings" "spanIsMade" "[Z", Cond.fieldLink RX1 31 "SmokeLedger$Holdings" "spanShares" "[J", Cond.methodLink RX1 102 yX1_makeSpan, Cond.instanceMethod yX1_makeSpan, Cond.selects RX1 yX1_makeSpan yX1_makeSpan, Cond.code yX1_makeSpan cX1_makeSpan 5 none, Cond.fieldLink RX1 35 "SmokeLedger$Holdings" "matrix" "[I", Cond.fieldLink RX1 9 "SmokeLedger$Holdings" "holder" "[I", Cond.fieldLink RX1 15 "SmokeLedger$Holdings" "held" "[I", Cond.fieldLink RX1 18 "SmokeLedger$Holdings" "hundredths" "[I", Cond.fieldLink RX1 38 "SmokeLedger$Holdings" "reached" "[J", Cond.constantLong RX1 108 (1000000), Cond.methodLink RX1 87 arraycopyName, Cond.native arraycopyName, Cond.static arraycopyName, Cond.initialized "java/lang/System"]
def wsX5_totalOf_r3 : List Cond := [Cond.methodLink RX1 93 yJ7_fill_53178, Cond.static yJ7_fill_53178, Cond.initialized RJ7, Cond.code yJ7_fill_53178 cJ7_fill_53178 4 none, Cond.methodLink RX1 105 yJ7_fill_d0a16, Cond.static yJ7_fill_d0a16, Cond.code yJ7_fill_d0a16 cJ7_fill_d0a16 5 none, Cond.methodLink RX1 110 yX1_goOneStep, Cond.instanceMethod yX1_goOneStep, Cond.selects RX1 yX1_goOneStep yX1_goOneStep, Cond.code yX1_goOneStep cX1_goOneStep 5 none, Cond.fieldLink RX1 41 "SmokeLedger$Holdings" "reachedNext" "[J", Cond.constantLong RX1 113 (100), Cond.methodLink RX5 102 yX5_isDouble, Cond.instanceMethod yX5_isDouble, Cond.selects RX5 yX5_isDouble yX5_isDouble, Cond.initialized RX5, Cond.code yX5_isDouble cX5_isDouble 4 (some .boolean), Cond.fieldLink RX5 99 "SmokeLedger$Rows" "seller" "[I", Cond.methodLink RX5 128 yX5_tonsOf, Cond.instanceMethod yX5_tonsOf, Cond.selects RX5 yX5_tonsOf yX5_tonsOf, Cond.code yX5_tonsOf cX5_tonsOf 6 (some .long), Cond.fieldLink RX5 26 "SmokeLedger" "factors" "LSmokeLedger$Factors;"]
def wsX5_totalOf_r4 : List Cond := [Cond.fieldLink RX5 201 "SmokeLedger$Way" "as" "I", Cond.fieldLink RX5 207 "SmokeLedger$Way" "high" "Z", Cond.fieldLink RX5 211 "SmokeLedger$Way" "market" "Z", Cond.fieldLink RX5 90 "SmokeLedger$Rows" "kind" "[I", Cond.fieldLink RX5 93 "SmokeLedger$Rows" "amount" "[I", Cond.methodLink RX5 204 yX5_versionOf, Cond.instanceMethod yX5_versionOf, Cond.selects RX5 yX5_versionOf yX5_versionOf, Cond.code yX5_versionOf cX5_versionOf 3 (some .int), Cond.methodLink RX5 198 yX2_yearOf, Cond.methodLink RX5 116 yX0_versionFor, Cond.instanceMethod yX0_versionFor, Cond.selects RX0 yX0_versionFor yX0_versionFor, Cond.initialized RX0, Cond.code yX0_versionFor cX0_versionFor 7 (some .int), Cond.fieldLink RX0 24 "SmokeLedger$Factors" "size" "I", Cond.fieldLink RX0 9 "SmokeLedger$Factors" "kind" "[I", Cond.fieldLink RX0 15 "SmokeLedger$Factors" "year" "[I", Cond.methodLink RX5 119 yX0_endOf, Cond.instanceMethod yX0_endOf, Cond.selects RX0 yX0_endOf yX0_endOf, Cond.code yX0_endOf cX0_endOf 3 (some .int), Cond.fieldLink RX0 21 "SmokeLedger$Factors" "high" "[I", Cond.fieldLink RX0 18 "SmokeLedger$Factors" "low" "[I"]
def wsX5_totalOf_r5 : List Cond := [Cond.methodLink RX5 170 yX2_uncovered, Cond.instanceMethod yX2_uncovered, Cond.selects RX2 yX2_uncovered yX2_uncovered, Cond.code yX2_uncovered cX2_uncovered 2 (some .int), Cond.fieldLink RX2 18 "SmokeLedger$Rows" "amount" "[I", Cond.fieldLink RX2 27 "SmokeLedger$Rows" "covered" "[I"]
def wsX5_totalOf : List Cond := .code yX5_totalOf cX5_totalOf 13 (some .long) :: ((wsX5_totalOf_r1 ++ (wsX5_totalOf_r2 ++ (wsX5_totalOf_r3 ++ (wsX5_totalOf_r4 ++ wsX5_totalOf_r5)))) ++ wsX50 ++ wsX20 ++ wsX40 ++ wsX10 ++ wsX00)
def wsX5_total_r1 : List Cond := [Cond.constantLong RX5 69 (-2), Cond.constantLong RX5 63 (-1), Cond.classLink RX5 123 RX4, Cond.instantiable RX4 4, Cond.initialized RX4, Cond.methodLink RX5 108 yX5_isYear, Cond.static yX5_isYear, Cond.initialized RX5, Cond.code yX5_isYear cX5_isYear 1 (some .boolean), Cond.methodLink RX5 113 yX5_isAsOf, Cond.instanceMethod yX5_isAsOf, Cond.selects RX5 yX5_isAsOf yX5_isAsOf, Cond.code yX5_isAsOf cX5_isAsOf 2 (some .boolean), Cond.fieldLink RX5 26 "SmokeLedger" "factors" "LSmokeLedger$Factors;", Cond.fieldLink RX5 193 "SmokeLedger$Factors" "size" "I", Cond.methodLink RX5 125 yX4_init, Cond.instanceMethod yX4_init, Cond.code yX4_init cX4_init 5 none, Cond.methodLink RX4 1 objectInit, Cond.instanceMethod objectInit, Cond.code objectInit ⟨#[0xb1]⟩ 1 none, Cond.fieldLink RX4 7 "SmokeLedger$Way" "as" "I", Cond.fieldLink RX4 13 "SmokeLedger$Way" "market" "Z", Cond.fieldLink RX4 17 "SmokeLedger$Way" "once" "Z"]
def wsX5_total_r2 : List Cond := [Cond.fieldLink RX4 20 "SmokeLedger$Way" "high" "Z", Cond.methodLink RX5 139 yX5_totalOf, Cond.instanceMethod yX5_totalOf, Cond.selects RX5 yX5_totalOf yX5_totalOf, Cond.code yX5_totalOf cX5_totalOf 13 (some .long), Cond.fieldLink RX5 19 "SmokeLedger" "rows" "LSmokeLedger$Rows;", Cond.fieldLink RX5 132 "SmokeLedger$Rows" "size" "I", Cond.fieldLink RX5 86 "SmokeLedger$Rows" "unit" "[I", Cond.fieldLink RX5 96 "SmokeLedger$Rows" "day" "[I", Cond.fieldLink RX5 10 "SmokeLedger" "holdings" "LSmokeLedger$Holdings;", Cond.fieldLink RX5 214 "SmokeLedger$Way" "once" "Z", Cond.constantLong RX5 146 (-9), Cond.methodLink RX5 143 yX2_isOfYear, Cond.instanceMethod yX2_isOfYear, Cond.selects RX2 yX2_isOfYear yX2_isOfYear, Cond.initialized RX2, Cond.code yX2_isOfYear cX2_isOfYear 3 (some .boolean), Cond.methodLink RX2 34 yX2_yearOf, Cond.instanceMethod yX2_yearOf, Cond.selects RX2 yX2_yearOf yX2_yearOf, Cond.code yX2_yearOf cX2_yearOf 2 (some .int), Cond.fieldLink RX2 21 "SmokeLedger$Rows" "day" "[I", Cond.methodLink RX5 65 yX1_shareOn, Cond.instanceMethod yX1_shareOn]
def wsX5_total_r3 : List Cond := [Cond.selects RX1 yX1_shareOn yX1_shareOn, Cond.initialized RX1, Cond.code yX1_shareOn cX1_shareOn 3 (some .long), Cond.methodLink RX1 55 yX1_spanOn, Cond.instanceMethod yX1_spanOn, Cond.selects RX1 yX1_spanOn yX1_spanOn, Cond.code yX1_spanOn cX1_spanOn 3 (some .int), Cond.fieldLink RX1 44 "SmokeLedger$Holdings" "size" "I", Cond.fieldLink RX1 21 "SmokeLedger$Holdings" "day" "[I", Cond.methodLink RX1 77 yX1_shareIn, Cond.instanceMethod yX1_shareIn, Cond.selects RX1 yX1_shareIn yX1_shareIn, Cond.code yX1_shareIn cX1_shareIn 3 (some .long), Cond.fieldLink RX1 27 "SmokeLedger$Holdings" "spanIsMade" "[Z", Cond.fieldLink RX1 31 "SmokeLedger$Holdings" "spanShares" "[J", Cond.methodLink RX1 102 yX1_makeSpan, Cond.instanceMethod yX1_makeSpan, Cond.selects RX1 yX1_makeSpan yX1_makeSpan, Cond.code yX1_makeSpan cX1_makeSpan 5 none, Cond.fieldLink RX1 35 "SmokeLedger$Holdings" "matrix" "[I", Cond.fieldLink RX1 9 "SmokeLedger$Holdings" "holder" "[I", Cond.fieldLink RX1 15 "SmokeLedger$Holdings" "held" "[I", Cond.fieldLink RX1 18 "SmokeLedger$Holdings" "hundredths" "[I", Cond.fieldLink RX1 38 "SmokeLedger$Holdings" "reached" "[J"]
def wsX5_total_r4 : List Cond := [Cond.constantLong RX1 108 (1000000), Cond.methodLink RX1 87 arraycopyName, Cond.native arraycopyName, Cond.static arraycopyName, Cond.initialized "java/lang/System", Cond.methodLink RX1 93 yJ7_fill_53178, Cond.static yJ7_fill_53178, Cond.initialized RJ7, Cond.code yJ7_fill_53178 cJ7_fill_53178 4 none, Cond.methodLink RX1 105 yJ7_fill_d0a16, Cond.static yJ7_fill_d0a16, Cond.code yJ7_fill_d0a16 cJ7_fill_d0a16 5 none, Cond.methodLink RX1 110 yX1_goOneStep, Cond.instanceMethod yX1_goOneStep, Cond.selects RX1 yX1_goOneStep yX1_goOneStep, Cond.code yX1_goOneStep cX1_goOneStep 5 none, Cond.fieldLink RX1 41 "SmokeLedger$Holdings" "reachedNext" "[J", Cond.constantLong RX1 113 (100), Cond.methodLink RX5 102 yX5_isDouble, Cond.instanceMethod yX5_isDouble, Cond.selects RX5 yX5_isDouble yX5_isDouble, Cond.code yX5_isDouble cX5_isDouble 4 (some .boolean), Cond.fieldLink RX5 99 "SmokeLedger$Rows" "seller" "[I", Cond.methodLink RX5 128 yX5_tonsOf]
def wsX5_total_r5 : List Cond := [Cond.instanceMethod yX5_tonsOf, Cond.selects RX5 yX5_tonsOf yX5_tonsOf, Cond.code yX5_tonsOf cX5_tonsOf 6 (some .long), Cond.fieldLink RX5 201 "SmokeLedger$Way" "as" "I", Cond.fieldLink RX5 207 "SmokeLedger$Way" "high" "Z", Cond.fieldLink RX5 211 "SmokeLedger$Way" "market" "Z", Cond.fieldLink RX5 90 "SmokeLedger$Rows" "kind" "[I", Cond.fieldLink RX5 93 "SmokeLedger$Rows" "amount" "[I", Cond.methodLink RX5 204 yX5_versionOf, Cond.instanceMethod yX5_versionOf, Cond.selects RX5 yX5_versionOf yX5_versionOf, Cond.code yX5_versionOf cX5_versionOf 3 (some .int), Cond.methodLink RX5 198 yX2_yearOf, Cond.methodLink RX5 116 yX0_versionFor, Cond.instanceMethod yX0_versionFor, Cond.selects RX0 yX0_versionFor yX0_versionFor, Cond.initialized RX0, Cond.code yX0_versionFor cX0_versionFor 7 (some .int), Cond.fieldLink RX0 24 "SmokeLedger$Factors" "size" "I", Cond.fieldLink RX0 9 "SmokeLedger$Factors" "kind" "[I", Cond.fieldLink RX0 15 "SmokeLedger$Factors" "year" "[I", Cond.methodLink RX5 119 yX0_endOf, Cond.instanceMethod yX0_endOf, Cond.selects RX0 yX0_endOf yX0_endOf]
def wsX5_total_r6 : List Cond := [Cond.code yX0_endOf cX0_endOf 3 (some .int), Cond.fieldLink RX0 21 "SmokeLedger$Factors" "high" "[I", Cond.fieldLink RX0 18 "SmokeLedger$Factors" "low" "[I", Cond.methodLink RX5 170 yX2_uncovered, Cond.instanceMethod yX2_uncovered, Cond.selects RX2 yX2_uncovered yX2_uncovered, Cond.code yX2_uncovered cX2_uncovered 2 (some .int), Cond.fieldLink RX2 18 "SmokeLedger$Rows" "amount" "[I", Cond.fieldLink RX2 27 "SmokeLedger$Rows" "covered" "[I"]
def wsX5_total : List Cond := .code yX5_total cX5_total 6 (some .long) :: ((wsX5_total_r1 ++ (wsX5_total_r2 ++ (wsX5_total_r3 ++ (wsX5_total_r4 ++ (wsX5_total_r5 ++ wsX5_total_r6))))) ++ wsX40 ++ wsX50 ++ wsX00 ++ wsX20 ++ wsX10)
def wsX5_anew_r1 : List Cond := [Cond.constantLong RX5 69 (-2), Cond.constantLong RX5 63 (-1), Cond.classLink RX5 123 RX4, Cond.instantiable RX4 4, Cond.initialized RX4, Cond.methodLink RX5 108 yX5_isYear, Cond.static yX5_isYear, Cond.initialized RX5, Cond.code yX5_isYear cX5_isYear 1 (some .boolean), Cond.methodLink RX5 48 yX5_isDay, Cond.static yX5_isDay, Cond.code yX5_isDay cX5_isDay 1 (some .boolean), Cond.methodLink RX5 113 yX5_isAsOf, Cond.instanceMethod yX5_isAsOf, Cond.selects RX5 yX5_isAsOf yX5_isAsOf, Cond.code yX5_isAsOf cX5_isAsOf 2 (some .boolean), Cond.fieldLink RX5 26 "SmokeLedger" "factors" "LSmokeLedger$Factors;", Cond.fieldLink RX5 193 "SmokeLedger$Factors" "size" "I", Cond.methodLink RX5 125 yX4_init, Cond.instanceMethod yX4_init, Cond.code yX4_init cX4_init 5 none, Cond.methodLink RX4 1 objectInit, Cond.instanceMethod objectInit, Cond.code objectInit ⟨#[0xb1]⟩ 1 none]
def wsX5_anew_r2 : List Cond := [Cond.fieldLink RX4 7 "SmokeLedger$Way" "as" "I", Cond.fieldLink RX4 13 "SmokeLedger$Way" "market" "Z", Cond.fieldLink RX4 17 "SmokeLedger$Way" "once" "Z", Cond.fieldLink RX4 20 "SmokeLedger$Way" "high" "Z", Cond.methodLink RX5 139 yX5_totalOf, Cond.instanceMethod yX5_totalOf, Cond.selects RX5 yX5_totalOf yX5_totalOf, Cond.code yX5_totalOf cX5_totalOf 13 (some .long), Cond.fieldLink RX5 19 "SmokeLedger" "rows" "LSmokeLedger$Rows;", Cond.fieldLink RX5 132 "SmokeLedger$Rows" "size" "I", Cond.fieldLink RX5 86 "SmokeLedger$Rows" "unit" "[I", Cond.fieldLink RX5 96 "SmokeLedger$Rows" "day" "[I", Cond.fieldLink RX5 10 "SmokeLedger" "holdings" "LSmokeLedger$Holdings;", Cond.fieldLink RX5 214 "SmokeLedger$Way" "once" "Z", Cond.constantLong RX5 146 (-9), Cond.methodLink RX5 143 yX2_isOfYear, Cond.instanceMethod yX2_isOfYear, Cond.selects RX2 yX2_isOfYear yX2_isOfYear, Cond.initialized RX2, Cond.code yX2_isOfYear cX2_isOfYear 3 (some .boolean), Cond.methodLink RX2 34 yX2_yearOf, Cond.instanceMethod yX2_yearOf, Cond.selects RX2 yX2_yearOf yX2_yearOf, Cond.code yX2_yearOf cX2_yearOf 2 (some .int)]
def wsX5_anew_r3 : List Cond := [Cond.fieldLink RX2 21 "SmokeLedger$Rows" "day" "[I", Cond.methodLink RX5 65 yX1_shareOn, Cond.instanceMethod yX1_shareOn, Cond.selects RX1 yX1_shareOn yX1_shareOn, Cond.initialized RX1, Cond.code yX1_shareOn cX1_shareOn 3 (some .long), Cond.methodLink RX1 55 yX1_spanOn, Cond.instanceMethod yX1_spanOn, Cond.selects RX1 yX1_spanOn yX1_spanOn, Cond.code yX1_spanOn cX1_spanOn 3 (some .int), Cond.fieldLink RX1 44 "SmokeLedger$Holdings" "size" "I", Cond.fieldLink RX1 21 "SmokeLedger$Holdings" "day" "[I", Cond.methodLink RX1 77 yX1_shareIn, Cond.instanceMethod yX1_shareIn, Cond.selects RX1 yX1_shareIn yX1_shareIn, Cond.code yX1_shareIn cX1_shareIn 3 (some .long), Cond.fieldLink RX1 27 "SmokeLedger$Holdings" "spanIsMade" "[Z", Cond.fieldLink RX1 31 "SmokeLedger$Holdings" "spanShares" "[J", Cond.methodLink RX1 102 yX1_makeSpan, Cond.instanceMethod yX1_makeSpan, Cond.selects RX1 yX1_makeSpan yX1_makeSpan, Cond.code yX1_makeSpan cX1_makeSpan 5 none, Cond.fieldLink RX1 35 "SmokeLedger$Holdings" "matrix" "[I", Cond.fieldLink RX1 9 "SmokeLedger$Holdings" "holder" "[I"]
def wsX5_anew_r4 : List Cond := [Cond.fieldLink RX1 15 "SmokeLedger$Holdings" "held" "[I", Cond.fieldLink RX1 18 "SmokeLedger$Holdings" "hundredths" "[I", Cond.fieldLink RX1 38 "SmokeLedger$Holdings" "reached" "[J", Cond.constantLong RX1 108 (1000000), Cond.methodLink RX1 87 arraycopyName, Cond.native arraycopyName, Cond.static arraycopyName, Cond.initialized "java/lang/System", Cond.methodLink RX1 93 yJ7_fill_53178, Cond.static yJ7_fill_53178, Cond.initialized RJ7, Cond.code yJ7_fill_53178 cJ7_fill_53178 4 none, Cond.methodLink RX1 105 yJ7_fill_d0a16, Cond.static yJ7_fill_d0a16, Cond.code yJ7_fill_d0a16 cJ7_fill_d0a16 5 none, Cond.methodLink RX1 110 yX1_goOneStep, Cond.instanceMethod yX1_goOneStep, Cond.selects RX1 yX1_goOneStep yX1_goOneStep, Cond.code yX1_goOneStep cX1_goOneStep 5 none, Cond.fieldLink RX1 41 "SmokeLedger$Holdings" "reachedNext" "[J", Cond.constantLong RX1 113 (100), Cond.methodLink RX5 102 yX5_isDouble, Cond.instanceMethod yX5_isDouble, Cond.selects RX5 yX5_isDouble yX5_isDouble]
def wsX5_anew_r5 : List Cond := [Cond.code yX5_isDouble cX5_isDouble 4 (some .boolean), Cond.fieldLink RX5 99 "SmokeLedger$Rows" "seller" "[I", Cond.methodLink RX5 128 yX5_tonsOf, Cond.instanceMethod yX5_tonsOf, Cond.selects RX5 yX5_tonsOf yX5_tonsOf, Cond.code yX5_tonsOf cX5_tonsOf 6 (some .long), Cond.fieldLink RX5 201 "SmokeLedger$Way" "as" "I", Cond.fieldLink RX5 207 "SmokeLedger$Way" "high" "Z", Cond.fieldLink RX5 211 "SmokeLedger$Way" "market" "Z", Cond.fieldLink RX5 90 "SmokeLedger$Rows" "kind" "[I", Cond.fieldLink RX5 93 "SmokeLedger$Rows" "amount" "[I", Cond.methodLink RX5 204 yX5_versionOf, Cond.instanceMethod yX5_versionOf, Cond.selects RX5 yX5_versionOf yX5_versionOf, Cond.code yX5_versionOf cX5_versionOf 3 (some .int), Cond.methodLink RX5 198 yX2_yearOf, Cond.methodLink RX5 116 yX0_versionFor, Cond.instanceMethod yX0_versionFor, Cond.selects RX0 yX0_versionFor yX0_versionFor, Cond.initialized RX0, Cond.code yX0_versionFor cX0_versionFor 7 (some .int), Cond.fieldLink RX0 24 "SmokeLedger$Factors" "size" "I", Cond.fieldLink RX0 9 "SmokeLedger$Factors" "kind" "[I", Cond.fieldLink RX0 15 "SmokeLedger$Factors" "year" "[I"]
def wsX5_anew_r6 : List Cond := [Cond.methodLink RX5 119 yX0_endOf, Cond.instanceMethod yX0_endOf, Cond.selects RX0 yX0_endOf yX0_endOf, Cond.code yX0_endOf cX0_endOf 3 (some .int), Cond.fieldLink RX0 21 "SmokeLedger$Factors" "high" "[I", Cond.fieldLink RX0 18 "SmokeLedger$Factors" "low" "[I", Cond.methodLink RX5 170 yX2_uncovered, Cond.instanceMethod yX2_uncovered, Cond.selects RX2 yX2_uncovered yX2_uncovered, Cond.code yX2_uncovered cX2_uncovered 2 (some .int), Cond.fieldLink RX2 18 "SmokeLedger$Rows" "amount" "[I", Cond.fieldLink RX2 27 "SmokeLedger$Rows" "covered" "[I"]
def wsX5_anew : List Cond := .code yX5_anew cX5_anew 7 (some .long) :: ((wsX5_anew_r1 ++ (wsX5_anew_r2 ++ (wsX5_anew_r3 ++ (wsX5_anew_r4 ++ (wsX5_anew_r5 ++ wsX5_anew_r6))))) ++ wsX40 ++ wsX50 ++ wsX00 ++ wsX20 ++ wsX10)
def wsX5_part_r1 : List Cond := [Cond.constantLong RX5 63 (-1), Cond.constantLong RX5 69 (-2), Cond.classLink RX5 123 RX4, Cond.instantiable RX4 4, Cond.initialized RX4, Cond.methodLink RX5 41 yX5_isUnit, Cond.instanceMethod yX5_isUnit, Cond.selects RX5 yX5_isUnit yX5_isUnit, Cond.initialized RX5, Cond.code yX5_isUnit cX5_isUnit 2 (some .boolean), Cond.fieldLink RX5 37 "SmokeLedger" "units" "I", Cond.methodLink RX5 108 yX5_isYear, Cond.static yX5_isYear, Cond.code yX5_isYear cX5_isYear 1 (some .boolean), Cond.methodLink RX5 113 yX5_isAsOf, Cond.instanceMethod yX5_isAsOf, Cond.selects RX5 yX5_isAsOf yX5_isAsOf, Cond.code yX5_isAsOf cX5_isAsOf 2 (some .boolean), Cond.fieldLink RX5 26 "SmokeLedger" "factors" "LSmokeLedger$Factors;", Cond.fieldLink RX5 193 "SmokeLedger$Factors" "size" "I", Cond.methodLink RX5 125 yX4_init, Cond.instanceMethod yX4_init, Cond.code yX4_init cX4_init 5 none, Cond.methodLink RX4 1 objectInit]
def wsX5_part_r2 : List Cond := [Cond.instanceMethod objectInit, Cond.code objectInit ⟨#[0xb1]⟩ 1 none, Cond.fieldLink RX4 7 "SmokeLedger$Way" "as" "I", Cond.fieldLink RX4 13 "SmokeLedger$Way" "market" "Z", Cond.fieldLink RX4 17 "SmokeLedger$Way" "once" "Z", Cond.fieldLink RX4 20 "SmokeLedger$Way" "high" "Z", Cond.methodLink RX5 139 yX5_totalOf, Cond.instanceMethod yX5_totalOf, Cond.selects RX5 yX5_totalOf yX5_totalOf, Cond.code yX5_totalOf cX5_totalOf 13 (some .long), Cond.fieldLink RX5 19 "SmokeLedger" "rows" "LSmokeLedger$Rows;", Cond.fieldLink RX5 132 "SmokeLedger$Rows" "size" "I", Cond.fieldLink RX5 86 "SmokeLedger$Rows" "unit" "[I", Cond.fieldLink RX5 96 "SmokeLedger$Rows" "day" "[I", Cond.fieldLink RX5 10 "SmokeLedger" "holdings" "LSmokeLedger$Holdings;", Cond.fieldLink RX5 214 "SmokeLedger$Way" "once" "Z", Cond.constantLong RX5 146 (-9), Cond.methodLink RX5 143 yX2_isOfYear, Cond.instanceMethod yX2_isOfYear, Cond.selects RX2 yX2_isOfYear yX2_isOfYear, Cond.initialized RX2, Cond.code yX2_isOfYear cX2_isOfYear 3 (some .boolean), Cond.methodLink RX2 34 yX2_yearOf, Cond.instanceMethod yX2_yearOf]
def wsX5_part_r3 : List Cond := [Cond.selects RX2 yX2_yearOf yX2_yearOf, Cond.code yX2_yearOf cX2_yearOf 2 (some .int), Cond.fieldLink RX2 21 "SmokeLedger$Rows" "day" "[I", Cond.methodLink RX5 65 yX1_shareOn, Cond.instanceMethod yX1_shareOn, Cond.selects RX1 yX1_shareOn yX1_shareOn, Cond.initialized RX1, Cond.code yX1_shareOn cX1_shareOn 3 (some .long), Cond.methodLink RX1 55 yX1_spanOn, Cond.instanceMethod yX1_spanOn, Cond.selects RX1 yX1_spanOn yX1_spanOn, Cond.code yX1_spanOn cX1_spanOn 3 (some .int), Cond.fieldLink RX1 44 "SmokeLedger$Holdings" "size" "I", Cond.fieldLink RX1 21 "SmokeLedger$Holdings" "day" "[I", Cond.methodLink RX1 77 yX1_shareIn, Cond.instanceMethod yX1_shareIn, Cond.selects RX1 yX1_shareIn yX1_shareIn, Cond.code yX1_shareIn cX1_shareIn 3 (some .long), Cond.fieldLink RX1 27 "SmokeLedger$Holdings" "spanIsMade" "[Z", Cond.fieldLink RX1 31 "SmokeLedger$Holdings" "spanShares" "[J", Cond.methodLink RX1 102 yX1_makeSpan, Cond.instanceMethod yX1_makeSpan, Cond.selects RX1 yX1_makeSpan yX1_makeSpan, Cond.code yX1_makeSpan cX1_makeSpan 5 none]
def wsX5_part_r4 : List Cond := [Cond.fieldLink RX1 35 "SmokeLedger$Holdings" "matrix" "[I", Cond.fieldLink RX1 9 "SmokeLedger$Holdings" "holder" "[I", Cond.fieldLink RX1 15 "SmokeLedger$Holdings" "held" "[I", Cond.fieldLink RX1 18 "SmokeLedger$Holdings" "hundredths" "[I", Cond.fieldLink RX1 38 "SmokeLedger$Holdings" "reached" "[J", Cond.constantLong RX1 108 (1000000), Cond.methodLink RX1 87 arraycopyName, Cond.native arraycopyName, Cond.static arraycopyName, Cond.initialized "java/lang/System", Cond.methodLink RX1 93 yJ7_fill_53178, Cond.static yJ7_fill_53178, Cond.initialized RJ7, Cond.code yJ7_fill_53178 cJ7_fill_53178 4 none, Cond.methodLink RX1 105 yJ7_fill_d0a16, Cond.static yJ7_fill_d0a16, Cond.code yJ7_fill_d0a16 cJ7_fill_d0a16 5 none, Cond.methodLink RX1 110 yX1_goOneStep, Cond.instanceMethod yX1_goOneStep, Cond.selects RX1 yX1_goOneStep yX1_goOneStep, Cond.code yX1_goOneStep cX1_goOneStep 5 none, Cond.fieldLink RX1 41 "SmokeLedger$Holdings" "reachedNext" "[J", Cond.constantLong RX1 113 (100), Cond.methodLink RX5 102 yX5_isDouble]
def wsX5_part_r5 : List Cond := [Cond.instanceMethod yX5_isDouble, Cond.selects RX5 yX5_isDouble yX5_isDouble, Cond.code yX5_isDouble cX5_isDouble 4 (some .boolean), Cond.fieldLink RX5 99 "SmokeLedger$Rows" "seller" "[I", Cond.methodLink RX5 128 yX5_tonsOf, Cond.instanceMethod yX5_tonsOf, Cond.selects RX5 yX5_tonsOf yX5_tonsOf, Cond.code yX5_tonsOf cX5_tonsOf 6 (some .long), Cond.fieldLink RX5 201 "SmokeLedger$Way" "as" "I", Cond.fieldLink RX5 207 "SmokeLedger$Way" "high" "Z", Cond.fieldLink RX5 211 "SmokeLedger$Way" "market" "Z", Cond.fieldLink RX5 90 "SmokeLedger$Rows" "kind" "[I", Cond.fieldLink RX5 93 "SmokeLedger$Rows" "amount" "[I", Cond.methodLink RX5 204 yX5_versionOf, Cond.instanceMethod yX5_versionOf, Cond.selects RX5 yX5_versionOf yX5_versionOf, Cond.code yX5_versionOf cX5_versionOf 3 (some .int), Cond.methodLink RX5 198 yX2_yearOf, Cond.methodLink RX5 116 yX0_versionFor, Cond.instanceMethod yX0_versionFor, Cond.selects RX0 yX0_versionFor yX0_versionFor, Cond.initialized RX0, Cond.code yX0_versionFor cX0_versionFor 7 (some .int), Cond.fieldLink RX0 24 "SmokeLedger$Factors" "size" "I"]
def wsX5_part_r6 : List Cond := [Cond.fieldLink RX0 9 "SmokeLedger$Factors" "kind" "[I", Cond.fieldLink RX0 15 "SmokeLedger$Factors" "year" "[I", Cond.methodLink RX5 119 yX0_endOf, Cond.instanceMethod yX0_endOf, Cond.selects RX0 yX0_endOf yX0_endOf, Cond.code yX0_endOf cX0_endOf 3 (some .int), Cond.fieldLink RX0 21 "SmokeLedger$Factors" "high" "[I", Cond.fieldLink RX0 18 "SmokeLedger$Factors" "low" "[I", Cond.methodLink RX5 170 yX2_uncovered, Cond.instanceMethod yX2_uncovered, Cond.selects RX2 yX2_uncovered yX2_uncovered, Cond.code yX2_uncovered cX2_uncovered 2 (some .int), Cond.fieldLink RX2 18 "SmokeLedger$Rows" "amount" "[I", Cond.fieldLink RX2 27 "SmokeLedger$Rows" "covered" "[I"]
def wsX5_part : List Cond := .code yX5_part cX5_part 7 (some .long) :: ((wsX5_part_r1 ++ (wsX5_part_r2 ++ (wsX5_part_r3 ++ (wsX5_part_r4 ++ (wsX5_part_r5 ++ wsX5_part_r6))))) ++ wsX40 ++ wsX50 ++ wsX00 ++ wsX20 ++ wsX10)
def wsX5_doubles_r1 : List Cond := [Cond.fieldLink RX5 19 "SmokeLedger" "rows" "LSmokeLedger$Rows;", Cond.fieldLink RX5 132 "SmokeLedger$Rows" "size" "I", Cond.fieldLink RX5 96 "SmokeLedger$Rows" "day" "[I", Cond.methodLink RX5 108 yX5_isYear, Cond.static yX5_isYear, Cond.initialized RX5, Cond.code yX5_isYear cX5_isYear 1 (some .boolean), Cond.methodLink RX5 143 yX2_isOfYear, Cond.instanceMethod yX2_isOfYear, Cond.selects RX2 yX2_isOfYear yX2_isOfYear, Cond.initialized RX2, Cond.code yX2_isOfYear cX2_isOfYear 3 (some .boolean), Cond.methodLink RX2 34 yX2_yearOf, Cond.instanceMethod yX2_yearOf, Cond.selects RX2 yX2_yearOf yX2_yearOf, Cond.code yX2_yearOf cX2_yearOf 2 (some .int), Cond.fieldLink RX2 21 "SmokeLedger$Rows" "day" "[I", Cond.methodLink RX5 102 yX5_isDouble, Cond.instanceMethod yX5_isDouble, Cond.selects RX5 yX5_isDouble yX5_isDouble, Cond.code yX5_isDouble cX5_isDouble 4 (some .boolean), Cond.fieldLink RX5 99 "SmokeLedger$Rows" "seller" "[I", Cond.fieldLink RX5 10 "SmokeLedger" "holdings" "LSmokeLedger$Holdings;", Cond.fieldLink RX5 86 "SmokeLedger$Rows" "unit" "[I"]
def wsX5_doubles_r2 : List Cond := [Cond.methodLink RX5 65 yX1_shareOn, Cond.instanceMethod yX1_shareOn, Cond.selects RX1 yX1_shareOn yX1_shareOn, Cond.initialized RX1, Cond.code yX1_shareOn cX1_shareOn 3 (some .long), Cond.methodLink RX1 55 yX1_spanOn, Cond.instanceMethod yX1_spanOn, Cond.selects RX1 yX1_spanOn yX1_spanOn, Cond.code yX1_spanOn cX1_spanOn 3 (some .int), Cond.fieldLink RX1 44 "SmokeLedger$Holdings" "size" "I", Cond.fieldLink RX1 21 "SmokeLedger$Holdings" "day" "[I", Cond.methodLink RX1 77 yX1_shareIn, Cond.instanceMethod yX1_shareIn, Cond.selects RX1 yX1_shareIn yX1_shareIn, Cond.code yX1_shareIn cX1_shareIn 3 (some .long), Cond.fieldLink RX1 27 "SmokeLedger$Holdings" "spanIsMade" "[Z", Cond.fieldLink RX1 31 "SmokeLedger$Holdings" "spanShares" "[J", Cond.methodLink RX1 102 yX1_makeSpan, Cond.instanceMethod yX1_makeSpan, Cond.selects RX1 yX1_makeSpan yX1_makeSpan, Cond.code yX1_makeSpan cX1_makeSpan 5 none, Cond.fieldLink RX1 35 "SmokeLedger$Holdings" "matrix" "[I", Cond.fieldLink RX1 9 "SmokeLedger$Holdings" "holder" "[I", Cond.fieldLink RX1 15 "SmokeLedger$Holdings" "held" "[I"]
def wsX5_doubles_r3 : List Cond := [Cond.fieldLink RX1 18 "SmokeLedger$Holdings" "hundredths" "[I", Cond.fieldLink RX1 38 "SmokeLedger$Holdings" "reached" "[J", Cond.constantLong RX1 108 (1000000), Cond.methodLink RX1 87 arraycopyName, Cond.native arraycopyName, Cond.static arraycopyName, Cond.initialized "java/lang/System", Cond.methodLink RX1 93 yJ7_fill_53178, Cond.static yJ7_fill_53178, Cond.initialized RJ7, Cond.code yJ7_fill_53178 cJ7_fill_53178 4 none, Cond.methodLink RX1 105 yJ7_fill_d0a16, Cond.static yJ7_fill_d0a16, Cond.code yJ7_fill_d0a16 cJ7_fill_d0a16 5 none, Cond.methodLink RX1 110 yX1_goOneStep, Cond.instanceMethod yX1_goOneStep, Cond.selects RX1 yX1_goOneStep yX1_goOneStep, Cond.code yX1_goOneStep cX1_goOneStep 5 none, Cond.fieldLink RX1 41 "SmokeLedger$Holdings" "reachedNext" "[J", Cond.constantLong RX1 113 (100)]
def wsX5_doubles : List Cond := .code yX5_doubles cX5_doubles 4 (some .int) :: ((wsX5_doubles_r1 ++ (wsX5_doubles_r2 ++ wsX5_doubles_r3)) ++ wsX50 ++ wsX20 ++ wsX10)
def wsX5_cutPart : List Cond := .code yX5_cutPart cX5_cutPart 6 (some .long) :: ([])
def wsX5_onPath_r1 : List Cond := [Cond.classLink RX5 123 RX4, Cond.instantiable RX4 4, Cond.initialized RX4, Cond.constantLong RX5 146 (-9), Cond.constantLong RX5 148 (100), Cond.methodLink RX5 108 yX5_isYear, Cond.static yX5_isYear, Cond.initialized RX5, Cond.code yX5_isYear cX5_isYear 1 (some .boolean), Cond.methodLink RX5 45 yX5_isHundredths, Cond.static yX5_isHundredths, Cond.code yX5_isHundredths cX5_isHundredths 1 (some .boolean), Cond.methodLink RX5 125 yX4_init, Cond.instanceMethod yX4_init, Cond.code yX4_init cX4_init 5 none, Cond.methodLink RX4 1 objectInit, Cond.instanceMethod objectInit, Cond.code objectInit ⟨#[0xb1]⟩ 1 none, Cond.fieldLink RX4 7 "SmokeLedger$Way" "as" "I", Cond.fieldLink RX4 13 "SmokeLedger$Way" "market" "Z", Cond.fieldLink RX4 17 "SmokeLedger$Way" "once" "Z", Cond.fieldLink RX4 20 "SmokeLedger$Way" "high" "Z", Cond.methodLink RX5 139 yX5_totalOf, Cond.instanceMethod yX5_totalOf]
def wsX5_onPath_r2 : List Cond := [Cond.selects RX5 yX5_totalOf yX5_totalOf, Cond.code yX5_totalOf cX5_totalOf 13 (some .long), Cond.fieldLink RX5 19 "SmokeLedger" "rows" "LSmokeLedger$Rows;", Cond.fieldLink RX5 132 "SmokeLedger$Rows" "size" "I", Cond.fieldLink RX5 86 "SmokeLedger$Rows" "unit" "[I", Cond.fieldLink RX5 96 "SmokeLedger$Rows" "day" "[I", Cond.fieldLink RX5 10 "SmokeLedger" "holdings" "LSmokeLedger$Holdings;", Cond.fieldLink RX5 214 "SmokeLedger$Way" "once" "Z", Cond.methodLink RX5 143 yX2_isOfYear, Cond.instanceMethod yX2_isOfYear, Cond.selects RX2 yX2_isOfYear yX2_isOfYear, Cond.initialized RX2, Cond.code yX2_isOfYear cX2_isOfYear 3 (some .boolean), Cond.methodLink RX2 34 yX2_yearOf, Cond.instanceMethod yX2_yearOf, Cond.selects RX2 yX2_yearOf yX2_yearOf, Cond.code yX2_yearOf cX2_yearOf 2 (some .int), Cond.fieldLink RX2 21 "SmokeLedger$Rows" "day" "[I", Cond.methodLink RX5 65 yX1_shareOn, Cond.instanceMethod yX1_shareOn, Cond.selects RX1 yX1_shareOn yX1_shareOn, Cond.initialized RX1, Cond.code yX1_shareOn cX1_shareOn 3 (some .long), Cond.methodLink RX1 55 yX1_spanOn]
def wsX5_onPath_r3 : List Cond := [Cond.instanceMethod yX1_spanOn, Cond.selects RX1 yX1_spanOn yX1_spanOn, Cond.code yX1_spanOn cX1_spanOn 3 (some .int), Cond.fieldLink RX1 44 "SmokeLedger$Holdings" "size" "I", Cond.fieldLink RX1 21 "SmokeLedger$Holdings" "day" "[I", Cond.methodLink RX1 77 yX1_shareIn, Cond.instanceMethod yX1_shareIn, Cond.selects RX1 yX1_shareIn yX1_shareIn, Cond.code yX1_shareIn cX1_shareIn 3 (some .long), Cond.fieldLink RX1 27 "SmokeLedger$Holdings" "spanIsMade" "[Z", Cond.fieldLink RX1 31 "SmokeLedger$Holdings" "spanShares" "[J", Cond.methodLink RX1 102 yX1_makeSpan, Cond.instanceMethod yX1_makeSpan, Cond.selects RX1 yX1_makeSpan yX1_makeSpan, Cond.code yX1_makeSpan cX1_makeSpan 5 none, Cond.fieldLink RX1 35 "SmokeLedger$Holdings" "matrix" "[I", Cond.fieldLink RX1 9 "SmokeLedger$Holdings" "holder" "[I", Cond.fieldLink RX1 15 "SmokeLedger$Holdings" "held" "[I", Cond.fieldLink RX1 18 "SmokeLedger$Holdings" "hundredths" "[I", Cond.fieldLink RX1 38 "SmokeLedger$Holdings" "reached" "[J", Cond.constantLong RX1 108 (1000000), Cond.methodLink RX1 87 arraycopyName, Cond.native arraycopyName, Cond.static arraycopyName]
def wsX5_onPath_r4 : List Cond := [Cond.initialized "java/lang/System", Cond.methodLink RX1 93 yJ7_fill_53178, Cond.static yJ7_fill_53178, Cond.initialized RJ7, Cond.code yJ7_fill_53178 cJ7_fill_53178 4 none, Cond.methodLink RX1 105 yJ7_fill_d0a16, Cond.static yJ7_fill_d0a16, Cond.code yJ7_fill_d0a16 cJ7_fill_d0a16 5 none, Cond.methodLink RX1 110 yX1_goOneStep, Cond.instanceMethod yX1_goOneStep, Cond.selects RX1 yX1_goOneStep yX1_goOneStep, Cond.code yX1_goOneStep cX1_goOneStep 5 none, Cond.fieldLink RX1 41 "SmokeLedger$Holdings" "reachedNext" "[J", Cond.constantLong RX1 113 (100), Cond.methodLink RX5 102 yX5_isDouble, Cond.instanceMethod yX5_isDouble, Cond.selects RX5 yX5_isDouble yX5_isDouble, Cond.code yX5_isDouble cX5_isDouble 4 (some .boolean), Cond.fieldLink RX5 99 "SmokeLedger$Rows" "seller" "[I", Cond.methodLink RX5 128 yX5_tonsOf, Cond.instanceMethod yX5_tonsOf, Cond.selects RX5 yX5_tonsOf yX5_tonsOf, Cond.code yX5_tonsOf cX5_tonsOf 6 (some .long), Cond.fieldLink RX5 26 "SmokeLedger" "factors" "LSmokeLedger$Factors;"]
def wsX5_onPath_r5 : List Cond := [Cond.fieldLink RX5 201 "SmokeLedger$Way" "as" "I", Cond.fieldLink RX5 207 "SmokeLedger$Way" "high" "Z", Cond.fieldLink RX5 211 "SmokeLedger$Way" "market" "Z", Cond.fieldLink RX5 90 "SmokeLedger$Rows" "kind" "[I", Cond.fieldLink RX5 93 "SmokeLedger$Rows" "amount" "[I", Cond.methodLink RX5 204 yX5_versionOf, Cond.instanceMethod yX5_versionOf, Cond.selects RX5 yX5_versionOf yX5_versionOf, Cond.code yX5_versionOf cX5_versionOf 3 (some .int), Cond.methodLink RX5 198 yX2_yearOf, Cond.methodLink RX5 116 yX0_versionFor, Cond.instanceMethod yX0_versionFor, Cond.selects RX0 yX0_versionFor yX0_versionFor, Cond.initialized RX0, Cond.code yX0_versionFor cX0_versionFor 7 (some .int), Cond.fieldLink RX0 24 "SmokeLedger$Factors" "size" "I", Cond.fieldLink RX0 9 "SmokeLedger$Factors" "kind" "[I", Cond.fieldLink RX0 15 "SmokeLedger$Factors" "year" "[I", Cond.methodLink RX5 119 yX0_endOf, Cond.instanceMethod yX0_endOf, Cond.selects RX0 yX0_endOf yX0_endOf, Cond.code yX0_endOf cX0_endOf 3 (some .int), Cond.fieldLink RX0 21 "SmokeLedger$Factors" "high" "[I", Cond.fieldLink RX0 18 "SmokeLedger$Factors" "low" "[I"]
def wsX5_onPath_r6 : List Cond := [Cond.methodLink RX5 170 yX2_uncovered, Cond.instanceMethod yX2_uncovered, Cond.selects RX2 yX2_uncovered yX2_uncovered, Cond.code yX2_uncovered cX2_uncovered 2 (some .int), Cond.fieldLink RX2 18 "SmokeLedger$Rows" "amount" "[I", Cond.fieldLink RX2 27 "SmokeLedger$Rows" "covered" "[I", Cond.methodLink RX5 150 yX5_cutPart, Cond.static yX5_cutPart, Cond.code yX5_cutPart cX5_cutPart 6 (some .long)]
def wsX5_onPath : List Cond := .code yX5_onPath cX5_onPath 13 (some .int) :: ((wsX5_onPath_r1 ++ (wsX5_onPath_r2 ++ (wsX5_onPath_r3 ++ (wsX5_onPath_r4 ++ (wsX5_onPath_r5 ++ wsX5_onPath_r6))))) ++ wsX40 ++ wsX50 ++ wsX20 ++ wsX10 ++ wsX00)
def wsX5_issue_r1 : List Cond := [Cond.fieldLink RX5 33 "SmokeLedger" "serials" "LSmokeLedger$Serials;", Cond.methodLink RX5 41 yX5_isUnit, Cond.instanceMethod yX5_isUnit, Cond.selects RX5 yX5_isUnit yX5_isUnit, Cond.initialized RX5, Cond.code yX5_isUnit cX5_isUnit 2 (some .boolean), Cond.fieldLink RX5 37 "SmokeLedger" "units" "I", Cond.methodLink RX5 154 yX3_add, Cond.instanceMethod yX3_add, Cond.selects RX3 yX3_add yX3_add, Cond.initialized RX3, Cond.code yX3_add cX3_add 4 (some .int), Cond.fieldLink RX3 25 "SmokeLedger$Serials" "issued" "I", Cond.fieldLink RX3 21 "SmokeLedger$Serials" "size" "I", Cond.fieldLink RX3 15 "SmokeLedger$Serials" "owner" "[I", Cond.fieldLink RX3 18 "SmokeLedger$Serials" "row" "[I", Cond.methodLink RX3 28 yX3_insertRun, Cond.instanceMethod yX3_insertRun, Cond.selects RX3 yX3_insertRun yX3_insertRun, Cond.code yX3_insertRun cX3_insertRun 6 none, Cond.fieldLink RX3 9 "SmokeLedger$Serials" "first" "[I", Cond.methodLink RX3 67 arraycopyName, Cond.native arraycopyName, Cond.static arraycopyName]
def wsX5_issue_r2 : List Cond := [Cond.initialized "java/lang/System", Cond.methodLink RX3 61 yJ7_copyOf_59c91, Cond.static yJ7_copyOf_59c91, Cond.initialized RJ7, Cond.code yJ7_copyOf_59c91 cJ7_copyOf_59c91 3 (some (.array .int)), Cond.methodLink RJ7 316 ⟨"[I", "clone", "()Ljava/lang/Object;"⟩, Cond.sameMethod "[I" "java/lang/Object" "clone" "()Ljava/lang/Object;", Cond.native ⟨"java/lang/Object", "clone", "()Ljava/lang/Object;"⟩, Cond.instanceMethod ⟨"java/lang/Object", "clone", "()Ljava/lang/Object;"⟩, Cond.selects "[I" ⟨"[I", "clone", "()Ljava/lang/Object;"⟩ ⟨"java/lang/Object", "clone", "()Ljava/lang/Object;"⟩, Cond.classLink RJ7 317 "[I", Cond.arrayClass .int, Cond.methodLink RJ7 304 Lib.Math.min.name, Cond.static Lib.Math.min.name, Cond.initialized "java/lang/Math", Cond.code Lib.Math.min.name Lib.Math.min.code 2 (some .int), Cond.methodLink RJ7 150 arraycopyName]
def wsX5_issue : List Cond := .code yX5_issue cX5_issue 3 (some .int) :: ((wsX5_issue_r1 ++ wsX5_issue_r2) ++ wsX50 ++ wsX30)
def wsX5_move_r1 : List Cond := [Cond.fieldLink RX5 33 "SmokeLedger" "serials" "LSmokeLedger$Serials;", Cond.methodLink RX5 41 yX5_isUnit, Cond.instanceMethod yX5_isUnit, Cond.selects RX5 yX5_isUnit yX5_isUnit, Cond.initialized RX5, Cond.code yX5_isUnit cX5_isUnit 2 (some .boolean), Cond.fieldLink RX5 37 "SmokeLedger" "units" "I", Cond.methodLink RX5 157 yX3_areIssued, Cond.instanceMethod yX3_areIssued, Cond.selects RX3 yX3_areIssued yX3_areIssued, Cond.initialized RX3, Cond.code yX3_areIssued cX3_areIssued 3 (some .boolean), Cond.fieldLink RX3 25 "SmokeLedger$Serials" "issued" "I", Cond.methodLink RX5 160 yX3_usedAmong, Cond.instanceMethod yX3_usedAmong, Cond.selects RX3 yX3_usedAmong yX3_usedAmong, Cond.code yX3_usedAmong cX3_usedAmong 5 (some .int), Cond.fieldLink RX3 21 "SmokeLedger$Serials" "size" "I", Cond.fieldLink RX3 18 "SmokeLedger$Serials" "row" "[I", Cond.methodLink RX3 36 yX3_sharedWith, Cond.instanceMethod yX3_sharedWith, Cond.selects RX3 yX3_sharedWith yX3_sharedWith, Cond.code yX3_sharedWith cX3_sharedWith 4 (some .int), Cond.methodLink RX3 49 Lib.Math.min.name]
def wsX5_move_r2 : List Cond := [Cond.static Lib.Math.min.name, Cond.initialized "java/lang/Math", Cond.code Lib.Math.min.name Lib.Math.min.code 2 (some .int), Cond.fieldLink RX3 9 "SmokeLedger$Serials" "first" "[I", Cond.methodLink RX3 55 Lib.Math.max.name, Cond.static Lib.Math.max.name, Cond.code Lib.Math.max.name Lib.Math.max.code 2 (some .int), Cond.methodLink RX3 32 yX3_endOf, Cond.instanceMethod yX3_endOf, Cond.selects RX3 yX3_endOf yX3_endOf, Cond.code yX3_endOf cX3_endOf 2 (some .int), Cond.methodLink RX5 163 yX3_ownedAmong, Cond.instanceMethod yX3_ownedAmong, Cond.selects RX3 yX3_ownedAmong yX3_ownedAmong, Cond.code yX3_ownedAmong cX3_ownedAmong 6 (some .int), Cond.fieldLink RX3 15 "SmokeLedger$Serials" "owner" "[I", Cond.methodLink RX5 166 yX3_mark, Cond.instanceMethod yX3_mark, Cond.selects RX3 yX3_mark yX3_mark, Cond.code yX3_mark cX3_mark 8 none, Cond.methodLink RX3 43 yX3_splitBefore, Cond.instanceMethod yX3_splitBefore, Cond.selects RX3 yX3_splitBefore yX3_splitBefore, Cond.code yX3_splitBefore cX3_splitBefore 3 (some .int)]
def wsX5_move_r3 : List Cond := [Cond.methodLink RX3 58 yX3_runWith, Cond.instanceMethod yX3_runWith, Cond.selects RX3 yX3_runWith yX3_runWith, Cond.code yX3_runWith cX3_runWith 3 (some .int), Cond.methodLink RX3 28 yX3_insertRun, Cond.instanceMethod yX3_insertRun, Cond.selects RX3 yX3_insertRun yX3_insertRun, Cond.code yX3_insertRun cX3_insertRun 6 none, Cond.methodLink RX3 67 arraycopyName, Cond.native arraycopyName, Cond.static arraycopyName, Cond.initialized "java/lang/System", Cond.methodLink RX3 61 yJ7_copyOf_59c91, Cond.static yJ7_copyOf_59c91, Cond.initialized RJ7, Cond.code yJ7_copyOf_59c91 cJ7_copyOf_59c91 3 (some (.array .int)), Cond.methodLink RJ7 316 ⟨"[I", "clone", "()Ljava/lang/Object;"⟩, Cond.sameMethod "[I" "java/lang/Object" "clone" "()Ljava/lang/Object;", Cond.native ⟨"java/lang/Object", "clone", "()Ljava/lang/Object;"⟩, Cond.instanceMethod ⟨"java/lang/Object", "clone", "()Ljava/lang/Object;"⟩, Cond.selects "[I" ⟨"[I", "clone", "()Ljava/lang/Object;"⟩ ⟨"java/lang/Object", "clone", "()Ljava/lang/Object;"⟩, Cond.classLink RJ7 317 "[I", Cond.arrayClass .int, Cond.methodLink RJ7 304 Lib.Math.min.name]
def wsX5_move_r4 : List Cond := [Cond.methodLink RJ7 150 arraycopyName, Cond.methodLink RX3 46 yX3_joinAlike, Cond.instanceMethod yX3_joinAlike, Cond.selects RX3 yX3_joinAlike yX3_joinAlike, Cond.code yX3_joinAlike cX3_joinAlike 3 none]
def wsX5_move : List Cond := .code yX5_move cX5_move 5 (some .int) :: ((wsX5_move_r1 ++ (wsX5_move_r2 ++ (wsX5_move_r3 ++ wsX5_move_r4))) ++ wsX50 ++ wsX30)
def wsX5_use_r1 : List Cond := [Cond.fieldLink RX5 33 "SmokeLedger" "serials" "LSmokeLedger$Serials;", Cond.fieldLink RX5 19 "SmokeLedger" "rows" "LSmokeLedger$Rows;", Cond.fieldLink RX5 86 "SmokeLedger$Rows" "unit" "[I", Cond.fieldLink RX5 90 "SmokeLedger$Rows" "kind" "[I", Cond.fieldLink RX5 105 "SmokeLedger$Rows" "covered" "[I", Cond.methodLink RX5 83 yX5_isRow, Cond.instanceMethod yX5_isRow, Cond.selects RX5 yX5_isRow yX5_isRow, Cond.initialized RX5, Cond.code yX5_isRow cX5_isRow 2 (some .boolean), Cond.fieldLink RX5 132 "SmokeLedger$Rows" "size" "I", Cond.methodLink RX5 157 yX3_areIssued, Cond.instanceMethod yX3_areIssued, Cond.selects RX3 yX3_areIssued yX3_areIssued, Cond.initialized RX3, Cond.code yX3_areIssued cX3_areIssued 3 (some .boolean), Cond.fieldLink RX3 25 "SmokeLedger$Serials" "issued" "I", Cond.methodLink RX5 160 yX3_usedAmong, Cond.instanceMethod yX3_usedAmong, Cond.selects RX3 yX3_usedAmong yX3_usedAmong, Cond.code yX3_usedAmong cX3_usedAmong 5 (some .int), Cond.fieldLink RX3 21 "SmokeLedger$Serials" "size" "I", Cond.fieldLink RX3 18 "SmokeLedger$Serials" "row" "[I", Cond.methodLink RX3 36 yX3_sharedWith]
def wsX5_use_r2 : List Cond := [Cond.instanceMethod yX3_sharedWith, Cond.selects RX3 yX3_sharedWith yX3_sharedWith, Cond.code yX3_sharedWith cX3_sharedWith 4 (some .int), Cond.methodLink RX3 49 Lib.Math.min.name, Cond.static Lib.Math.min.name, Cond.initialized "java/lang/Math", Cond.code Lib.Math.min.name Lib.Math.min.code 2 (some .int), Cond.fieldLink RX3 9 "SmokeLedger$Serials" "first" "[I", Cond.methodLink RX3 55 Lib.Math.max.name, Cond.static Lib.Math.max.name, Cond.code Lib.Math.max.name Lib.Math.max.code 2 (some .int), Cond.methodLink RX3 32 yX3_endOf, Cond.instanceMethod yX3_endOf, Cond.selects RX3 yX3_endOf yX3_endOf, Cond.code yX3_endOf cX3_endOf 2 (some .int), Cond.methodLink RX5 163 yX3_ownedAmong, Cond.instanceMethod yX3_ownedAmong, Cond.selects RX3 yX3_ownedAmong yX3_ownedAmong, Cond.code yX3_ownedAmong cX3_ownedAmong 6 (some .int), Cond.fieldLink RX3 15 "SmokeLedger$Serials" "owner" "[I", Cond.methodLink RX5 170 yX2_uncovered, Cond.instanceMethod yX2_uncovered, Cond.selects RX2 yX2_uncovered yX2_uncovered, Cond.initialized RX2]
def wsX5_use_r3 : List Cond := [Cond.code yX2_uncovered cX2_uncovered 2 (some .int), Cond.fieldLink RX2 18 "SmokeLedger$Rows" "amount" "[I", Cond.fieldLink RX2 27 "SmokeLedger$Rows" "covered" "[I", Cond.methodLink RX5 166 yX3_mark, Cond.instanceMethod yX3_mark, Cond.selects RX3 yX3_mark yX3_mark, Cond.code yX3_mark cX3_mark 8 none, Cond.methodLink RX3 43 yX3_splitBefore, Cond.instanceMethod yX3_splitBefore, Cond.selects RX3 yX3_splitBefore yX3_splitBefore, Cond.code yX3_splitBefore cX3_splitBefore 3 (some .int), Cond.methodLink RX3 58 yX3_runWith, Cond.instanceMethod yX3_runWith, Cond.selects RX3 yX3_runWith yX3_runWith, Cond.code yX3_runWith cX3_runWith 3 (some .int), Cond.methodLink RX3 28 yX3_insertRun, Cond.instanceMethod yX3_insertRun, Cond.selects RX3 yX3_insertRun yX3_insertRun, Cond.code yX3_insertRun cX3_insertRun 6 none, Cond.methodLink RX3 67 arraycopyName, Cond.native arraycopyName, Cond.static arraycopyName, Cond.initialized "java/lang/System", Cond.methodLink RX3 61 yJ7_copyOf_59c91]
def wsX5_use_r4 : List Cond := [Cond.static yJ7_copyOf_59c91, Cond.initialized RJ7, Cond.code yJ7_copyOf_59c91 cJ7_copyOf_59c91 3 (some (.array .int)), Cond.methodLink RJ7 316 ⟨"[I", "clone", "()Ljava/lang/Object;"⟩, Cond.sameMethod "[I" "java/lang/Object" "clone" "()Ljava/lang/Object;", Cond.native ⟨"java/lang/Object", "clone", "()Ljava/lang/Object;"⟩, Cond.instanceMethod ⟨"java/lang/Object", "clone", "()Ljava/lang/Object;"⟩, Cond.selects "[I" ⟨"[I", "clone", "()Ljava/lang/Object;"⟩ ⟨"java/lang/Object", "clone", "()Ljava/lang/Object;"⟩, Cond.classLink RJ7 317 "[I", Cond.arrayClass .int, Cond.methodLink RJ7 304 Lib.Math.min.name, Cond.methodLink RJ7 150 arraycopyName, Cond.methodLink RX3 46 yX3_joinAlike, Cond.instanceMethod yX3_joinAlike, Cond.selects RX3 yX3_joinAlike yX3_joinAlike, Cond.code yX3_joinAlike cX3_joinAlike 3 none]
def wsX5_use : List Cond := .code yX5_use cX5_use 5 (some .int) :: ((wsX5_use_r1 ++ (wsX5_use_r2 ++ (wsX5_use_r3 ++ wsX5_use_r4))) ++ wsX50 ++ wsX20 ++ wsX30)
def wsX5_owner : List Cond := .code yX5_owner cX5_owner 2 (some .int) :: ([.fieldLink RX5 33 "SmokeLedger" "serials" "LSmokeLedger$Serials;", .fieldLink RX5 174 "SmokeLedger$Serials" "owner" "[I", .methodLink RX5 157 yX3_areIssued, .instanceMethod yX3_areIssued, .selects RX3 yX3_areIssued yX3_areIssued, .initialized RX3, .code yX3_areIssued cX3_areIssued 3 (some .boolean), .fieldLink RX3 25 "SmokeLedger$Serials" "issued" "I", .methodLink RX5 177 yX3_runWith, .instanceMethod yX3_runWith, .selects RX3 yX3_runWith yX3_runWith, .code yX3_runWith cX3_runWith 3 (some .int), .fieldLink RX3 21 "SmokeLedger$Serials" "size" "I", .fieldLink RX3 9 "SmokeLedger$Serials" "first" "[I"] ++ wsX50 ++ wsX30)
def wsX5_usedFor : List Cond := .code yX5_usedFor cX5_usedFor 2 (some .int) :: ([.fieldLink RX5 33 "SmokeLedger" "serials" "LSmokeLedger$Serials;", .fieldLink RX5 180 "SmokeLedger$Serials" "row" "[I", .methodLink RX5 157 yX3_areIssued, .instanceMethod yX3_areIssued, .selects RX3 yX3_areIssued yX3_areIssued, .initialized RX3, .code yX3_areIssued cX3_areIssued 3 (some .boolean), .fieldLink RX3 25 "SmokeLedger$Serials" "issued" "I", .methodLink RX5 177 yX3_runWith, .instanceMethod yX3_runWith, .selects RX3 yX3_runWith yX3_runWith, .code yX3_runWith cX3_runWith 3 (some .int), .fieldLink RX3 21 "SmokeLedger$Serials" "size" "I", .fieldLink RX3 9 "SmokeLedger$Serials" "first" "[I"] ++ wsX50 ++ wsX30)
def wsX5_free_r1 : List Cond := [Cond.fieldLink RX5 33 "SmokeLedger" "serials" "LSmokeLedger$Serials;", Cond.methodLink RX5 41 yX5_isUnit, Cond.instanceMethod yX5_isUnit, Cond.selects RX5 yX5_isUnit yX5_isUnit, Cond.initialized RX5, Cond.code yX5_isUnit cX5_isUnit 2 (some .boolean), Cond.fieldLink RX5 37 "SmokeLedger" "units" "I", Cond.methodLink RX5 183 yX3_unusedOf, Cond.instanceMethod yX3_unusedOf, Cond.selects RX3 yX3_unusedOf yX3_unusedOf, Cond.initialized RX3, Cond.code yX3_unusedOf cX3_unusedOf 4 (some .int), Cond.fieldLink RX3 21 "SmokeLedger$Serials" "size" "I", Cond.fieldLink RX3 15 "SmokeLedger$Serials" "owner" "[I", Cond.fieldLink RX3 18 "SmokeLedger$Serials" "row" "[I", Cond.methodLink RX3 40 yX3_lengthOf, Cond.instanceMethod yX3_lengthOf, Cond.selects RX3 yX3_lengthOf yX3_lengthOf, Cond.code yX3_lengthOf cX3_lengthOf 2 (some .int), Cond.fieldLink RX3 9 "SmokeLedger$Serials" "first" "[I", Cond.methodLink RX3 32 yX3_endOf, Cond.instanceMethod yX3_endOf, Cond.selects RX3 yX3_endOf yX3_endOf, Cond.code yX3_endOf cX3_endOf 2 (some .int)]
def wsX5_free_r2 : List Cond := [Cond.fieldLink RX3 25 "SmokeLedger$Serials" "issued" "I"]
def wsX5_free : List Cond := .code yX5_free cX5_free 2 (some .int) :: ((wsX5_free_r1 ++ wsX5_free_r2) ++ wsX50 ++ wsX30)
def wsX5_runs : List Cond := .code yX5_runs cX5_runs 1 (some .int) :: ([.fieldLink RX5 33 "SmokeLedger" "serials" "LSmokeLedger$Serials;", .fieldLink RX5 186 "SmokeLedger$Serials" "size" "I"] ++ wsX50 ++ wsX30)
def wsX5_run : List Cond := .code yX5_run cX5_run 3 (some .int) :: ([.fieldLink RX5 33 "SmokeLedger" "serials" "LSmokeLedger$Serials;", .fieldLink RX5 186 "SmokeLedger$Serials" "size" "I", .fieldLink RX5 187 "SmokeLedger$Serials" "first" "[I", .fieldLink RX5 174 "SmokeLedger$Serials" "owner" "[I", .fieldLink RX5 180 "SmokeLedger$Serials" "row" "[I", .methodLink RX5 190 yX3_lengthOf, .instanceMethod yX3_lengthOf, .selects RX3 yX3_lengthOf yX3_lengthOf, .initialized RX3, .code yX3_lengthOf cX3_lengthOf 2 (some .int), .fieldLink RX3 9 "SmokeLedger$Serials" "first" "[I", .methodLink RX3 32 yX3_endOf, .instanceMethod yX3_endOf, .selects RX3 yX3_endOf yX3_endOf, .code yX3_endOf cX3_endOf 2 (some .int), .fieldLink RX3 21 "SmokeLedger$Serials" "size" "I", .fieldLink RX3 25 "SmokeLedger$Serials" "issued" "I"] ++ wsX50 ++ wsX30)
def wsX5_count : List Cond := .code yX5_count cX5_count 2 (some .int) :: ([.fieldLink RX5 37 "SmokeLedger" "units" "I", .fieldLink RX5 19 "SmokeLedger" "rows" "LSmokeLedger$Rows;", .fieldLink RX5 132 "SmokeLedger$Rows" "size" "I", .fieldLink RX5 26 "SmokeLedger" "factors" "LSmokeLedger$Factors;", .fieldLink RX5 193 "SmokeLedger$Factors" "size" "I", .fieldLink RX5 33 "SmokeLedger" "serials" "LSmokeLedger$Serials;", .fieldLink RX5 194 "SmokeLedger$Serials" "issued" "I", .fieldLink RX5 10 "SmokeLedger" "holdings" "LSmokeLedger$Holdings;", .fieldLink RX5 197 "SmokeLedger$Holdings" "size" "I"] ++ wsX50 ++ wsX20 ++ wsX00 ++ wsX30 ++ wsX10)
def wsX6_init_r1 : List Cond := [Cond.methodLink RX6 1 objectInit, Cond.instanceMethod objectInit, Cond.code objectInit ⟨#[0xb1]⟩ 1 none, Cond.fieldLink RX6 7 "SmokeLedgerModel" "units" "I", Cond.arrayClass .int, Cond.fieldLink RX6 13 "SmokeLedgerModel" "who" "[I", Cond.fieldLink RX6 17 "SmokeLedgerModel" "whom" "[I", Cond.fieldLink RX6 20 "SmokeLedgerModel" "part" "[I", Cond.fieldLink RX6 23 "SmokeLedgerModel" "since" "[I", Cond.fieldLink RX6 26 "SmokeLedgerModel" "unitOf" "[I", Cond.fieldLink RX6 29 "SmokeLedgerModel" "kind" "[I", Cond.fieldLink RX6 32 "SmokeLedgerModel" "amount" "[I", Cond.fieldLink RX6 35 "SmokeLedgerModel" "day" "[I", Cond.fieldLink RX6 38 "SmokeLedgerModel" "seller" "[I", Cond.fieldLink RX6 41 "SmokeLedgerModel" "covered" "[I", Cond.fieldLink RX6 44 "SmokeLedgerModel" "ofKind" "[I", Cond.fieldLink RX6 47 "SmokeLedgerModel" "ofYear" "[I", Cond.fieldLink RX6 50 "SmokeLedgerModel" "low" "[I", Cond.fieldLink RX6 53 "SmokeLedgerModel" "high" "[I", Cond.fieldLink RX6 56 "SmokeLedgerModel" "owner" "[I", Cond.fieldLink RX6 59 "SmokeLedgerModel" "used" "[I", Cond.fieldLink RX6 62 "SmokeLedgerModel" "held" "[I", Cond.arrayClass .long, Cond.fieldLink RX6 65 "SmokeLedgerModel" "share" "[J"]
def wsX6_init_r2 : List Cond := [Cond.arrayClass .boolean, Cond.fieldLink RX6 69 "SmokeLedgerModel" "edge" "[Z", Cond.fieldLink RX6 73 "SmokeLedgerModel" "deep" "[I"]
def wsX6_init : List Cond := .code yX6_init cX6_init 1 none :: ((wsX6_init_r1 ++ wsX6_init_r2) ++ wsX60)
def wsX6_in : List Cond := .code yX6_in cX6_in 6 (some .boolean) :: ([])
def wsX6_noUnit : List Cond := .code yX6_noUnit cX6_noUnit 2 (some .boolean) :: ([.fieldLink RX6 7 "SmokeLedgerModel" "units" "I", .methodLink RX6 79 yX6_in, .static yX6_in, .initialized RX6, .code yX6_in cX6_in 6 (some .boolean)] ++ wsX60)
def wsX6_noDay : List Cond := .code yX6_noDay cX6_noDay 1 (some .boolean) :: ([.constantLong RX6 83 (3649), .methodLink RX6 79 yX6_in, .static yX6_in, .initialized RX6, .code yX6_in cX6_in 6 (some .boolean)])
def wsX6_noYear : List Cond := .code yX6_noYear cX6_noYear 1 (some .boolean) :: ([.constantLong RX6 85 (9), .methodLink RX6 79 yX6_in, .static yX6_in, .initialized RX6, .code yX6_in cX6_in 6 (some .boolean)])
def wsX6_noAs : List Cond := .code yX6_noAs cX6_noAs 2 (some .boolean) :: ([.fieldLink RX6 87 "SmokeLedgerModel" "versions" "I", .methodLink RX6 79 yX6_in, .static yX6_in, .initialized RX6, .code yX6_in cX6_in 6 (some .boolean)] ++ wsX60)
def wsX6_noRow : List Cond := .code yX6_noRow cX6_noRow 2 (some .boolean) :: ([.fieldLink RX6 90 "SmokeLedgerModel" "rows" "I", .methodLink RX6 79 yX6_in, .static yX6_in, .initialized RX6, .code yX6_in cX6_in 6 (some .boolean)] ++ wsX60)
def wsX6_unit : List Cond := .code yX6_unit cX6_unit 1 (some .int) :: ([.fieldLink RX6 76 "SmokeLedgerModel" "thrown" "I", .fieldLink RX6 7 "SmokeLedgerModel" "units" "I"] ++ wsX60)
def wsX6_lay : List Cond := .code yX6_lay cX6_lay 6 none :: ([.fieldLink RX6 62 "SmokeLedgerModel" "held" "[I", .fieldLink RX6 73 "SmokeLedgerModel" "deep" "[I", .fieldLink RX6 69 "SmokeLedgerModel" "edge" "[Z", .fieldLink RX6 93 "SmokeLedgerModel" "holdings" "I", .fieldLink RX6 13 "SmokeLedgerModel" "who" "[I", .fieldLink RX6 17 "SmokeLedgerModel" "whom" "[I", .fieldLink RX6 23 "SmokeLedgerModel" "since" "[I", .fieldLink RX6 20 "SmokeLedgerModel" "part" "[I"] ++ wsX60)
def wsX6_shares : List Cond := .code yX6_shares cX6_shares 5 none :: ([.fieldLink RX6 65 "SmokeLedgerModel" "share" "[J", .constantLong RX6 100 (1000000), .constantLong RX6 102 (10000), .fieldLink RX6 62 "SmokeLedgerModel" "held" "[I", .constantLong RX6 104 (100), .methodLink RX6 96 yX6_lay, .instanceMethod yX6_lay, .selects RX6 yX6_lay yX6_lay, .initialized RX6, .code yX6_lay cX6_lay 6 none, .fieldLink RX6 73 "SmokeLedgerModel" "deep" "[I", .fieldLink RX6 69 "SmokeLedgerModel" "edge" "[Z", .fieldLink RX6 93 "SmokeLedgerModel" "holdings" "I", .fieldLink RX6 13 "SmokeLedgerModel" "who" "[I", .fieldLink RX6 17 "SmokeLedgerModel" "whom" "[I", .fieldLink RX6 23 "SmokeLedgerModel" "since" "[I", .fieldLink RX6 20 "SmokeLedgerModel" "part" "[I"] ++ wsX60)
def wsX6_mayHold : List Cond := .code yX6_mayHold cX6_mayHold 7 (some .boolean) :: ([.fieldLink RX6 69 "SmokeLedgerModel" "edge" "[Z", .fieldLink RX6 93 "SmokeLedgerModel" "holdings" "I", .fieldLink RX6 13 "SmokeLedgerModel" "who" "[I", .fieldLink RX6 17 "SmokeLedgerModel" "whom" "[I", .fieldLink RX6 20 "SmokeLedgerModel" "part" "[I", .fieldLink RX6 73 "SmokeLedgerModel" "deep" "[I"] ++ wsX60)
def wsX6_hold_r1 : List Cond := [Cond.fieldLink RX6 76 "SmokeLedgerModel" "thrown" "I", Cond.constantLong RX6 104 (100), Cond.fieldLink RX6 62 "SmokeLedgerModel" "held" "[I", Cond.fieldLink RX6 93 "SmokeLedgerModel" "holdings" "I", Cond.fieldLink RX6 13 "SmokeLedgerModel" "who" "[I", Cond.fieldLink RX6 17 "SmokeLedgerModel" "whom" "[I", Cond.fieldLink RX6 23 "SmokeLedgerModel" "since" "[I", Cond.fieldLink RX6 20 "SmokeLedgerModel" "part" "[I", Cond.methodLink RX6 106 yX6_noUnit, Cond.instanceMethod yX6_noUnit, Cond.selects RX6 yX6_noUnit yX6_noUnit, Cond.initialized RX6, Cond.code yX6_noUnit cX6_noUnit 2 (some .boolean), Cond.fieldLink RX6 7 "SmokeLedgerModel" "units" "I", Cond.methodLink RX6 79 yX6_in, Cond.static yX6_in, Cond.code yX6_in cX6_in 6 (some .boolean), Cond.methodLink RX6 110 yX6_noDay, Cond.static yX6_noDay, Cond.code yX6_noDay cX6_noDay 1 (some .boolean), Cond.constantLong RX6 83 (3649), Cond.methodLink RX6 113 yX6_mayHold, Cond.instanceMethod yX6_mayHold, Cond.selects RX6 yX6_mayHold yX6_mayHold]
def wsX6_hold_r2 : List Cond := [Cond.code yX6_mayHold cX6_mayHold 7 (some .boolean), Cond.fieldLink RX6 69 "SmokeLedgerModel" "edge" "[Z", Cond.fieldLink RX6 73 "SmokeLedgerModel" "deep" "[I", Cond.methodLink RX6 96 yX6_lay, Cond.instanceMethod yX6_lay, Cond.selects RX6 yX6_lay yX6_lay, Cond.code yX6_lay cX6_lay 6 none]
def wsX6_hold : List Cond := .code yX6_hold cX6_hold 8 (some .int) :: ((wsX6_hold_r1 ++ wsX6_hold_r2) ++ wsX60)
def wsX6_holds_r1 : List Cond := [Cond.fieldLink RX6 76 "SmokeLedgerModel" "thrown" "I", Cond.fieldLink RX6 62 "SmokeLedgerModel" "held" "[I", Cond.methodLink RX6 106 yX6_noUnit, Cond.instanceMethod yX6_noUnit, Cond.selects RX6 yX6_noUnit yX6_noUnit, Cond.initialized RX6, Cond.code yX6_noUnit cX6_noUnit 2 (some .boolean), Cond.fieldLink RX6 7 "SmokeLedgerModel" "units" "I", Cond.methodLink RX6 79 yX6_in, Cond.static yX6_in, Cond.code yX6_in cX6_in 6 (some .boolean), Cond.methodLink RX6 110 yX6_noDay, Cond.static yX6_noDay, Cond.code yX6_noDay cX6_noDay 1 (some .boolean), Cond.constantLong RX6 83 (3649), Cond.methodLink RX6 96 yX6_lay, Cond.instanceMethod yX6_lay, Cond.selects RX6 yX6_lay yX6_lay, Cond.code yX6_lay cX6_lay 6 none, Cond.fieldLink RX6 73 "SmokeLedgerModel" "deep" "[I", Cond.fieldLink RX6 69 "SmokeLedgerModel" "edge" "[Z", Cond.fieldLink RX6 93 "SmokeLedgerModel" "holdings" "I", Cond.fieldLink RX6 13 "SmokeLedgerModel" "who" "[I", Cond.fieldLink RX6 17 "SmokeLedgerModel" "whom" "[I"]
def wsX6_holds_r2 : List Cond := [Cond.fieldLink RX6 23 "SmokeLedgerModel" "since" "[I", Cond.fieldLink RX6 20 "SmokeLedgerModel" "part" "[I"]
def wsX6_holds : List Cond := .code yX6_holds cX6_holds 4 (some .int) :: ((wsX6_holds_r1 ++ wsX6_holds_r2) ++ wsX60)
def wsX6_share_r1 : List Cond := [Cond.fieldLink RX6 76 "SmokeLedgerModel" "thrown" "I", Cond.constantLong RX6 117 (-1), Cond.constantLong RX6 119 (-2), Cond.fieldLink RX6 65 "SmokeLedgerModel" "share" "[J", Cond.methodLink RX6 106 yX6_noUnit, Cond.instanceMethod yX6_noUnit, Cond.selects RX6 yX6_noUnit yX6_noUnit, Cond.initialized RX6, Cond.code yX6_noUnit cX6_noUnit 2 (some .boolean), Cond.fieldLink RX6 7 "SmokeLedgerModel" "units" "I", Cond.methodLink RX6 79 yX6_in, Cond.static yX6_in, Cond.code yX6_in cX6_in 6 (some .boolean), Cond.methodLink RX6 110 yX6_noDay, Cond.static yX6_noDay, Cond.code yX6_noDay cX6_noDay 1 (some .boolean), Cond.constantLong RX6 83 (3649), Cond.methodLink RX6 121 yX6_shares, Cond.instanceMethod yX6_shares, Cond.selects RX6 yX6_shares yX6_shares, Cond.code yX6_shares cX6_shares 5 none, Cond.constantLong RX6 100 (1000000), Cond.constantLong RX6 102 (10000), Cond.fieldLink RX6 62 "SmokeLedgerModel" "held" "[I"]
def wsX6_share_r2 : List Cond := [Cond.constantLong RX6 104 (100), Cond.methodLink RX6 96 yX6_lay, Cond.instanceMethod yX6_lay, Cond.selects RX6 yX6_lay yX6_lay, Cond.code yX6_lay cX6_lay 6 none, Cond.fieldLink RX6 73 "SmokeLedgerModel" "deep" "[I", Cond.fieldLink RX6 69 "SmokeLedgerModel" "edge" "[Z", Cond.fieldLink RX6 93 "SmokeLedgerModel" "holdings" "I", Cond.fieldLink RX6 13 "SmokeLedgerModel" "who" "[I", Cond.fieldLink RX6 17 "SmokeLedgerModel" "whom" "[I", Cond.fieldLink RX6 23 "SmokeLedgerModel" "since" "[I", Cond.fieldLink RX6 20 "SmokeLedgerModel" "part" "[I"]
def wsX6_share : List Cond := .code yX6_share cX6_share 3 (some .long) :: ((wsX6_share_r1 ++ wsX6_share_r2) ++ wsX60)
def wsX6_days_r1 : List Cond := [Cond.fieldLink RX6 76 "SmokeLedgerModel" "thrown" "I", Cond.constantLong RX6 117 (-1), Cond.constantLong RX6 119 (-2), Cond.fieldLink RX6 93 "SmokeLedgerModel" "holdings" "I", Cond.fieldLink RX6 23 "SmokeLedgerModel" "since" "[I", Cond.fieldLink RX6 65 "SmokeLedgerModel" "share" "[J", Cond.methodLink RX6 106 yX6_noUnit, Cond.instanceMethod yX6_noUnit, Cond.selects RX6 yX6_noUnit yX6_noUnit, Cond.initialized RX6, Cond.code yX6_noUnit cX6_noUnit 2 (some .boolean), Cond.fieldLink RX6 7 "SmokeLedgerModel" "units" "I", Cond.methodLink RX6 79 yX6_in, Cond.static yX6_in, Cond.code yX6_in cX6_in 6 (some .boolean), Cond.methodLink RX6 110 yX6_noDay, Cond.static yX6_noDay, Cond.code yX6_noDay cX6_noDay 1 (some .boolean), Cond.constantLong RX6 83 (3649), Cond.methodLink RX6 121 yX6_shares, Cond.instanceMethod yX6_shares, Cond.selects RX6 yX6_shares yX6_shares, Cond.code yX6_shares cX6_shares 5 none, Cond.constantLong RX6 100 (1000000)]
def wsX6_days_r2 : List Cond := [Cond.constantLong RX6 102 (10000), Cond.fieldLink RX6 62 "SmokeLedgerModel" "held" "[I", Cond.constantLong RX6 104 (100), Cond.methodLink RX6 96 yX6_lay, Cond.instanceMethod yX6_lay, Cond.selects RX6 yX6_lay yX6_lay, Cond.code yX6_lay cX6_lay 6 none, Cond.fieldLink RX6 73 "SmokeLedgerModel" "deep" "[I", Cond.fieldLink RX6 69 "SmokeLedgerModel" "edge" "[Z", Cond.fieldLink RX6 13 "SmokeLedgerModel" "who" "[I", Cond.fieldLink RX6 17 "SmokeLedgerModel" "whom" "[I", Cond.fieldLink RX6 20 "SmokeLedgerModel" "part" "[I"]
def wsX6_days : List Cond := .code yX6_days cX6_days 9 (some .long) :: ((wsX6_days_r1 ++ wsX6_days_r2) ++ wsX60)
def wsX6_row : List Cond := .code yX6_row cX6_row 6 (some .int) :: ([.fieldLink RX6 76 "SmokeLedgerModel" "thrown" "I", .constantLong RX6 124 (3), .constantLong RX6 126 (100000), .fieldLink RX6 90 "SmokeLedgerModel" "rows" "I", .fieldLink RX6 26 "SmokeLedgerModel" "unitOf" "[I", .fieldLink RX6 29 "SmokeLedgerModel" "kind" "[I", .fieldLink RX6 32 "SmokeLedgerModel" "amount" "[I", .fieldLink RX6 35 "SmokeLedgerModel" "day" "[I", .fieldLink RX6 38 "SmokeLedgerModel" "seller" "[I", .methodLink RX6 106 yX6_noUnit, .instanceMethod yX6_noUnit, .selects RX6 yX6_noUnit yX6_noUnit, .initialized RX6, .code yX6_noUnit cX6_noUnit 2 (some .boolean), .fieldLink RX6 7 "SmokeLedgerModel" "units" "I", .methodLink RX6 79 yX6_in, .static yX6_in, .code yX6_in cX6_in 6 (some .boolean), .methodLink RX6 110 yX6_noDay, .static yX6_noDay, .code yX6_noDay cX6_noDay 1 (some .boolean), .constantLong RX6 83 (3649)] ++ wsX60)
def wsX6_isDouble : List Cond := .code yX6_isDouble cX6_isDouble 3 (some .boolean) :: ([.fieldLink RX6 38 "SmokeLedgerModel" "seller" "[I", .fieldLink RX6 65 "SmokeLedgerModel" "share" "[J", .fieldLink RX6 26 "SmokeLedgerModel" "unitOf" "[I", .methodLink RX6 121 yX6_shares, .instanceMethod yX6_shares, .selects RX6 yX6_shares yX6_shares, .initialized RX6, .code yX6_shares cX6_shares 5 none, .constantLong RX6 100 (1000000), .constantLong RX6 102 (10000), .fieldLink RX6 62 "SmokeLedgerModel" "held" "[I", .constantLong RX6 104 (100), .methodLink RX6 96 yX6_lay, .instanceMethod yX6_lay, .selects RX6 yX6_lay yX6_lay, .code yX6_lay cX6_lay 6 none, .fieldLink RX6 73 "SmokeLedgerModel" "deep" "[I", .fieldLink RX6 69 "SmokeLedgerModel" "edge" "[Z", .fieldLink RX6 93 "SmokeLedgerModel" "holdings" "I", .fieldLink RX6 13 "SmokeLedgerModel" "who" "[I", .fieldLink RX6 17 "SmokeLedgerModel" "whom" "[I", .fieldLink RX6 23 "SmokeLedgerModel" "since" "[I", .fieldLink RX6 20 "SmokeLedgerModel" "part" "[I"] ++ wsX60)
def wsX6_told_r1 : List Cond := [Cond.fieldLink RX6 76 "SmokeLedgerModel" "thrown" "I", Cond.fieldLink RX6 26 "SmokeLedgerModel" "unitOf" "[I", Cond.fieldLink RX6 29 "SmokeLedgerModel" "kind" "[I", Cond.fieldLink RX6 32 "SmokeLedgerModel" "amount" "[I", Cond.fieldLink RX6 35 "SmokeLedgerModel" "day" "[I", Cond.fieldLink RX6 38 "SmokeLedgerModel" "seller" "[I", Cond.fieldLink RX6 41 "SmokeLedgerModel" "covered" "[I", Cond.methodLink RX6 128 yX6_noRow, Cond.instanceMethod yX6_noRow, Cond.selects RX6 yX6_noRow yX6_noRow, Cond.initialized RX6, Cond.code yX6_noRow cX6_noRow 2 (some .boolean), Cond.fieldLink RX6 90 "SmokeLedgerModel" "rows" "I", Cond.methodLink RX6 79 yX6_in, Cond.static yX6_in, Cond.code yX6_in cX6_in 6 (some .boolean), Cond.methodLink RX6 131 yX6_isDouble, Cond.instanceMethod yX6_isDouble, Cond.selects RX6 yX6_isDouble yX6_isDouble, Cond.code yX6_isDouble cX6_isDouble 3 (some .boolean), Cond.fieldLink RX6 65 "SmokeLedgerModel" "share" "[J", Cond.methodLink RX6 121 yX6_shares, Cond.instanceMethod yX6_shares, Cond.selects RX6 yX6_shares yX6_shares]
def wsX6_told_r2 : List Cond := [Cond.code yX6_shares cX6_shares 5 none, Cond.constantLong RX6 100 (1000000), Cond.constantLong RX6 102 (10000), Cond.fieldLink RX6 62 "SmokeLedgerModel" "held" "[I", Cond.constantLong RX6 104 (100), Cond.methodLink RX6 96 yX6_lay, Cond.instanceMethod yX6_lay, Cond.selects RX6 yX6_lay yX6_lay, Cond.code yX6_lay cX6_lay 6 none, Cond.fieldLink RX6 73 "SmokeLedgerModel" "deep" "[I", Cond.fieldLink RX6 69 "SmokeLedgerModel" "edge" "[Z", Cond.fieldLink RX6 93 "SmokeLedgerModel" "holdings" "I", Cond.fieldLink RX6 13 "SmokeLedgerModel" "who" "[I", Cond.fieldLink RX6 17 "SmokeLedgerModel" "whom" "[I", Cond.fieldLink RX6 23 "SmokeLedgerModel" "since" "[I", Cond.fieldLink RX6 20 "SmokeLedgerModel" "part" "[I"]
def wsX6_told : List Cond := .code yX6_told cX6_told 3 (some .int) :: ((wsX6_told_r1 ++ wsX6_told_r2) ++ wsX60)
def wsX6_factor : List Cond := .code yX6_factor cX6_factor 5 (some .int) :: ([.fieldLink RX6 76 "SmokeLedgerModel" "thrown" "I", .constantLong RX6 124 (3), .fieldLink RX6 87 "SmokeLedgerModel" "versions" "I", .fieldLink RX6 44 "SmokeLedgerModel" "ofKind" "[I", .fieldLink RX6 47 "SmokeLedgerModel" "ofYear" "[I", .fieldLink RX6 50 "SmokeLedgerModel" "low" "[I", .fieldLink RX6 53 "SmokeLedgerModel" "high" "[I", .methodLink RX6 79 yX6_in, .static yX6_in, .initialized RX6, .code yX6_in cX6_in 6 (some .boolean), .methodLink RX6 134 yX6_noYear, .static yX6_noYear, .code yX6_noYear cX6_noYear 1 (some .boolean), .constantLong RX6 85 (9)] ++ wsX60)
def wsX6_versionOf : List Cond := .code yX6_versionOf cX6_versionOf 6 (some .int) :: ([.fieldLink RX6 87 "SmokeLedgerModel" "versions" "I", .fieldLink RX6 44 "SmokeLedgerModel" "ofKind" "[I", .fieldLink RX6 47 "SmokeLedgerModel" "ofYear" "[I"] ++ wsX60)
def wsX6_factorOf : List Cond := .code yX6_factorOf cX6_factorOf 6 (some .int) :: ([.fieldLink RX6 53 "SmokeLedgerModel" "high" "[I", .fieldLink RX6 50 "SmokeLedgerModel" "low" "[I", .methodLink RX6 137 yX6_versionOf, .instanceMethod yX6_versionOf, .selects RX6 yX6_versionOf yX6_versionOf, .initialized RX6, .code yX6_versionOf cX6_versionOf 6 (some .int), .fieldLink RX6 87 "SmokeLedgerModel" "versions" "I", .fieldLink RX6 44 "SmokeLedgerModel" "ofKind" "[I", .fieldLink RX6 47 "SmokeLedgerModel" "ofYear" "[I"] ++ wsX60)
def wsX6_factorAs_r1 : List Cond := [Cond.fieldLink RX6 76 "SmokeLedgerModel" "thrown" "I", Cond.constantLong RX6 124 (3), Cond.methodLink RX6 141 yX6_noAs, Cond.instanceMethod yX6_noAs, Cond.selects RX6 yX6_noAs yX6_noAs, Cond.initialized RX6, Cond.code yX6_noAs cX6_noAs 2 (some .boolean), Cond.fieldLink RX6 87 "SmokeLedgerModel" "versions" "I", Cond.methodLink RX6 79 yX6_in, Cond.static yX6_in, Cond.code yX6_in cX6_in 6 (some .boolean), Cond.methodLink RX6 134 yX6_noYear, Cond.static yX6_noYear, Cond.code yX6_noYear cX6_noYear 1 (some .boolean), Cond.constantLong RX6 85 (9), Cond.methodLink RX6 144 yX6_factorOf, Cond.instanceMethod yX6_factorOf, Cond.selects RX6 yX6_factorOf yX6_factorOf, Cond.code yX6_factorOf cX6_factorOf 6 (some .int), Cond.fieldLink RX6 53 "SmokeLedgerModel" "high" "[I", Cond.fieldLink RX6 50 "SmokeLedgerModel" "low" "[I", Cond.methodLink RX6 137 yX6_versionOf, Cond.instanceMethod yX6_versionOf, Cond.selects RX6 yX6_versionOf yX6_versionOf]
def wsX6_factorAs_r2 : List Cond := [Cond.code yX6_versionOf cX6_versionOf 6 (some .int), Cond.fieldLink RX6 44 "SmokeLedgerModel" "ofKind" "[I", Cond.fieldLink RX6 47 "SmokeLedgerModel" "ofYear" "[I"]
def wsX6_factorAs : List Cond := .code yX6_factorAs cX6_factorAs 5 (some .int) :: ((wsX6_factorAs_r1 ++ wsX6_factorAs_r2) ++ wsX60)
def wsX6_tonsOf : List Cond := .code yX6_tonsOf cX6_tonsOf 7 (some .long) :: ([.fieldLink RX6 29 "SmokeLedgerModel" "kind" "[I", .fieldLink RX6 35 "SmokeLedgerModel" "day" "[I", .fieldLink RX6 32 "SmokeLedgerModel" "amount" "[I", .fieldLink RX6 41 "SmokeLedgerModel" "covered" "[I", .constantLong RX6 148 (-9), .methodLink RX6 144 yX6_factorOf, .instanceMethod yX6_factorOf, .selects RX6 yX6_factorOf yX6_factorOf, .initialized RX6, .code yX6_factorOf cX6_factorOf 6 (some .int), .fieldLink RX6 53 "SmokeLedgerModel" "high" "[I", .fieldLink RX6 50 "SmokeLedgerModel" "low" "[I", .methodLink RX6 137 yX6_versionOf, .instanceMethod yX6_versionOf, .selects RX6 yX6_versionOf yX6_versionOf, .code yX6_versionOf cX6_versionOf 6 (some .int), .fieldLink RX6 87 "SmokeLedgerModel" "versions" "I", .fieldLink RX6 44 "SmokeLedgerModel" "ofKind" "[I", .fieldLink RX6 47 "SmokeLedgerModel" "ofYear" "[I"] ++ wsX60)
def wsX6_tons_r1 : List Cond := [Cond.fieldLink RX6 76 "SmokeLedgerModel" "thrown" "I", Cond.constantLong RX6 117 (-1), Cond.methodLink RX6 128 yX6_noRow, Cond.instanceMethod yX6_noRow, Cond.selects RX6 yX6_noRow yX6_noRow, Cond.initialized RX6, Cond.code yX6_noRow cX6_noRow 2 (some .boolean), Cond.fieldLink RX6 90 "SmokeLedgerModel" "rows" "I", Cond.methodLink RX6 79 yX6_in, Cond.static yX6_in, Cond.code yX6_in cX6_in 6 (some .boolean), Cond.methodLink RX6 141 yX6_noAs, Cond.instanceMethod yX6_noAs, Cond.selects RX6 yX6_noAs yX6_noAs, Cond.code yX6_noAs cX6_noAs 2 (some .boolean), Cond.fieldLink RX6 87 "SmokeLedgerModel" "versions" "I", Cond.methodLink RX6 150 yX6_tonsOf, Cond.instanceMethod yX6_tonsOf, Cond.selects RX6 yX6_tonsOf yX6_tonsOf, Cond.code yX6_tonsOf cX6_tonsOf 7 (some .long), Cond.fieldLink RX6 29 "SmokeLedgerModel" "kind" "[I", Cond.fieldLink RX6 35 "SmokeLedgerModel" "day" "[I", Cond.fieldLink RX6 32 "SmokeLedgerModel" "amount" "[I", Cond.fieldLink RX6 41 "SmokeLedgerModel" "covered" "[I"]
def wsX6_tons_r2 : List Cond := [Cond.constantLong RX6 148 (-9), Cond.methodLink RX6 144 yX6_factorOf, Cond.instanceMethod yX6_factorOf, Cond.selects RX6 yX6_factorOf yX6_factorOf, Cond.code yX6_factorOf cX6_factorOf 6 (some .int), Cond.fieldLink RX6 53 "SmokeLedgerModel" "high" "[I", Cond.fieldLink RX6 50 "SmokeLedgerModel" "low" "[I", Cond.methodLink RX6 137 yX6_versionOf, Cond.instanceMethod yX6_versionOf, Cond.selects RX6 yX6_versionOf yX6_versionOf, Cond.code yX6_versionOf cX6_versionOf 6 (some .int), Cond.fieldLink RX6 44 "SmokeLedgerModel" "ofKind" "[I", Cond.fieldLink RX6 47 "SmokeLedgerModel" "ofYear" "[I"]
def wsX6_tons : List Cond := .code yX6_tons cX6_tons 5 (some .long) :: ((wsX6_tons_r1 ++ wsX6_tons_r2) ++ wsX60)
def wsX6_isOther : List Cond := .code yX6_isOther cX6_isOther 4 (some .boolean) :: ([.methodLink RX6 150 yX6_tonsOf, .instanceMethod yX6_tonsOf, .selects RX6 yX6_tonsOf yX6_tonsOf, .initialized RX6, .code yX6_tonsOf cX6_tonsOf 7 (some .long), .fieldLink RX6 29 "SmokeLedgerModel" "kind" "[I", .fieldLink RX6 35 "SmokeLedgerModel" "day" "[I", .fieldLink RX6 32 "SmokeLedgerModel" "amount" "[I", .fieldLink RX6 41 "SmokeLedgerModel" "covered" "[I", .constantLong RX6 148 (-9), .methodLink RX6 144 yX6_factorOf, .instanceMethod yX6_factorOf, .selects RX6 yX6_factorOf yX6_factorOf, .code yX6_factorOf cX6_factorOf 6 (some .int), .fieldLink RX6 53 "SmokeLedgerModel" "high" "[I", .fieldLink RX6 50 "SmokeLedgerModel" "low" "[I", .methodLink RX6 137 yX6_versionOf, .instanceMethod yX6_versionOf, .selects RX6 yX6_versionOf yX6_versionOf, .code yX6_versionOf cX6_versionOf 6 (some .int), .fieldLink RX6 87 "SmokeLedgerModel" "versions" "I", .fieldLink RX6 44 "SmokeLedgerModel" "ofKind" "[I", .fieldLink RX6 47 "SmokeLedgerModel" "ofYear" "[I"] ++ wsX60)
def wsX6_changed_r1 : List Cond := [Cond.fieldLink RX6 76 "SmokeLedgerModel" "thrown" "I", Cond.fieldLink RX6 90 "SmokeLedgerModel" "rows" "I", Cond.fieldLink RX6 35 "SmokeLedgerModel" "day" "[I", Cond.methodLink RX6 141 yX6_noAs, Cond.instanceMethod yX6_noAs, Cond.selects RX6 yX6_noAs yX6_noAs, Cond.initialized RX6, Cond.code yX6_noAs cX6_noAs 2 (some .boolean), Cond.fieldLink RX6 87 "SmokeLedgerModel" "versions" "I", Cond.methodLink RX6 79 yX6_in, Cond.static yX6_in, Cond.code yX6_in cX6_in 6 (some .boolean), Cond.methodLink RX6 134 yX6_noYear, Cond.static yX6_noYear, Cond.code yX6_noYear cX6_noYear 1 (some .boolean), Cond.constantLong RX6 85 (9), Cond.methodLink RX6 154 yX6_isOther, Cond.instanceMethod yX6_isOther, Cond.selects RX6 yX6_isOther yX6_isOther, Cond.code yX6_isOther cX6_isOther 4 (some .boolean), Cond.methodLink RX6 150 yX6_tonsOf, Cond.instanceMethod yX6_tonsOf, Cond.selects RX6 yX6_tonsOf yX6_tonsOf, Cond.code yX6_tonsOf cX6_tonsOf 7 (some .long)]
def wsX6_changed_r2 : List Cond := [Cond.fieldLink RX6 29 "SmokeLedgerModel" "kind" "[I", Cond.fieldLink RX6 32 "SmokeLedgerModel" "amount" "[I", Cond.fieldLink RX6 41 "SmokeLedgerModel" "covered" "[I", Cond.constantLong RX6 148 (-9), Cond.methodLink RX6 144 yX6_factorOf, Cond.instanceMethod yX6_factorOf, Cond.selects RX6 yX6_factorOf yX6_factorOf, Cond.code yX6_factorOf cX6_factorOf 6 (some .int), Cond.fieldLink RX6 53 "SmokeLedgerModel" "high" "[I", Cond.fieldLink RX6 50 "SmokeLedgerModel" "low" "[I", Cond.methodLink RX6 137 yX6_versionOf, Cond.instanceMethod yX6_versionOf, Cond.selects RX6 yX6_versionOf yX6_versionOf, Cond.code yX6_versionOf cX6_versionOf 6 (some .int), Cond.fieldLink RX6 44 "SmokeLedgerModel" "ofKind" "[I", Cond.fieldLink RX6 47 "SmokeLedgerModel" "ofYear" "[I"]
def wsX6_changed : List Cond := .code yX6_changed cX6_changed 6 (some .int) :: ((wsX6_changed_r1 ++ wsX6_changed_r2) ++ wsX60)
def wsX6_change_r1 : List Cond := [Cond.fieldLink RX6 76 "SmokeLedgerModel" "thrown" "I", Cond.fieldLink RX6 90 "SmokeLedgerModel" "rows" "I", Cond.fieldLink RX6 35 "SmokeLedgerModel" "day" "[I", Cond.methodLink RX6 141 yX6_noAs, Cond.instanceMethod yX6_noAs, Cond.selects RX6 yX6_noAs yX6_noAs, Cond.initialized RX6, Cond.code yX6_noAs cX6_noAs 2 (some .boolean), Cond.fieldLink RX6 87 "SmokeLedgerModel" "versions" "I", Cond.methodLink RX6 79 yX6_in, Cond.static yX6_in, Cond.code yX6_in cX6_in 6 (some .boolean), Cond.methodLink RX6 134 yX6_noYear, Cond.static yX6_noYear, Cond.code yX6_noYear cX6_noYear 1 (some .boolean), Cond.constantLong RX6 85 (9), Cond.methodLink RX6 154 yX6_isOther, Cond.instanceMethod yX6_isOther, Cond.selects RX6 yX6_isOther yX6_isOther, Cond.code yX6_isOther cX6_isOther 4 (some .boolean), Cond.methodLink RX6 150 yX6_tonsOf, Cond.instanceMethod yX6_tonsOf, Cond.selects RX6 yX6_tonsOf yX6_tonsOf, Cond.code yX6_tonsOf cX6_tonsOf 7 (some .long)]
def wsX6_change_r2 : List Cond := [Cond.fieldLink RX6 29 "SmokeLedgerModel" "kind" "[I", Cond.fieldLink RX6 32 "SmokeLedgerModel" "amount" "[I", Cond.fieldLink RX6 41 "SmokeLedgerModel" "covered" "[I", Cond.constantLong RX6 148 (-9), Cond.methodLink RX6 144 yX6_factorOf, Cond.instanceMethod yX6_factorOf, Cond.selects RX6 yX6_factorOf yX6_factorOf, Cond.code yX6_factorOf cX6_factorOf 6 (some .int), Cond.fieldLink RX6 53 "SmokeLedgerModel" "high" "[I", Cond.fieldLink RX6 50 "SmokeLedgerModel" "low" "[I", Cond.methodLink RX6 137 yX6_versionOf, Cond.instanceMethod yX6_versionOf, Cond.selects RX6 yX6_versionOf yX6_versionOf, Cond.code yX6_versionOf cX6_versionOf 6 (some .int), Cond.fieldLink RX6 44 "SmokeLedgerModel" "ofKind" "[I", Cond.fieldLink RX6 47 "SmokeLedgerModel" "ofYear" "[I"]
def wsX6_change : List Cond := .code yX6_change cX6_change 7 (some .int) :: ((wsX6_change_r1 ++ wsX6_change_r2) ++ wsX60)
def wsX6_totalOf_r1 : List Cond := [Cond.fieldLink RX6 90 "SmokeLedgerModel" "rows" "I", Cond.fieldLink RX6 35 "SmokeLedgerModel" "day" "[I", Cond.fieldLink RX6 26 "SmokeLedgerModel" "unitOf" "[I", Cond.fieldLink RX6 65 "SmokeLedgerModel" "share" "[J", Cond.constantLong RX6 148 (-9), Cond.methodLink RX6 131 yX6_isDouble, Cond.instanceMethod yX6_isDouble, Cond.selects RX6 yX6_isDouble yX6_isDouble, Cond.initialized RX6, Cond.code yX6_isDouble cX6_isDouble 3 (some .boolean), Cond.fieldLink RX6 38 "SmokeLedgerModel" "seller" "[I", Cond.methodLink RX6 121 yX6_shares, Cond.instanceMethod yX6_shares, Cond.selects RX6 yX6_shares yX6_shares, Cond.code yX6_shares cX6_shares 5 none, Cond.constantLong RX6 100 (1000000), Cond.constantLong RX6 102 (10000), Cond.fieldLink RX6 62 "SmokeLedgerModel" "held" "[I", Cond.constantLong RX6 104 (100), Cond.methodLink RX6 96 yX6_lay, Cond.instanceMethod yX6_lay, Cond.selects RX6 yX6_lay yX6_lay, Cond.code yX6_lay cX6_lay 6 none, Cond.fieldLink RX6 73 "SmokeLedgerModel" "deep" "[I"]
def wsX6_totalOf_r2 : List Cond := [Cond.fieldLink RX6 69 "SmokeLedgerModel" "edge" "[Z", Cond.fieldLink RX6 93 "SmokeLedgerModel" "holdings" "I", Cond.fieldLink RX6 13 "SmokeLedgerModel" "who" "[I", Cond.fieldLink RX6 17 "SmokeLedgerModel" "whom" "[I", Cond.fieldLink RX6 23 "SmokeLedgerModel" "since" "[I", Cond.fieldLink RX6 20 "SmokeLedgerModel" "part" "[I", Cond.methodLink RX6 150 yX6_tonsOf, Cond.instanceMethod yX6_tonsOf, Cond.selects RX6 yX6_tonsOf yX6_tonsOf, Cond.code yX6_tonsOf cX6_tonsOf 7 (some .long), Cond.fieldLink RX6 29 "SmokeLedgerModel" "kind" "[I", Cond.fieldLink RX6 32 "SmokeLedgerModel" "amount" "[I", Cond.fieldLink RX6 41 "SmokeLedgerModel" "covered" "[I", Cond.methodLink RX6 144 yX6_factorOf, Cond.instanceMethod yX6_factorOf, Cond.selects RX6 yX6_factorOf yX6_factorOf, Cond.code yX6_factorOf cX6_factorOf 6 (some .int), Cond.fieldLink RX6 53 "SmokeLedgerModel" "high" "[I", Cond.fieldLink RX6 50 "SmokeLedgerModel" "low" "[I", Cond.methodLink RX6 137 yX6_versionOf, Cond.instanceMethod yX6_versionOf, Cond.selects RX6 yX6_versionOf yX6_versionOf, Cond.code yX6_versionOf cX6_versionOf 6 (some .int), Cond.fieldLink RX6 87 "SmokeLedgerModel" "versions" "I"]
def wsX6_totalOf_r3 : List Cond := [Cond.fieldLink RX6 44 "SmokeLedgerModel" "ofKind" "[I", Cond.fieldLink RX6 47 "SmokeLedgerModel" "ofYear" "[I"]
def wsX6_totalOf : List Cond := .code yX6_totalOf cX6_totalOf 14 (some .long) :: ((wsX6_totalOf_r1 ++ (wsX6_totalOf_r2 ++ wsX6_totalOf_r3)) ++ wsX60)
def wsX6_total_r1 : List Cond := [Cond.fieldLink RX6 76 "SmokeLedgerModel" "thrown" "I", Cond.constantLong RX6 119 (-2), Cond.constantLong RX6 117 (-1), Cond.methodLink RX6 134 yX6_noYear, Cond.static yX6_noYear, Cond.initialized RX6, Cond.code yX6_noYear cX6_noYear 1 (some .boolean), Cond.constantLong RX6 85 (9), Cond.methodLink RX6 79 yX6_in, Cond.static yX6_in, Cond.code yX6_in cX6_in 6 (some .boolean), Cond.methodLink RX6 141 yX6_noAs, Cond.instanceMethod yX6_noAs, Cond.selects RX6 yX6_noAs yX6_noAs, Cond.code yX6_noAs cX6_noAs 2 (some .boolean), Cond.fieldLink RX6 87 "SmokeLedgerModel" "versions" "I", Cond.methodLink RX6 158 yX6_totalOf, Cond.instanceMethod yX6_totalOf, Cond.selects RX6 yX6_totalOf yX6_totalOf, Cond.code yX6_totalOf cX6_totalOf 14 (some .long), Cond.fieldLink RX6 90 "SmokeLedgerModel" "rows" "I", Cond.fieldLink RX6 35 "SmokeLedgerModel" "day" "[I", Cond.fieldLink RX6 26 "SmokeLedgerModel" "unitOf" "[I", Cond.fieldLink RX6 65 "SmokeLedgerModel" "share" "[J"]
def wsX6_total_r2 : List Cond := [Cond.constantLong RX6 148 (-9), Cond.methodLink RX6 131 yX6_isDouble, Cond.instanceMethod yX6_isDouble, Cond.selects RX6 yX6_isDouble yX6_isDouble, Cond.code yX6_isDouble cX6_isDouble 3 (some .boolean), Cond.fieldLink RX6 38 "SmokeLedgerModel" "seller" "[I", Cond.methodLink RX6 121 yX6_shares, Cond.instanceMethod yX6_shares, Cond.selects RX6 yX6_shares yX6_shares, Cond.code yX6_shares cX6_shares 5 none, Cond.constantLong RX6 100 (1000000), Cond.constantLong RX6 102 (10000), Cond.fieldLink RX6 62 "SmokeLedgerModel" "held" "[I", Cond.constantLong RX6 104 (100), Cond.methodLink RX6 96 yX6_lay, Cond.instanceMethod yX6_lay, Cond.selects RX6 yX6_lay yX6_lay, Cond.code yX6_lay cX6_lay 6 none, Cond.fieldLink RX6 73 "SmokeLedgerModel" "deep" "[I", Cond.fieldLink RX6 69 "SmokeLedgerModel" "edge" "[Z", Cond.fieldLink RX6 93 "SmokeLedgerModel" "holdings" "I", Cond.fieldLink RX6 13 "SmokeLedgerModel" "who" "[I", Cond.fieldLink RX6 17 "SmokeLedgerModel" "whom" "[I", Cond.fieldLink RX6 23 "SmokeLedgerModel" "since" "[I"]
def wsX6_total_r3 : List Cond := [Cond.fieldLink RX6 20 "SmokeLedgerModel" "part" "[I", Cond.methodLink RX6 150 yX6_tonsOf, Cond.instanceMethod yX6_tonsOf, Cond.selects RX6 yX6_tonsOf yX6_tonsOf, Cond.code yX6_tonsOf cX6_tonsOf 7 (some .long), Cond.fieldLink RX6 29 "SmokeLedgerModel" "kind" "[I", Cond.fieldLink RX6 32 "SmokeLedgerModel" "amount" "[I", Cond.fieldLink RX6 41 "SmokeLedgerModel" "covered" "[I", Cond.methodLink RX6 144 yX6_factorOf, Cond.instanceMethod yX6_factorOf, Cond.selects RX6 yX6_factorOf yX6_factorOf, Cond.code yX6_factorOf cX6_factorOf 6 (some .int), Cond.fieldLink RX6 53 "SmokeLedgerModel" "high" "[I", Cond.fieldLink RX6 50 "SmokeLedgerModel" "low" "[I", Cond.methodLink RX6 137 yX6_versionOf, Cond.instanceMethod yX6_versionOf, Cond.selects RX6 yX6_versionOf yX6_versionOf, Cond.code yX6_versionOf cX6_versionOf 6 (some .int), Cond.fieldLink RX6 44 "SmokeLedgerModel" "ofKind" "[I", Cond.fieldLink RX6 47 "SmokeLedgerModel" "ofYear" "[I"]
def wsX6_total : List Cond := .code yX6_total cX6_total 6 (some .long) :: ((wsX6_total_r1 ++ (wsX6_total_r2 ++ wsX6_total_r3)) ++ wsX60)
def wsX6_anew_r1 : List Cond := [Cond.fieldLink RX6 76 "SmokeLedgerModel" "thrown" "I", Cond.constantLong RX6 119 (-2), Cond.constantLong RX6 117 (-1), Cond.methodLink RX6 134 yX6_noYear, Cond.static yX6_noYear, Cond.initialized RX6, Cond.code yX6_noYear cX6_noYear 1 (some .boolean), Cond.constantLong RX6 85 (9), Cond.methodLink RX6 79 yX6_in, Cond.static yX6_in, Cond.code yX6_in cX6_in 6 (some .boolean), Cond.methodLink RX6 110 yX6_noDay, Cond.static yX6_noDay, Cond.code yX6_noDay cX6_noDay 1 (some .boolean), Cond.constantLong RX6 83 (3649), Cond.methodLink RX6 141 yX6_noAs, Cond.instanceMethod yX6_noAs, Cond.selects RX6 yX6_noAs yX6_noAs, Cond.code yX6_noAs cX6_noAs 2 (some .boolean), Cond.fieldLink RX6 87 "SmokeLedgerModel" "versions" "I", Cond.methodLink RX6 158 yX6_totalOf, Cond.instanceMethod yX6_totalOf, Cond.selects RX6 yX6_totalOf yX6_totalOf, Cond.code yX6_totalOf cX6_totalOf 14 (some .long)]
def wsX6_anew_r2 : List Cond := [Cond.fieldLink RX6 90 "SmokeLedgerModel" "rows" "I", Cond.fieldLink RX6 35 "SmokeLedgerModel" "day" "[I", Cond.fieldLink RX6 26 "SmokeLedgerModel" "unitOf" "[I", Cond.fieldLink RX6 65 "SmokeLedgerModel" "share" "[J", Cond.constantLong RX6 148 (-9), Cond.methodLink RX6 131 yX6_isDouble, Cond.instanceMethod yX6_isDouble, Cond.selects RX6 yX6_isDouble yX6_isDouble, Cond.code yX6_isDouble cX6_isDouble 3 (some .boolean), Cond.fieldLink RX6 38 "SmokeLedgerModel" "seller" "[I", Cond.methodLink RX6 121 yX6_shares, Cond.instanceMethod yX6_shares, Cond.selects RX6 yX6_shares yX6_shares, Cond.code yX6_shares cX6_shares 5 none, Cond.constantLong RX6 100 (1000000), Cond.constantLong RX6 102 (10000), Cond.fieldLink RX6 62 "SmokeLedgerModel" "held" "[I", Cond.constantLong RX6 104 (100), Cond.methodLink RX6 96 yX6_lay, Cond.instanceMethod yX6_lay, Cond.selects RX6 yX6_lay yX6_lay, Cond.code yX6_lay cX6_lay 6 none, Cond.fieldLink RX6 73 "SmokeLedgerModel" "deep" "[I", Cond.fieldLink RX6 69 "SmokeLedgerModel" "edge" "[Z"]
def wsX6_anew_r3 : List Cond := [Cond.fieldLink RX6 93 "SmokeLedgerModel" "holdings" "I", Cond.fieldLink RX6 13 "SmokeLedgerModel" "who" "[I", Cond.fieldLink RX6 17 "SmokeLedgerModel" "whom" "[I", Cond.fieldLink RX6 23 "SmokeLedgerModel" "since" "[I", Cond.fieldLink RX6 20 "SmokeLedgerModel" "part" "[I", Cond.methodLink RX6 150 yX6_tonsOf, Cond.instanceMethod yX6_tonsOf, Cond.selects RX6 yX6_tonsOf yX6_tonsOf, Cond.code yX6_tonsOf cX6_tonsOf 7 (some .long), Cond.fieldLink RX6 29 "SmokeLedgerModel" "kind" "[I", Cond.fieldLink RX6 32 "SmokeLedgerModel" "amount" "[I", Cond.fieldLink RX6 41 "SmokeLedgerModel" "covered" "[I", Cond.methodLink RX6 144 yX6_factorOf, Cond.instanceMethod yX6_factorOf, Cond.selects RX6 yX6_factorOf yX6_factorOf, Cond.code yX6_factorOf cX6_factorOf 6 (some .int), Cond.fieldLink RX6 53 "SmokeLedgerModel" "high" "[I", Cond.fieldLink RX6 50 "SmokeLedgerModel" "low" "[I", Cond.methodLink RX6 137 yX6_versionOf, Cond.instanceMethod yX6_versionOf, Cond.selects RX6 yX6_versionOf yX6_versionOf, Cond.code yX6_versionOf cX6_versionOf 6 (some .int), Cond.fieldLink RX6 44 "SmokeLedgerModel" "ofKind" "[I", Cond.fieldLink RX6 47 "SmokeLedgerModel" "ofYear" "[I"]
def wsX6_anew : List Cond := .code yX6_anew cX6_anew 7 (some .long) :: ((wsX6_anew_r1 ++ (wsX6_anew_r2 ++ wsX6_anew_r3)) ++ wsX60)
def wsX6_part_r1 : List Cond := [Cond.fieldLink RX6 76 "SmokeLedgerModel" "thrown" "I", Cond.constantLong RX6 117 (-1), Cond.constantLong RX6 119 (-2), Cond.methodLink RX6 106 yX6_noUnit, Cond.instanceMethod yX6_noUnit, Cond.selects RX6 yX6_noUnit yX6_noUnit, Cond.initialized RX6, Cond.code yX6_noUnit cX6_noUnit 2 (some .boolean), Cond.fieldLink RX6 7 "SmokeLedgerModel" "units" "I", Cond.methodLink RX6 79 yX6_in, Cond.static yX6_in, Cond.code yX6_in cX6_in 6 (some .boolean), Cond.methodLink RX6 134 yX6_noYear, Cond.static yX6_noYear, Cond.code yX6_noYear cX6_noYear 1 (some .boolean), Cond.constantLong RX6 85 (9), Cond.methodLink RX6 141 yX6_noAs, Cond.instanceMethod yX6_noAs, Cond.selects RX6 yX6_noAs yX6_noAs, Cond.code yX6_noAs cX6_noAs 2 (some .boolean), Cond.fieldLink RX6 87 "SmokeLedgerModel" "versions" "I", Cond.methodLink RX6 158 yX6_totalOf, Cond.instanceMethod yX6_totalOf, Cond.selects RX6 yX6_totalOf yX6_totalOf]
def wsX6_part_r2 : List Cond := [Cond.code yX6_totalOf cX6_totalOf 14 (some .long), Cond.fieldLink RX6 90 "SmokeLedgerModel" "rows" "I", Cond.fieldLink RX6 35 "SmokeLedgerModel" "day" "[I", Cond.fieldLink RX6 26 "SmokeLedgerModel" "unitOf" "[I", Cond.fieldLink RX6 65 "SmokeLedgerModel" "share" "[J", Cond.constantLong RX6 148 (-9), Cond.methodLink RX6 131 yX6_isDouble, Cond.instanceMethod yX6_isDouble, Cond.selects RX6 yX6_isDouble yX6_isDouble, Cond.code yX6_isDouble cX6_isDouble 3 (some .boolean), Cond.fieldLink RX6 38 "SmokeLedgerModel" "seller" "[I", Cond.methodLink RX6 121 yX6_shares, Cond.instanceMethod yX6_shares, Cond.selects RX6 yX6_shares yX6_shares, Cond.code yX6_shares cX6_shares 5 none, Cond.constantLong RX6 100 (1000000), Cond.constantLong RX6 102 (10000), Cond.fieldLink RX6 62 "SmokeLedgerModel" "held" "[I", Cond.constantLong RX6 104 (100), Cond.methodLink RX6 96 yX6_lay, Cond.instanceMethod yX6_lay, Cond.selects RX6 yX6_lay yX6_lay, Cond.code yX6_lay cX6_lay 6 none, Cond.fieldLink RX6 73 "SmokeLedgerModel" "deep" "[I"]
def wsX6_part_r3 : List Cond := [Cond.fieldLink RX6 69 "SmokeLedgerModel" "edge" "[Z", Cond.fieldLink RX6 93 "SmokeLedgerModel" "holdings" "I", Cond.fieldLink RX6 13 "SmokeLedgerModel" "who" "[I", Cond.fieldLink RX6 17 "SmokeLedgerModel" "whom" "[I", Cond.fieldLink RX6 23 "SmokeLedgerModel" "since" "[I", Cond.fieldLink RX6 20 "SmokeLedgerModel" "part" "[I", Cond.methodLink RX6 150 yX6_tonsOf, Cond.instanceMethod yX6_tonsOf, Cond.selects RX6 yX6_tonsOf yX6_tonsOf, Cond.code yX6_tonsOf cX6_tonsOf 7 (some .long), Cond.fieldLink RX6 29 "SmokeLedgerModel" "kind" "[I", Cond.fieldLink RX6 32 "SmokeLedgerModel" "amount" "[I", Cond.fieldLink RX6 41 "SmokeLedgerModel" "covered" "[I", Cond.methodLink RX6 144 yX6_factorOf, Cond.instanceMethod yX6_factorOf, Cond.selects RX6 yX6_factorOf yX6_factorOf, Cond.code yX6_factorOf cX6_factorOf 6 (some .int), Cond.fieldLink RX6 53 "SmokeLedgerModel" "high" "[I", Cond.fieldLink RX6 50 "SmokeLedgerModel" "low" "[I", Cond.methodLink RX6 137 yX6_versionOf, Cond.instanceMethod yX6_versionOf, Cond.selects RX6 yX6_versionOf yX6_versionOf, Cond.code yX6_versionOf cX6_versionOf 6 (some .int), Cond.fieldLink RX6 44 "SmokeLedgerModel" "ofKind" "[I"]
def wsX6_part_r4 : List Cond := [Cond.fieldLink RX6 47 "SmokeLedgerModel" "ofYear" "[I"]
def wsX6_part : List Cond := .code yX6_part cX6_part 7 (some .long) :: ((wsX6_part_r1 ++ (wsX6_part_r2 ++ (wsX6_part_r3 ++ wsX6_part_r4))) ++ wsX60)
def wsX6_doubles_r1 : List Cond := [Cond.fieldLink RX6 76 "SmokeLedgerModel" "thrown" "I", Cond.fieldLink RX6 90 "SmokeLedgerModel" "rows" "I", Cond.fieldLink RX6 35 "SmokeLedgerModel" "day" "[I", Cond.methodLink RX6 134 yX6_noYear, Cond.static yX6_noYear, Cond.initialized RX6, Cond.code yX6_noYear cX6_noYear 1 (some .boolean), Cond.constantLong RX6 85 (9), Cond.methodLink RX6 79 yX6_in, Cond.static yX6_in, Cond.code yX6_in cX6_in 6 (some .boolean), Cond.methodLink RX6 131 yX6_isDouble, Cond.instanceMethod yX6_isDouble, Cond.selects RX6 yX6_isDouble yX6_isDouble, Cond.code yX6_isDouble cX6_isDouble 3 (some .boolean), Cond.fieldLink RX6 38 "SmokeLedgerModel" "seller" "[I", Cond.fieldLink RX6 65 "SmokeLedgerModel" "share" "[J", Cond.fieldLink RX6 26 "SmokeLedgerModel" "unitOf" "[I", Cond.methodLink RX6 121 yX6_shares, Cond.instanceMethod yX6_shares, Cond.selects RX6 yX6_shares yX6_shares, Cond.code yX6_shares cX6_shares 5 none, Cond.constantLong RX6 100 (1000000), Cond.constantLong RX6 102 (10000)]
def wsX6_doubles_r2 : List Cond := [Cond.fieldLink RX6 62 "SmokeLedgerModel" "held" "[I", Cond.constantLong RX6 104 (100), Cond.methodLink RX6 96 yX6_lay, Cond.instanceMethod yX6_lay, Cond.selects RX6 yX6_lay yX6_lay, Cond.code yX6_lay cX6_lay 6 none, Cond.fieldLink RX6 73 "SmokeLedgerModel" "deep" "[I", Cond.fieldLink RX6 69 "SmokeLedgerModel" "edge" "[Z", Cond.fieldLink RX6 93 "SmokeLedgerModel" "holdings" "I", Cond.fieldLink RX6 13 "SmokeLedgerModel" "who" "[I", Cond.fieldLink RX6 17 "SmokeLedgerModel" "whom" "[I", Cond.fieldLink RX6 23 "SmokeLedgerModel" "since" "[I", Cond.fieldLink RX6 20 "SmokeLedgerModel" "part" "[I"]
def wsX6_doubles : List Cond := .code yX6_doubles cX6_doubles 4 (some .int) :: ((wsX6_doubles_r1 ++ wsX6_doubles_r2) ++ wsX60)
def wsX6_onPath_r1 : List Cond := [Cond.fieldLink RX6 76 "SmokeLedgerModel" "thrown" "I", Cond.constantLong RX6 104 (100), Cond.constantLong RX6 148 (-9), Cond.methodLink RX6 134 yX6_noYear, Cond.static yX6_noYear, Cond.initialized RX6, Cond.code yX6_noYear cX6_noYear 1 (some .boolean), Cond.constantLong RX6 85 (9), Cond.methodLink RX6 79 yX6_in, Cond.static yX6_in, Cond.code yX6_in cX6_in 6 (some .boolean), Cond.methodLink RX6 158 yX6_totalOf, Cond.instanceMethod yX6_totalOf, Cond.selects RX6 yX6_totalOf yX6_totalOf, Cond.code yX6_totalOf cX6_totalOf 14 (some .long), Cond.fieldLink RX6 90 "SmokeLedgerModel" "rows" "I", Cond.fieldLink RX6 35 "SmokeLedgerModel" "day" "[I", Cond.fieldLink RX6 26 "SmokeLedgerModel" "unitOf" "[I", Cond.fieldLink RX6 65 "SmokeLedgerModel" "share" "[J", Cond.methodLink RX6 131 yX6_isDouble, Cond.instanceMethod yX6_isDouble, Cond.selects RX6 yX6_isDouble yX6_isDouble, Cond.code yX6_isDouble cX6_isDouble 3 (some .boolean), Cond.fieldLink RX6 38 "SmokeLedgerModel" "seller" "[I"]
def wsX6_onPath_r2 : List Cond := [Cond.methodLink RX6 121 yX6_shares, Cond.instanceMethod yX6_shares, Cond.selects RX6 yX6_shares yX6_shares, Cond.code yX6_shares cX6_shares 5 none, Cond.constantLong RX6 100 (1000000), Cond.constantLong RX6 102 (10000), Cond.fieldLink RX6 62 "SmokeLedgerModel" "held" "[I", Cond.methodLink RX6 96 yX6_lay, Cond.instanceMethod yX6_lay, Cond.selects RX6 yX6_lay yX6_lay, Cond.code yX6_lay cX6_lay 6 none, Cond.fieldLink RX6 73 "SmokeLedgerModel" "deep" "[I", Cond.fieldLink RX6 69 "SmokeLedgerModel" "edge" "[Z", Cond.fieldLink RX6 93 "SmokeLedgerModel" "holdings" "I", Cond.fieldLink RX6 13 "SmokeLedgerModel" "who" "[I", Cond.fieldLink RX6 17 "SmokeLedgerModel" "whom" "[I", Cond.fieldLink RX6 23 "SmokeLedgerModel" "since" "[I", Cond.fieldLink RX6 20 "SmokeLedgerModel" "part" "[I", Cond.methodLink RX6 150 yX6_tonsOf, Cond.instanceMethod yX6_tonsOf, Cond.selects RX6 yX6_tonsOf yX6_tonsOf, Cond.code yX6_tonsOf cX6_tonsOf 7 (some .long), Cond.fieldLink RX6 29 "SmokeLedgerModel" "kind" "[I", Cond.fieldLink RX6 32 "SmokeLedgerModel" "amount" "[I"]
def wsX6_onPath_r3 : List Cond := [Cond.fieldLink RX6 41 "SmokeLedgerModel" "covered" "[I", Cond.methodLink RX6 144 yX6_factorOf, Cond.instanceMethod yX6_factorOf, Cond.selects RX6 yX6_factorOf yX6_factorOf, Cond.code yX6_factorOf cX6_factorOf 6 (some .int), Cond.fieldLink RX6 53 "SmokeLedgerModel" "high" "[I", Cond.fieldLink RX6 50 "SmokeLedgerModel" "low" "[I", Cond.methodLink RX6 137 yX6_versionOf, Cond.instanceMethod yX6_versionOf, Cond.selects RX6 yX6_versionOf yX6_versionOf, Cond.code yX6_versionOf cX6_versionOf 6 (some .int), Cond.fieldLink RX6 87 "SmokeLedgerModel" "versions" "I", Cond.fieldLink RX6 44 "SmokeLedgerModel" "ofKind" "[I", Cond.fieldLink RX6 47 "SmokeLedgerModel" "ofYear" "[I"]
def wsX6_onPath : List Cond := .code yX6_onPath cX6_onPath 15 (some .int) :: ((wsX6_onPath_r1 ++ (wsX6_onPath_r2 ++ wsX6_onPath_r3)) ++ wsX60)
def wsX6_issue : List Cond := .code yX6_issue cX6_issue 5 (some .int) :: ([.fieldLink RX6 76 "SmokeLedgerModel" "thrown" "I", .constantLong RX6 162 (20000), .fieldLink RX6 164 "SmokeLedgerModel" "serials" "I", .fieldLink RX6 56 "SmokeLedgerModel" "owner" "[I", .fieldLink RX6 59 "SmokeLedgerModel" "used" "[I", .methodLink RX6 106 yX6_noUnit, .instanceMethod yX6_noUnit, .selects RX6 yX6_noUnit yX6_noUnit, .initialized RX6, .code yX6_noUnit cX6_noUnit 2 (some .boolean), .fieldLink RX6 7 "SmokeLedgerModel" "units" "I", .methodLink RX6 79 yX6_in, .static yX6_in, .code yX6_in cX6_in 6 (some .boolean)] ++ wsX60)
def wsX6_noSerials : List Cond := .code yX6_noSerials cX6_noSerials 3 (some .boolean) :: ([.fieldLink RX6 164 "SmokeLedgerModel" "serials" "I"] ++ wsX60)
def wsX6_hasUsed : List Cond := .code yX6_hasUsed cX6_hasUsed 5 (some .boolean) :: ([.fieldLink RX6 59 "SmokeLedgerModel" "used" "[I"] ++ wsX60)
def wsX6_move : List Cond := .code yX6_move cX6_move 6 (some .int) :: ([.fieldLink RX6 76 "SmokeLedgerModel" "thrown" "I", .fieldLink RX6 56 "SmokeLedgerModel" "owner" "[I", .methodLink RX6 106 yX6_noUnit, .instanceMethod yX6_noUnit, .selects RX6 yX6_noUnit yX6_noUnit, .initialized RX6, .code yX6_noUnit cX6_noUnit 2 (some .boolean), .fieldLink RX6 7 "SmokeLedgerModel" "units" "I", .methodLink RX6 79 yX6_in, .static yX6_in, .code yX6_in cX6_in 6 (some .boolean), .methodLink RX6 167 yX6_noSerials, .instanceMethod yX6_noSerials, .selects RX6 yX6_noSerials yX6_noSerials, .code yX6_noSerials cX6_noSerials 3 (some .boolean), .fieldLink RX6 164 "SmokeLedgerModel" "serials" "I", .methodLink RX6 170 yX6_hasUsed, .instanceMethod yX6_hasUsed, .selects RX6 yX6_hasUsed yX6_hasUsed, .code yX6_hasUsed cX6_hasUsed 5 (some .boolean), .fieldLink RX6 59 "SmokeLedgerModel" "used" "[I"] ++ wsX60)
def wsX6_use_r1 : List Cond := [Cond.fieldLink RX6 76 "SmokeLedgerModel" "thrown" "I", Cond.fieldLink RX6 29 "SmokeLedgerModel" "kind" "[I", Cond.fieldLink RX6 56 "SmokeLedgerModel" "owner" "[I", Cond.fieldLink RX6 26 "SmokeLedgerModel" "unitOf" "[I", Cond.fieldLink RX6 41 "SmokeLedgerModel" "covered" "[I", Cond.fieldLink RX6 32 "SmokeLedgerModel" "amount" "[I", Cond.fieldLink RX6 59 "SmokeLedgerModel" "used" "[I", Cond.methodLink RX6 128 yX6_noRow, Cond.instanceMethod yX6_noRow, Cond.selects RX6 yX6_noRow yX6_noRow, Cond.initialized RX6, Cond.code yX6_noRow cX6_noRow 2 (some .boolean), Cond.fieldLink RX6 90 "SmokeLedgerModel" "rows" "I", Cond.methodLink RX6 79 yX6_in, Cond.static yX6_in, Cond.code yX6_in cX6_in 6 (some .boolean), Cond.methodLink RX6 167 yX6_noSerials, Cond.instanceMethod yX6_noSerials, Cond.selects RX6 yX6_noSerials yX6_noSerials, Cond.code yX6_noSerials cX6_noSerials 3 (some .boolean), Cond.fieldLink RX6 164 "SmokeLedgerModel" "serials" "I", Cond.methodLink RX6 170 yX6_hasUsed, Cond.instanceMethod yX6_hasUsed, Cond.selects RX6 yX6_hasUsed yX6_hasUsed]
def wsX6_use_r2 : List Cond := [Cond.code yX6_hasUsed cX6_hasUsed 5 (some .boolean)]
def wsX6_use : List Cond := .code yX6_use cX6_use 6 (some .int) :: ((wsX6_use_r1 ++ wsX6_use_r2) ++ wsX60)
def wsX6_owner : List Cond := .code yX6_owner cX6_owner 2 (some .int) :: ([.fieldLink RX6 76 "SmokeLedgerModel" "thrown" "I", .fieldLink RX6 164 "SmokeLedgerModel" "serials" "I", .fieldLink RX6 56 "SmokeLedgerModel" "owner" "[I", .methodLink RX6 79 yX6_in, .static yX6_in, .initialized RX6, .code yX6_in cX6_in 6 (some .boolean)] ++ wsX60)
def wsX6_usedFor : List Cond := .code yX6_usedFor cX6_usedFor 2 (some .int) :: ([.fieldLink RX6 76 "SmokeLedgerModel" "thrown" "I", .fieldLink RX6 164 "SmokeLedgerModel" "serials" "I", .fieldLink RX6 59 "SmokeLedgerModel" "used" "[I", .methodLink RX6 79 yX6_in, .static yX6_in, .initialized RX6, .code yX6_in cX6_in 6 (some .boolean)] ++ wsX60)
def wsX6_free : List Cond := .code yX6_free cX6_free 4 (some .int) :: ([.fieldLink RX6 76 "SmokeLedgerModel" "thrown" "I", .fieldLink RX6 164 "SmokeLedgerModel" "serials" "I", .fieldLink RX6 56 "SmokeLedgerModel" "owner" "[I", .fieldLink RX6 59 "SmokeLedgerModel" "used" "[I", .methodLink RX6 106 yX6_noUnit, .instanceMethod yX6_noUnit, .selects RX6 yX6_noUnit yX6_noUnit, .initialized RX6, .code yX6_noUnit cX6_noUnit 2 (some .boolean), .fieldLink RX6 7 "SmokeLedgerModel" "units" "I", .methodLink RX6 79 yX6_in, .static yX6_in, .code yX6_in cX6_in 6 (some .boolean)] ++ wsX60)
def wsX6_begins : List Cond := .code yX6_begins cX6_begins 2 (some .boolean) :: ([.fieldLink RX6 56 "SmokeLedgerModel" "owner" "[I", .fieldLink RX6 59 "SmokeLedgerModel" "used" "[I"] ++ wsX60)
def wsX6_runs : List Cond := .code yX6_runs cX6_runs 3 (some .int) :: ([.fieldLink RX6 76 "SmokeLedgerModel" "thrown" "I", .fieldLink RX6 164 "SmokeLedgerModel" "serials" "I", .methodLink RX6 173 yX6_begins, .instanceMethod yX6_begins, .selects RX6 yX6_begins yX6_begins, .initialized RX6, .code yX6_begins cX6_begins 2 (some .boolean), .fieldLink RX6 56 "SmokeLedgerModel" "owner" "[I", .fieldLink RX6 59 "SmokeLedgerModel" "used" "[I"] ++ wsX60)
def wsX6_run : List Cond := .code yX6_run cX6_run 7 (some .int) :: ([.fieldLink RX6 76 "SmokeLedgerModel" "thrown" "I", .fieldLink RX6 164 "SmokeLedgerModel" "serials" "I", .fieldLink RX6 56 "SmokeLedgerModel" "owner" "[I", .fieldLink RX6 59 "SmokeLedgerModel" "used" "[I", .methodLink RX6 173 yX6_begins, .instanceMethod yX6_begins, .selects RX6 yX6_begins yX6_begins, .initialized RX6, .code yX6_begins cX6_begins 2 (some .boolean)] ++ wsX60)
def wsX6_count : List Cond := .code yX6_count cX6_count 2 (some .int) :: ([.fieldLink RX6 76 "SmokeLedgerModel" "thrown" "I", .fieldLink RX6 7 "SmokeLedgerModel" "units" "I", .fieldLink RX6 90 "SmokeLedgerModel" "rows" "I", .fieldLink RX6 87 "SmokeLedgerModel" "versions" "I", .fieldLink RX6 164 "SmokeLedgerModel" "serials" "I", .fieldLink RX6 93 "SmokeLedgerModel" "holdings" "I"] ++ wsX60)
def wsJ9_max_7cf53 : List Cond := .code yJ9_max_7cf53 cJ9_max_7cf53 2 (some .int) :: ([])
def wsJ9_min_7cf53 : List Cond := .code yJ9_min_7cf53 cJ9_min_7cf53 2 (some .int) :: ([])
def wsL_law_r1 : List Cond := [Cond.classLink RL 7 RX5, Cond.instantiable RX5 5, Cond.initialized RX5, Cond.classLink RL 10 RX6, Cond.instantiable RX6 26, Cond.initialized RX6, Cond.methodLink RL 9 yX5_init, Cond.instanceMethod yX5_init, Cond.code yX5_init cX5_init 1 none, Cond.methodLink RX5 1 objectInit, Cond.instanceMethod objectInit, Cond.code objectInit ⟨#[0xb1]⟩ 1 none, Cond.classLink RX5 7 RX1, Cond.instantiable RX1 11, Cond.initialized RX1, Cond.fieldLink RX5 10 "SmokeLedger" "holdings" "LSmokeLedger$Holdings;", Cond.classLink RX5 16 RX2, Cond.instantiable RX2 7, Cond.initialized RX2, Cond.fieldLink RX5 19 "SmokeLedger" "rows" "LSmokeLedger$Rows;", Cond.classLink RX5 23 RX0, Cond.instantiable RX0 5, Cond.initialized RX0, Cond.fieldLink RX5 26 "SmokeLedger" "factors" "LSmokeLedger$Factors;"]
def wsL_law_r2 : List Cond := [Cond.classLink RX5 30 RX3, Cond.instantiable RX3 5, Cond.initialized RX3, Cond.fieldLink RX5 33 "SmokeLedger" "serials" "LSmokeLedger$Serials;", Cond.fieldLink RX5 37 "SmokeLedger" "units" "I", Cond.methodLink RX5 9 yX1_init, Cond.instanceMethod yX1_init, Cond.code yX1_init cX1_init 1 none, Cond.methodLink RX1 3 objectInit, Cond.arrayClass .int, Cond.fieldLink RX1 9 "SmokeLedger$Holdings" "holder" "[I", Cond.fieldLink RX1 15 "SmokeLedger$Holdings" "held" "[I", Cond.fieldLink RX1 18 "SmokeLedger$Holdings" "hundredths" "[I", Cond.fieldLink RX1 21 "SmokeLedger$Holdings" "day" "[I", Cond.fieldLink RX1 24 "SmokeLedger$Holdings" "tied" "[I", Cond.arrayClass .boolean, Cond.fieldLink RX1 27 "SmokeLedger$Holdings" "spanIsMade" "[Z", Cond.arrayClass .long, Cond.fieldLink RX1 31 "SmokeLedger$Holdings" "spanShares" "[J", Cond.fieldLink RX1 35 "SmokeLedger$Holdings" "matrix" "[I", Cond.fieldLink RX1 38 "SmokeLedger$Holdings" "reached" "[J", Cond.fieldLink RX1 41 "SmokeLedger$Holdings" "reachedNext" "[J", Cond.fieldLink RX1 44 "SmokeLedger$Holdings" "size" "I", Cond.methodLink RX5 18 yX2_init]
def wsL_law_r3 : List Cond := [Cond.instanceMethod yX2_init, Cond.code yX2_init cX2_init 1 none, Cond.methodLink RX2 3 objectInit, Cond.fieldLink RX2 9 "SmokeLedger$Rows" "unit" "[I", Cond.fieldLink RX2 15 "SmokeLedger$Rows" "kind" "[I", Cond.fieldLink RX2 18 "SmokeLedger$Rows" "amount" "[I", Cond.fieldLink RX2 21 "SmokeLedger$Rows" "day" "[I", Cond.fieldLink RX2 24 "SmokeLedger$Rows" "seller" "[I", Cond.fieldLink RX2 27 "SmokeLedger$Rows" "covered" "[I", Cond.fieldLink RX2 30 "SmokeLedger$Rows" "size" "I", Cond.methodLink RX5 25 yX0_init, Cond.instanceMethod yX0_init, Cond.code yX0_init cX0_init 1 none, Cond.methodLink RX0 3 objectInit, Cond.fieldLink RX0 9 "SmokeLedger$Factors" "kind" "[I", Cond.fieldLink RX0 15 "SmokeLedger$Factors" "year" "[I", Cond.fieldLink RX0 18 "SmokeLedger$Factors" "low" "[I", Cond.fieldLink RX0 21 "SmokeLedger$Factors" "high" "[I", Cond.fieldLink RX0 24 "SmokeLedger$Factors" "size" "I", Cond.methodLink RX5 32 yX3_init, Cond.instanceMethod yX3_init, Cond.code yX3_init cX3_init 1 none, Cond.methodLink RX3 3 objectInit, Cond.fieldLink RX3 9 "SmokeLedger$Serials" "first" "[I"]
def wsL_law_r4 : List Cond := [Cond.fieldLink RX3 15 "SmokeLedger$Serials" "owner" "[I", Cond.fieldLink RX3 18 "SmokeLedger$Serials" "row" "[I", Cond.fieldLink RX3 21 "SmokeLedger$Serials" "size" "I", Cond.fieldLink RX3 25 "SmokeLedger$Serials" "issued" "I", Cond.methodLink RL 12 yX6_init, Cond.instanceMethod yX6_init, Cond.code yX6_init cX6_init 1 none, Cond.methodLink RX6 1 objectInit, Cond.fieldLink RX6 7 "SmokeLedgerModel" "units" "I", Cond.fieldLink RX6 13 "SmokeLedgerModel" "who" "[I", Cond.fieldLink RX6 17 "SmokeLedgerModel" "whom" "[I", Cond.fieldLink RX6 20 "SmokeLedgerModel" "part" "[I", Cond.fieldLink RX6 23 "SmokeLedgerModel" "since" "[I", Cond.fieldLink RX6 26 "SmokeLedgerModel" "unitOf" "[I", Cond.fieldLink RX6 29 "SmokeLedgerModel" "kind" "[I", Cond.fieldLink RX6 32 "SmokeLedgerModel" "amount" "[I", Cond.fieldLink RX6 35 "SmokeLedgerModel" "day" "[I", Cond.fieldLink RX6 38 "SmokeLedgerModel" "seller" "[I", Cond.fieldLink RX6 41 "SmokeLedgerModel" "covered" "[I", Cond.fieldLink RX6 44 "SmokeLedgerModel" "ofKind" "[I", Cond.fieldLink RX6 47 "SmokeLedgerModel" "ofYear" "[I", Cond.fieldLink RX6 50 "SmokeLedgerModel" "low" "[I", Cond.fieldLink RX6 53 "SmokeLedgerModel" "high" "[I", Cond.fieldLink RX6 56 "SmokeLedgerModel" "owner" "[I"]
def wsL_law_r5 : List Cond := [Cond.fieldLink RX6 59 "SmokeLedgerModel" "used" "[I", Cond.fieldLink RX6 62 "SmokeLedgerModel" "held" "[I", Cond.fieldLink RX6 65 "SmokeLedgerModel" "share" "[J", Cond.fieldLink RX6 69 "SmokeLedgerModel" "edge" "[Z", Cond.fieldLink RX6 73 "SmokeLedgerModel" "deep" "[I", Cond.methodLink RL 13 yX5_unit, Cond.instanceMethod yX5_unit, Cond.selects RX5 yX5_unit yX5_unit, Cond.code yX5_unit cX5_unit 1 (some .int), Cond.methodLink RL 17 yX6_unit, Cond.instanceMethod yX6_unit, Cond.selects RX6 yX6_unit yX6_unit, Cond.code yX6_unit cX6_unit 1 (some .int), Cond.fieldLink RX6 76 "SmokeLedgerModel" "thrown" "I", Cond.methodLink RL 18 yX5_hold, Cond.instanceMethod yX5_hold, Cond.selects RX5 yX5_hold yX5_hold, Cond.code yX5_hold cX5_hold 5 (some .int), Cond.methodLink RX5 41 yX5_isUnit, Cond.instanceMethod yX5_isUnit, Cond.selects RX5 yX5_isUnit yX5_isUnit, Cond.code yX5_isUnit cX5_isUnit 2 (some .boolean), Cond.methodLink RX5 45 yX5_isHundredths, Cond.static yX5_isHundredths]
def wsL_law_r6 : List Cond := [Cond.code yX5_isHundredths cX5_isHundredths 1 (some .boolean), Cond.methodLink RX5 48 yX5_isDay, Cond.static yX5_isDay, Cond.code yX5_isDay cX5_isDay 1 (some .boolean), Cond.methodLink RX5 51 yX1_mayTie, Cond.instanceMethod yX1_mayTie, Cond.selects RX1 yX1_mayTie yX1_mayTie, Cond.code yX1_mayTie cX1_mayTie 3 (some .boolean), Cond.methodLink RX1 66 yX1_gatherTies, Cond.instanceMethod yX1_gatherTies, Cond.selects RX1 yX1_gatherTies yX1_gatherTies, Cond.code yX1_gatherTies cX1_gatherTies 2 none, Cond.methodLink RX1 93 yJ7_fill_53178, Cond.static yJ7_fill_53178, Cond.initialized RJ7, Cond.code yJ7_fill_53178 cJ7_fill_53178 4 none, Cond.methodLink RX1 69 yX1_isTiedTo, Cond.instanceMethod yX1_isTiedTo, Cond.selects RX1 yX1_isTiedTo yX1_isTiedTo, Cond.code yX1_isTiedTo cX1_isTiedTo 5 (some .boolean), Cond.methodLink RX1 99 yX1_tiedToAnyOf, Cond.instanceMethod yX1_tiedToAnyOf, Cond.selects RX1 yX1_tiedToAnyOf yX1_tiedToAnyOf, Cond.code yX1_tiedToAnyOf cX1_tiedToAnyOf 4 (some .int)]
def wsL_law_r7 : List Cond := [Cond.methodLink RX1 73 yX1_isTooDeep, Cond.instanceMethod yX1_isTooDeep, Cond.selects RX1 yX1_isTooDeep yX1_isTooDeep, Cond.code yX1_isTooDeep cX1_isTooDeep 3 (some .boolean), Cond.methodLink RX5 55 yX1_tell, Cond.instanceMethod yX1_tell, Cond.selects RX1 yX1_tell yX1_tell, Cond.code yX1_tell cX1_tell 7 (some .int), Cond.methodLink RX1 48 yX1_heldOn, Cond.instanceMethod yX1_heldOn, Cond.selects RX1 yX1_heldOn yX1_heldOn, Cond.code yX1_heldOn cX1_heldOn 5 (some .int), Cond.methodLink RX1 55 yX1_spanOn, Cond.instanceMethod yX1_spanOn, Cond.selects RX1 yX1_spanOn yX1_spanOn, Cond.code yX1_spanOn cX1_spanOn 3 (some .int), Cond.methodLink RX1 52 yX1_placeOf, Cond.instanceMethod yX1_placeOf, Cond.selects RX1 yX1_placeOf yX1_placeOf, Cond.code yX1_placeOf cX1_placeOf 5 (some .int), Cond.methodLink RX1 59 yX1_makeRoomAt, Cond.instanceMethod yX1_makeRoomAt, Cond.selects RX1 yX1_makeRoomAt yX1_makeRoomAt, Cond.code yX1_makeRoomAt cX1_makeRoomAt 3 none]
def wsL_law_r8 : List Cond := [Cond.methodLink RX1 87 arraycopyName, Cond.native arraycopyName, Cond.static arraycopyName, Cond.initialized "java/lang/System", Cond.methodLink RX1 63 yX1_forgetSpans, Cond.instanceMethod yX1_forgetSpans, Cond.selects RX1 yX1_forgetSpans yX1_forgetSpans, Cond.code yX1_forgetSpans cX1_forgetSpans 2 none, Cond.methodLink RL 22 yX6_hold, Cond.instanceMethod yX6_hold, Cond.selects RX6 yX6_hold yX6_hold, Cond.code yX6_hold cX6_hold 8 (some .int), Cond.constantLong RX6 104 (100), Cond.fieldLink RX6 93 "SmokeLedgerModel" "holdings" "I", Cond.methodLink RX6 106 yX6_noUnit, Cond.instanceMethod yX6_noUnit, Cond.selects RX6 yX6_noUnit yX6_noUnit, Cond.code yX6_noUnit cX6_noUnit 2 (some .boolean), Cond.methodLink RX6 79 yX6_in, Cond.static yX6_in, Cond.code yX6_in cX6_in 6 (some .boolean), Cond.methodLink RX6 110 yX6_noDay, Cond.static yX6_noDay, Cond.code yX6_noDay cX6_noDay 1 (some .boolean)]
def wsL_law_r9 : List Cond := [Cond.constantLong RX6 83 (3649), Cond.methodLink RX6 113 yX6_mayHold, Cond.instanceMethod yX6_mayHold, Cond.selects RX6 yX6_mayHold yX6_mayHold, Cond.code yX6_mayHold cX6_mayHold 7 (some .boolean), Cond.methodLink RX6 96 yX6_lay, Cond.instanceMethod yX6_lay, Cond.selects RX6 yX6_lay yX6_lay, Cond.code yX6_lay cX6_lay 6 none, Cond.methodLink RL 23 yX5_holds, Cond.instanceMethod yX5_holds, Cond.selects RX5 yX5_holds yX5_holds, Cond.code yX5_holds cX5_holds 4 (some .int), Cond.methodLink RX5 59 yX1_heldOn, Cond.methodLink RL 27 yX6_holds, Cond.instanceMethod yX6_holds, Cond.selects RX6 yX6_holds yX6_holds, Cond.code yX6_holds cX6_holds 4 (some .int), Cond.methodLink RL 28 yX5_share, Cond.instanceMethod yX5_share, Cond.selects RX5 yX5_share yX5_share, Cond.code yX5_share cX5_share 3 (some .long), Cond.constantLong RX5 63 (-1), Cond.constantLong RX5 69 (-2)]
def wsL_law_r10 : List Cond := [Cond.methodLink RX5 65 yX1_shareOn, Cond.instanceMethod yX1_shareOn, Cond.selects RX1 yX1_shareOn yX1_shareOn, Cond.code yX1_shareOn cX1_shareOn 3 (some .long), Cond.methodLink RX1 77 yX1_shareIn, Cond.instanceMethod yX1_shareIn, Cond.selects RX1 yX1_shareIn yX1_shareIn, Cond.code yX1_shareIn cX1_shareIn 3 (some .long), Cond.methodLink RX1 102 yX1_makeSpan, Cond.instanceMethod yX1_makeSpan, Cond.selects RX1 yX1_makeSpan yX1_makeSpan, Cond.code yX1_makeSpan cX1_makeSpan 5 none, Cond.constantLong RX1 108 (1000000), Cond.methodLink RX1 105 yJ7_fill_d0a16, Cond.static yJ7_fill_d0a16, Cond.code yJ7_fill_d0a16 cJ7_fill_d0a16 5 none, Cond.methodLink RX1 110 yX1_goOneStep, Cond.instanceMethod yX1_goOneStep, Cond.selects RX1 yX1_goOneStep yX1_goOneStep, Cond.code yX1_goOneStep cX1_goOneStep 5 none, Cond.constantLong RX1 113 (100), Cond.methodLink RL 32 yX6_share, Cond.instanceMethod yX6_share, Cond.selects RX6 yX6_share yX6_share]
def wsL_law_r11 : List Cond := [Cond.code yX6_share cX6_share 3 (some .long), Cond.constantLong RX6 117 (-1), Cond.constantLong RX6 119 (-2), Cond.methodLink RX6 121 yX6_shares, Cond.instanceMethod yX6_shares, Cond.selects RX6 yX6_shares yX6_shares, Cond.code yX6_shares cX6_shares 5 none, Cond.constantLong RX6 100 (1000000), Cond.constantLong RX6 102 (10000), Cond.methodLink RL 33 yX5_days, Cond.instanceMethod yX5_days, Cond.selects RX5 yX5_days yX5_days, Cond.code yX5_days cX5_days 4 (some .long), Cond.methodLink RX5 71 yX1_sharesSummed, Cond.instanceMethod yX1_sharesSummed, Cond.selects RX1 yX1_sharesSummed yX1_sharesSummed, Cond.code yX1_sharesSummed cX1_sharesSummed 9 (some .long), Cond.methodLink RX1 81 Lib.Math.min.name, Cond.static Lib.Math.min.name, Cond.initialized "java/lang/Math", Cond.code Lib.Math.min.name Lib.Math.min.code 2 (some .int), Cond.methodLink RL 37 yX6_days, Cond.instanceMethod yX6_days, Cond.selects RX6 yX6_days yX6_days]
def wsL_law_r12 : List Cond := [Cond.code yX6_days cX6_days 9 (some .long), Cond.methodLink RL 38 yX5_row, Cond.instanceMethod yX5_row, Cond.selects RX5 yX5_row yX5_row, Cond.code yX5_row cX5_row 6 (some .int), Cond.constant RX5 78 (100000), Cond.methodLink RX5 75 yX5_isKind, Cond.static yX5_isKind, Cond.code yX5_isKind cX5_isKind 1 (some .boolean), Cond.methodLink RX5 79 yX2_add, Cond.instanceMethod yX2_add, Cond.selects RX2 yX2_add yX2_add, Cond.code yX2_add cX2_add 6 (some .int), Cond.methodLink RL 42 yX6_row, Cond.instanceMethod yX6_row, Cond.selects RX6 yX6_row yX6_row, Cond.code yX6_row cX6_row 6 (some .int), Cond.constantLong RX6 124 (3), Cond.constantLong RX6 126 (100000), Cond.fieldLink RX6 90 "SmokeLedgerModel" "rows" "I", Cond.methodLink RL 43 yX5_told, Cond.instanceMethod yX5_told, Cond.selects RX5 yX5_told yX5_told, Cond.code yX5_told cX5_told 3 (some .int)]
def wsL_law_r13 : List Cond := [Cond.fieldLink RX5 86 "SmokeLedger$Rows" "unit" "[I", Cond.fieldLink RX5 90 "SmokeLedger$Rows" "kind" "[I", Cond.fieldLink RX5 93 "SmokeLedger$Rows" "amount" "[I", Cond.fieldLink RX5 96 "SmokeLedger$Rows" "day" "[I", Cond.fieldLink RX5 99 "SmokeLedger$Rows" "seller" "[I", Cond.fieldLink RX5 105 "SmokeLedger$Rows" "covered" "[I", Cond.methodLink RX5 83 yX5_isRow, Cond.instanceMethod yX5_isRow, Cond.selects RX5 yX5_isRow yX5_isRow, Cond.code yX5_isRow cX5_isRow 2 (some .boolean), Cond.fieldLink RX5 132 "SmokeLedger$Rows" "size" "I", Cond.methodLink RX5 102 yX5_isDouble, Cond.instanceMethod yX5_isDouble, Cond.selects RX5 yX5_isDouble yX5_isDouble, Cond.code yX5_isDouble cX5_isDouble 4 (some .boolean), Cond.methodLink RL 47 yX6_told, Cond.instanceMethod yX6_told, Cond.selects RX6 yX6_told yX6_told, Cond.code yX6_told cX6_told 3 (some .int), Cond.methodLink RX6 128 yX6_noRow, Cond.instanceMethod yX6_noRow, Cond.selects RX6 yX6_noRow yX6_noRow, Cond.code yX6_noRow cX6_noRow 2 (some .boolean), Cond.methodLink RX6 131 yX6_isDouble]
def wsL_law_r14 : List Cond := [Cond.instanceMethod yX6_isDouble, Cond.selects RX6 yX6_isDouble yX6_isDouble, Cond.code yX6_isDouble cX6_isDouble 3 (some .boolean), Cond.methodLink RL 48 yX5_factor, Cond.instanceMethod yX5_factor, Cond.selects RX5 yX5_factor yX5_factor, Cond.code yX5_factor cX5_factor 5 (some .int), Cond.methodLink RX5 108 yX5_isYear, Cond.static yX5_isYear, Cond.code yX5_isYear cX5_isYear 1 (some .boolean), Cond.methodLink RX5 111 yX0_add, Cond.instanceMethod yX0_add, Cond.selects RX0 yX0_add yX0_add, Cond.code yX0_add cX0_add 5 (some .int), Cond.methodLink RL 51 yX6_factor, Cond.instanceMethod yX6_factor, Cond.selects RX6 yX6_factor yX6_factor, Cond.code yX6_factor cX6_factor 5 (some .int), Cond.fieldLink RX6 87 "SmokeLedgerModel" "versions" "I", Cond.methodLink RX6 134 yX6_noYear, Cond.static yX6_noYear, Cond.code yX6_noYear cX6_noYear 1 (some .boolean), Cond.constantLong RX6 85 (9), Cond.methodLink RL 52 yX5_factorAs]
def wsL_law_r15 : List Cond := [Cond.instanceMethod yX5_factorAs, Cond.selects RX5 yX5_factorAs yX5_factorAs, Cond.code yX5_factorAs cX5_factorAs 5 (some .int), Cond.methodLink RX5 113 yX5_isAsOf, Cond.instanceMethod yX5_isAsOf, Cond.selects RX5 yX5_isAsOf yX5_isAsOf, Cond.code yX5_isAsOf cX5_isAsOf 2 (some .boolean), Cond.fieldLink RX5 193 "SmokeLedger$Factors" "size" "I", Cond.methodLink RX5 116 yX0_versionFor, Cond.instanceMethod yX0_versionFor, Cond.selects RX0 yX0_versionFor yX0_versionFor, Cond.code yX0_versionFor cX0_versionFor 7 (some .int), Cond.methodLink RX5 119 yX0_endOf, Cond.instanceMethod yX0_endOf, Cond.selects RX0 yX0_endOf yX0_endOf, Cond.code yX0_endOf cX0_endOf 3 (some .int), Cond.methodLink RL 56 yX6_factorAs, Cond.instanceMethod yX6_factorAs, Cond.selects RX6 yX6_factorAs yX6_factorAs, Cond.code yX6_factorAs cX6_factorAs 5 (some .int), Cond.methodLink RX6 141 yX6_noAs, Cond.instanceMethod yX6_noAs, Cond.selects RX6 yX6_noAs yX6_noAs, Cond.code yX6_noAs cX6_noAs 2 (some .boolean)]
def wsL_law_r16 : List Cond := [Cond.methodLink RX6 144 yX6_factorOf, Cond.instanceMethod yX6_factorOf, Cond.selects RX6 yX6_factorOf yX6_factorOf, Cond.code yX6_factorOf cX6_factorOf 6 (some .int), Cond.methodLink RX6 137 yX6_versionOf, Cond.instanceMethod yX6_versionOf, Cond.selects RX6 yX6_versionOf yX6_versionOf, Cond.code yX6_versionOf cX6_versionOf 6 (some .int), Cond.methodLink RL 57 yX5_tons, Cond.instanceMethod yX5_tons, Cond.selects RX5 yX5_tons yX5_tons, Cond.code yX5_tons cX5_tons 5 (some .long), Cond.classLink RX5 123 RX4, Cond.instantiable RX4 4, Cond.initialized RX4, Cond.methodLink RX5 125 yX4_init, Cond.instanceMethod yX4_init, Cond.code yX4_init cX4_init 5 none, Cond.methodLink RX4 1 objectInit, Cond.fieldLink RX4 7 "SmokeLedger$Way" "as" "I", Cond.fieldLink RX4 13 "SmokeLedger$Way" "market" "Z", Cond.fieldLink RX4 17 "SmokeLedger$Way" "once" "Z", Cond.fieldLink RX4 20 "SmokeLedger$Way" "high" "Z", Cond.methodLink RX5 128 yX5_tonsOf]
def wsL_law_r17 : List Cond := [Cond.instanceMethod yX5_tonsOf, Cond.selects RX5 yX5_tonsOf yX5_tonsOf, Cond.code yX5_tonsOf cX5_tonsOf 6 (some .long), Cond.fieldLink RX5 201 "SmokeLedger$Way" "as" "I", Cond.fieldLink RX5 207 "SmokeLedger$Way" "high" "Z", Cond.constantLong RX5 146 (-9), Cond.fieldLink RX5 211 "SmokeLedger$Way" "market" "Z", Cond.methodLink RX5 204 yX5_versionOf, Cond.instanceMethod yX5_versionOf, Cond.selects RX5 yX5_versionOf yX5_versionOf, Cond.code yX5_versionOf cX5_versionOf 3 (some .int), Cond.methodLink RX5 198 yX2_yearOf, Cond.instanceMethod yX2_yearOf, Cond.selects RX2 yX2_yearOf yX2_yearOf, Cond.code yX2_yearOf cX2_yearOf 2 (some .int), Cond.methodLink RX5 170 yX2_uncovered, Cond.instanceMethod yX2_uncovered, Cond.selects RX2 yX2_uncovered yX2_uncovered, Cond.code yX2_uncovered cX2_uncovered 2 (some .int), Cond.methodLink RL 61 yX6_tons, Cond.instanceMethod yX6_tons, Cond.selects RX6 yX6_tons yX6_tons, Cond.code yX6_tons cX6_tons 5 (some .long), Cond.methodLink RX6 150 yX6_tonsOf]
def wsL_law_r18 : List Cond := [Cond.instanceMethod yX6_tonsOf, Cond.selects RX6 yX6_tonsOf yX6_tonsOf, Cond.code yX6_tonsOf cX6_tonsOf 7 (some .long), Cond.constantLong RX6 148 (-9), Cond.methodLink RL 62 yX5_changed, Cond.instanceMethod yX5_changed, Cond.selects RX5 yX5_changed yX5_changed, Cond.code yX5_changed cX5_changed 6 (some .int), Cond.methodLink RX5 135 yX5_isChanged, Cond.instanceMethod yX5_isChanged, Cond.selects RX5 yX5_isChanged yX5_isChanged, Cond.code yX5_isChanged cX5_isChanged 7 (some .boolean), Cond.methodLink RX5 143 yX2_isOfYear, Cond.instanceMethod yX2_isOfYear, Cond.selects RX2 yX2_isOfYear yX2_isOfYear, Cond.code yX2_isOfYear cX2_isOfYear 3 (some .boolean), Cond.methodLink RX2 34 yX2_yearOf, Cond.methodLink RL 65 yX6_changed, Cond.instanceMethod yX6_changed, Cond.selects RX6 yX6_changed yX6_changed, Cond.code yX6_changed cX6_changed 6 (some .int), Cond.methodLink RX6 154 yX6_isOther, Cond.instanceMethod yX6_isOther, Cond.selects RX6 yX6_isOther yX6_isOther]
def wsL_law_r19 : List Cond := [Cond.code yX6_isOther cX6_isOther 4 (some .boolean), Cond.methodLink RL 66 yX5_change, Cond.instanceMethod yX5_change, Cond.selects RX5 yX5_change yX5_change, Cond.code yX5_change cX5_change 7 (some .int), Cond.methodLink RL 69 yX6_change, Cond.instanceMethod yX6_change, Cond.selects RX6 yX6_change yX6_change, Cond.code yX6_change cX6_change 7 (some .int), Cond.methodLink RL 70 yX5_total, Cond.instanceMethod yX5_total, Cond.selects RX5 yX5_total yX5_total, Cond.code yX5_total cX5_total 6 (some .long), Cond.methodLink RX5 139 yX5_totalOf, Cond.instanceMethod yX5_totalOf, Cond.selects RX5 yX5_totalOf yX5_totalOf, Cond.code yX5_totalOf cX5_totalOf 13 (some .long), Cond.fieldLink RX5 214 "SmokeLedger$Way" "once" "Z", Cond.methodLink RL 74 yX6_total, Cond.instanceMethod yX6_total, Cond.selects RX6 yX6_total yX6_total, Cond.code yX6_total cX6_total 6 (some .long), Cond.methodLink RX6 158 yX6_totalOf, Cond.instanceMethod yX6_totalOf]
def wsL_law_r20 : List Cond := [Cond.selects RX6 yX6_totalOf yX6_totalOf, Cond.code yX6_totalOf cX6_totalOf 14 (some .long), Cond.methodLink RL 75 yX5_anew, Cond.instanceMethod yX5_anew, Cond.selects RX5 yX5_anew yX5_anew, Cond.code yX5_anew cX5_anew 7 (some .long), Cond.methodLink RL 79 yX6_anew, Cond.instanceMethod yX6_anew, Cond.selects RX6 yX6_anew yX6_anew, Cond.code yX6_anew cX6_anew 7 (some .long), Cond.methodLink RL 80 yX5_part, Cond.instanceMethod yX5_part, Cond.selects RX5 yX5_part yX5_part, Cond.code yX5_part cX5_part 7 (some .long), Cond.methodLink RL 83 yX6_part, Cond.instanceMethod yX6_part, Cond.selects RX6 yX6_part yX6_part, Cond.code yX6_part cX6_part 7 (some .long), Cond.methodLink RL 84 yX5_doubles, Cond.instanceMethod yX5_doubles, Cond.selects RX5 yX5_doubles yX5_doubles, Cond.code yX5_doubles cX5_doubles 4 (some .int), Cond.methodLink RL 88 yX6_doubles, Cond.instanceMethod yX6_doubles]
def wsL_law_r21 : List Cond := [Cond.selects RX6 yX6_doubles yX6_doubles, Cond.code yX6_doubles cX6_doubles 4 (some .int), Cond.methodLink RL 89 yX5_onPath, Cond.instanceMethod yX5_onPath, Cond.selects RX5 yX5_onPath yX5_onPath, Cond.code yX5_onPath cX5_onPath 13 (some .int), Cond.constantLong RX5 148 (100), Cond.methodLink RX5 150 yX5_cutPart, Cond.static yX5_cutPart, Cond.code yX5_cutPart cX5_cutPart 6 (some .long), Cond.methodLink RL 92 yX6_onPath, Cond.instanceMethod yX6_onPath, Cond.selects RX6 yX6_onPath yX6_onPath, Cond.code yX6_onPath cX6_onPath 15 (some .int), Cond.methodLink RL 93 yX5_issue, Cond.instanceMethod yX5_issue, Cond.selects RX5 yX5_issue yX5_issue, Cond.code yX5_issue cX5_issue 3 (some .int), Cond.methodLink RX5 154 yX3_add, Cond.instanceMethod yX3_add, Cond.selects RX3 yX3_add yX3_add, Cond.code yX3_add cX3_add 4 (some .int), Cond.methodLink RX3 28 yX3_insertRun, Cond.instanceMethod yX3_insertRun]
def wsL_law_r22 : List Cond := [Cond.selects RX3 yX3_insertRun yX3_insertRun, Cond.code yX3_insertRun cX3_insertRun 6 none, Cond.methodLink RX3 67 arraycopyName, Cond.methodLink RX3 61 yJ7_copyOf_59c91, Cond.static yJ7_copyOf_59c91, Cond.code yJ7_copyOf_59c91 cJ7_copyOf_59c91 3 (some (.array .int)), Cond.methodLink RJ7 316 ⟨"[I", "clone", "()Ljava/lang/Object;"⟩, Cond.sameMethod "[I" "java/lang/Object" "clone" "()Ljava/lang/Object;", Cond.native ⟨"java/lang/Object", "clone", "()Ljava/lang/Object;"⟩, Cond.instanceMethod ⟨"java/lang/Object", "clone", "()Ljava/lang/Object;"⟩, Cond.selects "[I" ⟨"[I", "clone", "()Ljava/lang/Object;"⟩ ⟨"java/lang/Object", "clone", "()Ljava/lang/Object;"⟩, Cond.classLink RJ7 317 "[I", Cond.methodLink RJ7 304 Lib.Math.min.name, Cond.methodLink RJ7 150 arraycopyName, Cond.methodLink RL 96 yX6_issue, Cond.instanceMethod yX6_issue, Cond.selects RX6 yX6_issue yX6_issue, Cond.code yX6_issue cX6_issue 5 (some .int), Cond.constantLong RX6 162 (20000), Cond.fieldLink RX6 164 "SmokeLedgerModel" "serials" "I", Cond.methodLink RL 97 yX5_move, Cond.instanceMethod yX5_move, Cond.selects RX5 yX5_move yX5_move, Cond.code yX5_move cX5_move 5 (some .int)]
def wsL_law_r23 : List Cond := [Cond.methodLink RX5 157 yX3_areIssued, Cond.instanceMethod yX3_areIssued, Cond.selects RX3 yX3_areIssued yX3_areIssued, Cond.code yX3_areIssued cX3_areIssued 3 (some .boolean), Cond.methodLink RX5 160 yX3_usedAmong, Cond.instanceMethod yX3_usedAmong, Cond.selects RX3 yX3_usedAmong yX3_usedAmong, Cond.code yX3_usedAmong cX3_usedAmong 5 (some .int), Cond.methodLink RX3 36 yX3_sharedWith, Cond.instanceMethod yX3_sharedWith, Cond.selects RX3 yX3_sharedWith yX3_sharedWith, Cond.code yX3_sharedWith cX3_sharedWith 4 (some .int), Cond.methodLink RX3 49 Lib.Math.min.name, Cond.methodLink RX3 55 Lib.Math.max.name, Cond.static Lib.Math.max.name, Cond.code Lib.Math.max.name Lib.Math.max.code 2 (some .int), Cond.methodLink RX3 32 yX3_endOf, Cond.instanceMethod yX3_endOf, Cond.selects RX3 yX3_endOf yX3_endOf, Cond.code yX3_endOf cX3_endOf 2 (some .int), Cond.methodLink RX5 163 yX3_ownedAmong, Cond.instanceMethod yX3_ownedAmong, Cond.selects RX3 yX3_ownedAmong yX3_ownedAmong, Cond.code yX3_ownedAmong cX3_ownedAmong 6 (some .int)]
def wsL_law_r24 : List Cond := [Cond.methodLink RX5 166 yX3_mark, Cond.instanceMethod yX3_mark, Cond.selects RX3 yX3_mark yX3_mark, Cond.code yX3_mark cX3_mark 8 none, Cond.methodLink RX3 43 yX3_splitBefore, Cond.instanceMethod yX3_splitBefore, Cond.selects RX3 yX3_splitBefore yX3_splitBefore, Cond.code yX3_splitBefore cX3_splitBefore 3 (some .int), Cond.methodLink RX3 58 yX3_runWith, Cond.instanceMethod yX3_runWith, Cond.selects RX3 yX3_runWith yX3_runWith, Cond.code yX3_runWith cX3_runWith 3 (some .int), Cond.methodLink RX3 46 yX3_joinAlike, Cond.instanceMethod yX3_joinAlike, Cond.selects RX3 yX3_joinAlike yX3_joinAlike, Cond.code yX3_joinAlike cX3_joinAlike 3 none, Cond.methodLink RL 100 yX6_move, Cond.instanceMethod yX6_move, Cond.selects RX6 yX6_move yX6_move, Cond.code yX6_move cX6_move 6 (some .int), Cond.methodLink RX6 167 yX6_noSerials, Cond.instanceMethod yX6_noSerials, Cond.selects RX6 yX6_noSerials yX6_noSerials, Cond.code yX6_noSerials cX6_noSerials 3 (some .boolean)]
def wsL_law_r25 : List Cond := [Cond.methodLink RX6 170 yX6_hasUsed, Cond.instanceMethod yX6_hasUsed, Cond.selects RX6 yX6_hasUsed yX6_hasUsed, Cond.code yX6_hasUsed cX6_hasUsed 5 (some .boolean), Cond.methodLink RL 101 yX5_use, Cond.instanceMethod yX5_use, Cond.selects RX5 yX5_use yX5_use, Cond.code yX5_use cX5_use 5 (some .int), Cond.methodLink RL 104 yX6_use, Cond.instanceMethod yX6_use, Cond.selects RX6 yX6_use yX6_use, Cond.code yX6_use cX6_use 6 (some .int), Cond.methodLink RL 105 yX5_owner, Cond.instanceMethod yX5_owner, Cond.selects RX5 yX5_owner yX5_owner, Cond.code yX5_owner cX5_owner 2 (some .int), Cond.fieldLink RX5 174 "SmokeLedger$Serials" "owner" "[I", Cond.methodLink RX5 177 yX3_runWith, Cond.methodLink RL 108 yX6_owner, Cond.instanceMethod yX6_owner, Cond.selects RX6 yX6_owner yX6_owner, Cond.code yX6_owner cX6_owner 2 (some .int), Cond.methodLink RL 109 yX5_usedFor, Cond.instanceMethod yX5_usedFor]
def wsL_law_r26 : List Cond := [Cond.selects RX5 yX5_usedFor yX5_usedFor, Cond.code yX5_usedFor cX5_usedFor 2 (some .int), Cond.fieldLink RX5 180 "SmokeLedger$Serials" "row" "[I", Cond.methodLink RL 112 yX6_usedFor, Cond.instanceMethod yX6_usedFor, Cond.selects RX6 yX6_usedFor yX6_usedFor, Cond.code yX6_usedFor cX6_usedFor 2 (some .int), Cond.methodLink RL 113 yX5_free, Cond.instanceMethod yX5_free, Cond.selects RX5 yX5_free yX5_free, Cond.code yX5_free cX5_free 2 (some .int), Cond.methodLink RX5 183 yX3_unusedOf, Cond.instanceMethod yX3_unusedOf, Cond.selects RX3 yX3_unusedOf yX3_unusedOf, Cond.code yX3_unusedOf cX3_unusedOf 4 (some .int), Cond.methodLink RX3 40 yX3_lengthOf, Cond.instanceMethod yX3_lengthOf, Cond.selects RX3 yX3_lengthOf yX3_lengthOf, Cond.code yX3_lengthOf cX3_lengthOf 2 (some .int), Cond.methodLink RL 116 yX6_free, Cond.instanceMethod yX6_free, Cond.selects RX6 yX6_free yX6_free, Cond.code yX6_free cX6_free 4 (some .int), Cond.methodLink RL 117 yX5_runs]
def wsL_law_r27 : List Cond := [Cond.instanceMethod yX5_runs, Cond.selects RX5 yX5_runs yX5_runs, Cond.code yX5_runs cX5_runs 1 (some .int), Cond.fieldLink RX5 186 "SmokeLedger$Serials" "size" "I", Cond.methodLink RL 120 yX6_runs, Cond.instanceMethod yX6_runs, Cond.selects RX6 yX6_runs yX6_runs, Cond.code yX6_runs cX6_runs 3 (some .int), Cond.methodLink RX6 173 yX6_begins, Cond.instanceMethod yX6_begins, Cond.selects RX6 yX6_begins yX6_begins, Cond.code yX6_begins cX6_begins 2 (some .boolean), Cond.methodLink RL 121 yX5_run, Cond.instanceMethod yX5_run, Cond.selects RX5 yX5_run yX5_run, Cond.code yX5_run cX5_run 3 (some .int), Cond.fieldLink RX5 187 "SmokeLedger$Serials" "first" "[I", Cond.methodLink RX5 190 yX3_lengthOf, Cond.methodLink RL 124 yX6_run, Cond.instanceMethod yX6_run, Cond.selects RX6 yX6_run yX6_run, Cond.code yX6_run cX6_run 7 (some .int), Cond.methodLink RL 125 yX5_count, Cond.instanceMethod yX5_count]
def wsL_law_r28 : List Cond := [Cond.selects RX5 yX5_count yX5_count, Cond.code yX5_count cX5_count 2 (some .int), Cond.fieldLink RX5 194 "SmokeLedger$Serials" "issued" "I", Cond.fieldLink RX5 197 "SmokeLedger$Holdings" "size" "I", Cond.methodLink RL 128 yX6_count, Cond.instanceMethod yX6_count, Cond.selects RX6 yX6_count yX6_count, Cond.code yX6_count cX6_count 2 (some .int)]
def wsL_law : List Cond := (wsL_law_r1 ++ (wsL_law_r2 ++ (wsL_law_r3 ++ (wsL_law_r4 ++ (wsL_law_r5 ++ (wsL_law_r6 ++ (wsL_law_r7 ++ (wsL_law_r8 ++ (wsL_law_r9 ++ (wsL_law_r10 ++ (wsL_law_r11 ++ (wsL_law_r12 ++ (wsL_law_r13 ++ (wsL_law_r14 ++ (wsL_law_r15 ++ (wsL_law_r16 ++ (wsL_law_r17 ++ (wsL_law_r18 ++ (wsL_law_r19 ++ (wsL_law_r20 ++ (wsL_law_r21 ++ (wsL_law_r22 ++ (wsL_law_r23 ++ (wsL_law_r24 ++ (wsL_law_r25 ++ (wsL_law_r26 ++ (wsL_law_r27 ++ wsL_law_r28))))))))))))))))))))))))))) ++ wsX50 ++ wsX60 ++ wsX10 ++ wsX20 ++ wsX00 ++ wsX30 ++ wsX40 ++ ([] : List Cond)
end
section
set_option maxRecDepth 20000 in
theorem wsL_law_r1_in : ∀ w ∈ wsL_law_r1, w ∈ lw_tbl := fun w h => (goodIn_p wsL_law_r1 [54, 57] (by decide +kernel) (by decide +kernel) w h).1
set_option maxRecDepth 20000 in
theorem wsL_law_r2_in : ∀ w ∈ wsL_law_r2, w ∈ lw_tbl := fun w h => (goodIn_p wsL_law_r2 [62] (by decide +kernel) (by decide +kernel) w h).1
set_option maxRecDepth 20000 in
theorem wsL_law_r3_in : ∀ w ∈ wsL_law_r3, w ∈ lw_tbl := fun w h => (goodIn_p wsL_law_r3 [106, 141, 164] (by decide +kernel) (by decide +kernel) w h).1
set_option maxRecDepth 20000 in
theorem wsL_law_r4_in : ∀ w ∈ wsL_law_r4, w ∈ lw_tbl := fun w h => (goodIn_p wsL_law_r4 [565] (by decide +kernel) (by decide +kernel) w h).1
set_option maxRecDepth 20000 in
theorem wsL_law_r5_in : ∀ w ∈ wsL_law_r5, w ∈ lw_tbl := fun w h => (goodIn_p wsL_law_r5 [206, 649, 210, 214] (by decide +kernel) (by decide +kernel) w h).1
set_option maxRecDepth 20000 in
theorem wsL_law_r6_in : ∀ w ∈ wsL_law_r6, w ∈ lw_tbl := fun w h => (goodIn_p wsL_law_r6 [217, 220, 224, 228, 231, 235, 239] (by decide +kernel) (by decide +kernel) w h).1
set_option maxRecDepth 20000 in
theorem wsL_law_r7_in : ∀ w ∈ wsL_law_r7, w ∈ lw_tbl := fun w h => (goodIn_p wsL_law_r7 [243, 247, 251, 255, 259, 263] (by decide +kernel) (by decide +kernel) w h).1
set_option maxRecDepth 20000 in
theorem wsL_law_r8_in : ∀ w ∈ wsL_law_r8, w ∈ lw_tbl := fun w h => (goodIn_p wsL_law_r8 [270, 653, 657, 660, 664] (by decide +kernel) (by decide +kernel) w h).1
set_option maxRecDepth 20000 in
theorem wsL_law_r9_in : ∀ w ∈ wsL_law_r9, w ∈ lw_tbl := fun w h => (goodIn_p wsL_law_r9 [669, 673, 274, 677, 279] (by decide +kernel) (by decide +kernel) w h).1
set_option maxRecDepth 20000 in
theorem wsL_law_r10_in : ∀ w ∈ wsL_law_r10, w ∈ lw_tbl := fun w h => (goodIn_p wsL_law_r10 [284, 288, 292, 295, 300] (by decide +kernel) (by decide +kernel) w h).1
set_option maxRecDepth 20000 in
theorem wsL_law_r11_in : ∀ w ∈ wsL_law_r11, w ∈ lw_tbl := fun w h => (goodIn_p wsL_law_r11 [681, 687, 306, 310, 313] (by decide +kernel) (by decide +kernel) w h).1
set_option maxRecDepth 20000 in
theorem wsL_law_r12_in : ∀ w ∈ wsL_law_r12, w ∈ lw_tbl := fun w h => (goodIn_p wsL_law_r12 [693, 317, 320, 325, 697, 329] (by decide +kernel) (by decide +kernel) w h).1
set_option maxRecDepth 20000 in
theorem wsL_law_r13_in : ∀ w ∈ wsL_law_r13, w ∈ lw_tbl := fun w h => (goodIn_p wsL_law_r13 [333, 337, 703, 707] (by decide +kernel) (by decide +kernel) w h).1
set_option maxRecDepth 20000 in
theorem wsL_law_r14_in : ∀ w ∈ wsL_law_r14, w ∈ lw_tbl := fun w h => (goodIn_p wsL_law_r14 [711, 341, 344, 348, 715, 718] (by decide +kernel) (by decide +kernel) w h).1
set_option maxRecDepth 20000 in
theorem wsL_law_r15_in : ∀ w ∈ wsL_law_r15, w ∈ lw_tbl := fun w h => (goodIn_p wsL_law_r15 [352, 356, 360, 364, 723, 727] (by decide +kernel) (by decide +kernel) w h).1
set_option maxRecDepth 20000 in
theorem wsL_law_r16_in : ∀ w ∈ wsL_law_r16, w ∈ lw_tbl := fun w h => (goodIn_p wsL_law_r16 [731, 735, 368, 373] (by decide +kernel) (by decide +kernel) w h).1
set_option maxRecDepth 20000 in
theorem wsL_law_r17_in : ∀ w ∈ wsL_law_r17, w ∈ lw_tbl := fun w h => (goodIn_p wsL_law_r17 [395, 399, 403, 408, 739] (by decide +kernel) (by decide +kernel) w h).1
set_option maxRecDepth 20000 in
theorem wsL_law_r18_in : ∀ w ∈ wsL_law_r18, w ∈ lw_tbl := fun w h => (goodIn_p wsL_law_r18 [743, 412, 416, 420, 748] (by decide +kernel) (by decide +kernel) w h).1
set_option maxRecDepth 20000 in
theorem wsL_law_r19_in : ∀ w ∈ wsL_law_r19, w ∈ lw_tbl := fun w h => (goodIn_p wsL_law_r19 [752, 425, 756, 429, 433, 760] (by decide +kernel) (by decide +kernel) w h).1
set_option maxRecDepth 20000 in
theorem wsL_law_r20_in : ∀ w ∈ wsL_law_r20, w ∈ lw_tbl := fun w h => (goodIn_p wsL_law_r20 [764, 437, 768, 441, 772, 445] (by decide +kernel) (by decide +kernel) w h).1
set_option maxRecDepth 20000 in
theorem wsL_law_r21_in : ∀ w ∈ wsL_law_r21, w ∈ lw_tbl := fun w h => (goodIn_p wsL_law_r21 [776, 449, 453, 780, 457, 461] (by decide +kernel) (by decide +kernel) w h).1
set_option maxRecDepth 20000 in
theorem wsL_law_r22_in : ∀ w ∈ wsL_law_r22, w ∈ lw_tbl := fun w h => (goodIn_p wsL_law_r22 [465, 468, 784, 482] (by decide +kernel) (by decide +kernel) w h).1
set_option maxRecDepth 20000 in
theorem wsL_law_r23_in : ∀ w ∈ wsL_law_r23, w ∈ lw_tbl := fun w h => (goodIn_p wsL_law_r23 [486, 490, 494, 502, 498, 506] (by decide +kernel) (by decide +kernel) w h).1
set_option maxRecDepth 20000 in
theorem wsL_law_r24_in : ∀ w ∈ wsL_law_r24, w ∈ lw_tbl := fun w h => (goodIn_p wsL_law_r24 [510, 514, 518, 522, 789, 793] (by decide +kernel) (by decide +kernel) w h).1
set_option maxRecDepth 20000 in
theorem wsL_law_r25_in : ∀ w ∈ wsL_law_r25, w ∈ lw_tbl := fun w h => (goodIn_p wsL_law_r25 [797, 526, 801, 530, 805] (by decide +kernel) (by decide +kernel) w h).1
set_option maxRecDepth 20000 in
theorem wsL_law_r26_in : ∀ w ∈ wsL_law_r26, w ∈ lw_tbl := fun w h => (goodIn_p wsL_law_r26 [535, 809, 539, 543, 547, 813] (by decide +kernel) (by decide +kernel) w h).1
set_option maxRecDepth 20000 in
theorem wsL_law_r27_in : ∀ w ∈ wsL_law_r27, w ∈ lw_tbl := fun w h => (goodIn_p wsL_law_r27 [551, 817, 821, 555, 825] (by decide +kernel) (by decide +kernel) w h).1
set_option maxRecDepth 20000 in
theorem wsL_law_r28_in : ∀ w ∈ wsL_law_r28, w ∈ lw_tbl := fun w h => (goodIn_p wsL_law_r28 [560, 829] (by decide +kernel) (by decide +kernel) w h).1
set_option maxRecDepth 20000 in
theorem wsX50_in : ∀ w ∈ wsX50, w ∈ lw_tbl := by decide +kernel
set_option maxRecDepth 20000 in
theorem wsX60_in : ∀ w ∈ wsX60, w ∈ lw_tbl := by decide +kernel
set_option maxRecDepth 20000 in
theorem wsX10_in : ∀ w ∈ wsX10, w ∈ lw_tbl := by decide +kernel
set_option maxRecDepth 20000 in
theorem wsX20_in : ∀ w ∈ wsX20, w ∈ lw_tbl := by decide +kernel
set_option maxRecDepth 20000 in
theorem wsX00_in : ∀ w ∈ wsX00, w ∈ lw_tbl := by decide +kernel
set_option maxRecDepth 20000 in
theorem wsX30_in : ∀ w ∈ wsX30, w ∈ lw_tbl := by decide +kernel
set_option maxRecDepth 20000 in
theorem wsX40_in : ∀ w ∈ wsX40, w ∈ lw_tbl := by decide +kernel
theorem mem_app2 {a b t : List Cond} (ha : ∀ w ∈ a, w ∈ t) (hb : ∀ w ∈ b, w ∈ t) : ∀ w ∈ a ++ b, w ∈ t := fun w h => (List.mem_append.mp h).elim (ha w) (hb w)
theorem wsL_law_in : ∀ w ∈ wsL_law, w ∈ lw_tbl := mem_app2 (mem_app2 (mem_app2 (mem_app2 (mem_app2 (mem_app2 (mem_app2 (mem_app2 (mem_app2 wsL_law_r1_in (mem_app2 wsL_law_r2_in (mem_app2 wsL_law_r3_in (mem_app2 wsL_law_r4_in (mem_app2 wsL_law_r5_in (mem_app2 wsL_law_r6_in (mem_app2 wsL_law_r7_in (mem_app2 wsL_law_r8_in (mem_app2 wsL_law_r9_in (mem_app2 wsL_law_r10_in (mem_app2 wsL_law_r11_in (mem_app2 wsL_law_r12_in (mem_app2 wsL_law_r13_in (mem_app2 wsL_law_r14_in (mem_app2 wsL_law_r15_in (mem_app2 wsL_law_r16_in (mem_app2 wsL_law_r17_in (mem_app2 wsL_law_r18_in (mem_app2 wsL_law_r19_in (mem_app2 wsL_law_r20_in (mem_app2 wsL_law_r21_in (mem_app2 wsL_law_r22_in (mem_app2 wsL_law_r23_in (mem_app2 wsL_law_r24_in (mem_app2 wsL_law_r25_in (mem_app2 wsL_law_r26_in (mem_app2 wsL_law_r27_in wsL_law_r28_in))))))))))))))))))))))))))) wsX50_in) wsX60_in) wsX10_in) wsX20_in) wsX00_in) wsX30_in) wsX40_in) (fun _ h => absurd h List.not_mem_nil)
theorem inlX0 : ∀ w ∈ wsX00, w ∈ wsL_law := fun _ h => List.mem_append_left _ (List.mem_append_left _ (List.mem_append_left _ (List.mem_append_right _ h)))
theorem inX0 : ∀ w ∈ wsX00, w ∈ lw_tbl := fun w h => wsL_law_in w (inlX0 w h)
theorem inlX1 : ∀ w ∈ wsX10, w ∈ wsL_law := fun _ h => List.mem_append_left _ (List.mem_append_left _ (List.mem_append_left _ (List.mem_append_left _ (List.mem_append_left _ (List.mem_append_right _ h)))))
theorem inX1 : ∀ w ∈ wsX10, w ∈ lw_tbl := fun w h => wsL_law_in w (inlX1 w h)
theorem inlX2 : ∀ w ∈ wsX20, w ∈ wsL_law := fun _ h => List.mem_append_left _ (List.mem_append_left _ (List.mem_append_left _ (List.mem_append_left _ (List.mem_append_right _ h))))
theorem inX2 : ∀ w ∈ wsX20, w ∈ lw_tbl := fun w h => wsL_law_in w (inlX2 w h)
theorem inlX3 : ∀ w ∈ wsX30, w ∈ wsL_law := fun _ h => List.mem_append_left _ (List.mem_append_left _ (List.mem_append_right _ h))
theorem inX3 : ∀ w ∈ wsX30, w ∈ lw_tbl := fun w h => wsL_law_in w (inlX3 w h)
theorem inlX4 : ∀ w ∈ wsX40, w ∈ wsL_law := fun _ h => List.mem_append_left _ (List.mem_append_right _ h)
theorem inX4 : ∀ w ∈ wsX40, w ∈ lw_tbl := fun w h => wsL_law_in w (inlX4 w h)
theorem inlX5 : ∀ w ∈ wsX50, w ∈ wsL_law := fun _ h => List.mem_append_left _ (List.mem_append_left _ (List.mem_append_left _ (List.mem_append_left _ (List.mem_append_left _ (List.mem_append_left _ (List.mem_append_left _ (List.mem_append_right _ h)))))))
theorem inX5 : ∀ w ∈ wsX50, w ∈ lw_tbl := fun w h => wsL_law_in w (inlX5 w h)
theorem inlX6 : ∀ w ∈ wsX60, w ∈ wsL_law := fun _ h => List.mem_append_left _ (List.mem_append_left _ (List.mem_append_left _ (List.mem_append_left _ (List.mem_append_left _ (List.mem_append_left _ (List.mem_append_right _ h))))))
theorem inX6 : ∀ w ∈ wsX60, w ∈ lw_tbl := fun w h => wsL_law_in w (inlX6 w h)
theorem inJx8e188 : ∀ w ∈ wsJx8e1880, w ∈ lw_tbl := by decide +kernel
theorem inJ9 : ∀ w ∈ wsJ90, w ∈ lw_tbl := by decide +kernel
theorem inJ10 : ∀ w ∈ wsJ100, w ∈ lw_tbl := by decide +kernel
theorem inJ7 : ∀ w ∈ wsJ70, w ∈ lw_tbl := by decide +kernel
end
section
theorem dX0_init_0 : decode cX0_init 0 = .ok (.aload_n 0, 1) := by decide +kernel
theorem dX0_init_1 : decode cX0_init 1 = .ok (.invokespecial 3, 3) := by decide +kernel
theorem dX0_init_4 : decode cX0_init 4 = .ok (.aload_n 0, 1) := by decide +kernel
theorem dX0_init_5 : decode cX0_init 5 = .ok (.bipush 80, 2) := by decide +kernel
theorem dX0_init_7 : decode cX0_init 7 = .ok (.newarray .int, 2) := by decide +kernel
theorem dX0_init_9 : decode cX0_init 9 = .ok (.putfield 9, 3) := by decide +kernel
theorem dX0_init_12 : decode cX0_init 12 = .ok (.aload_n 0, 1) := by decide +kernel
theorem dX0_init_13 : decode cX0_init 13 = .ok (.bipush 80, 2) := by decide +kernel
theorem dX0_init_15 : decode cX0_init 15 = .ok (.newarray .int, 2) := by decide +kernel
theorem dX0_init_17 : decode cX0_init 17 = .ok (.putfield 15, 3) := by decide +kernel
theorem dX0_init_20 : decode cX0_init 20 = .ok (.aload_n 0, 1) := by decide +kernel
theorem dX0_init_21 : decode cX0_init 21 = .ok (.bipush 80, 2) := by decide +kernel
theorem dX0_init_23 : decode cX0_init 23 = .ok (.newarray .int, 2) := by decide +kernel
theorem dX0_init_25 : decode cX0_init 25 = .ok (.putfield 18, 3) := by decide +kernel
theorem dX0_init_28 : decode cX0_init 28 = .ok (.aload_n 0, 1) := by decide +kernel
theorem dX0_init_29 : decode cX0_init 29 = .ok (.bipush 80, 2) := by decide +kernel
theorem dX0_init_31 : decode cX0_init 31 = .ok (.newarray .int, 2) := by decide +kernel
theorem dX0_init_33 : decode cX0_init 33 = .ok (.putfield 21, 3) := by decide +kernel
theorem dX0_init_36 : decode cX0_init 36 = .ok (.aload_n 0, 1) := by decide +kernel
theorem dX0_init_37 : decode cX0_init 37 = .ok (.iconst 0, 1) := by decide +kernel
theorem dX0_init_38 : decode cX0_init 38 = .ok (.putfield 24, 3) := by decide +kernel
theorem dX0_init_41 : decode cX0_init 41 = .ok (.return_, 1) := by decide +kernel
theorem dX0_add_0 : decode cX0_add 0 = .ok (.aload_n 0, 1) := by decide +kernel
theorem dX0_add_1 : decode cX0_add 1 = .ok (.getfield 24, 3) := by decide +kernel
theorem dX0_add_4 : decode cX0_add 4 = .ok (.bipush 80, 2) := by decide +kernel
theorem dX0_add_6 : decode cX0_add 6 = .ok (.if_icmp .lt 6, 3) := by decide +kernel
theorem dX0_add_9 : decode cX0_add 9 = .ok (.bipush (-4), 2) := by decide +kernel
theorem dX0_add_11 : decode cX0_add 11 = .ok (.ireturn, 1) := by decide +kernel
theorem dX0_add_12 : decode cX0_add 12 = .ok (.aload_n 0, 1) := by decide +kernel
theorem dX0_add_13 : decode cX0_add 13 = .ok (.getfield 9, 3) := by decide +kernel
theorem dX0_add_16 : decode cX0_add 16 = .ok (.aload_n 0, 1) := by decide +kernel
theorem dX0_add_17 : decode cX0_add 17 = .ok (.getfield 24, 3) := by decide +kernel
theorem dX0_add_20 : decode cX0_add 20 = .ok (.iload_n 1, 1) := by decide +kernel
theorem dX0_add_21 : decode cX0_add 21 = .ok (.iastore, 1) := by decide +kernel
theorem dX0_add_22 : decode cX0_add 22 = .ok (.aload_n 0, 1) := by decide +kernel
theorem dX0_add_23 : decode cX0_add 23 = .ok (.getfield 15, 3) := by decide +kernel
theorem dX0_add_26 : decode cX0_add 26 = .ok (.aload_n 0, 1) := by decide +kernel
theorem dX0_add_27 : decode cX0_add 27 = .ok (.getfield 24, 3) := by decide +kernel
theorem dX0_add_30 : decode cX0_add 30 = .ok (.iload_n 2, 1) := by decide +kernel
theorem dX0_add_31 : decode cX0_add 31 = .ok (.iastore, 1) := by decide +kernel
theorem dX0_add_32 : decode cX0_add 32 = .ok (.aload_n 0, 1) := by decide +kernel
theorem dX0_add_33 : decode cX0_add 33 = .ok (.getfield 18, 3) := by decide +kernel
theorem dX0_add_36 : decode cX0_add 36 = .ok (.aload_n 0, 1) := by decide +kernel
theorem dX0_add_37 : decode cX0_add 37 = .ok (.getfield 24, 3) := by decide +kernel
theorem dX0_add_40 : decode cX0_add 40 = .ok (.iload_n 3, 1) := by decide +kernel
theorem dX0_add_41 : decode cX0_add 41 = .ok (.iastore, 1) := by decide +kernel
theorem dX0_add_42 : decode cX0_add 42 = .ok (.aload_n 0, 1) := by decide +kernel
theorem dX0_add_43 : decode cX0_add 43 = .ok (.getfield 21, 3) := by decide +kernel
theorem dX0_add_46 : decode cX0_add 46 = .ok (.aload_n 0, 1) := by decide +kernel
theorem dX0_add_47 : decode cX0_add 47 = .ok (.getfield 24, 3) := by decide +kernel
theorem dX0_add_50 : decode cX0_add 50 = .ok (.iload 4, 2) := by decide +kernel
theorem dX0_add_52 : decode cX0_add 52 = .ok (.iastore, 1) := by decide +kernel
theorem dX0_add_53 : decode cX0_add 53 = .ok (.aload_n 0, 1) := by decide +kernel
theorem dX0_add_54 : decode cX0_add 54 = .ok (.dup, 1) := by decide +kernel
theorem dX0_add_55 : decode cX0_add 55 = .ok (.getfield 24, 3) := by decide +kernel
theorem dX0_add_58 : decode cX0_add 58 = .ok (.iconst 1, 1) := by decide +kernel
theorem dX0_add_59 : decode cX0_add 59 = .ok (.iadd, 1) := by decide +kernel
theorem dX0_add_60 : decode cX0_add 60 = .ok (.putfield 24, 3) := by decide +kernel
theorem dX0_add_63 : decode cX0_add 63 = .ok (.aload_n 0, 1) := by decide +kernel
theorem dX0_add_64 : decode cX0_add 64 = .ok (.getfield 24, 3) := by decide +kernel
theorem dX0_add_67 : decode cX0_add 67 = .ok (.iconst 1, 1) := by decide +kernel
theorem dX0_add_68 : decode cX0_add 68 = .ok (.isub, 1) := by decide +kernel
theorem dX0_add_69 : decode cX0_add 69 = .ok (.ireturn, 1) := by decide +kernel
theorem dX0_versionFor_0 : decode cX0_versionFor 0 = .ok (.iload_n 3, 1) := by decide +kernel
theorem dX0_versionFor_1 : decode cX0_versionFor 1 = .ok (.bipush (-9), 2) := by decide +kernel
theorem dX0_versionFor_3 : decode cX0_versionFor 3 = .ok (.if_icmp .ne 10, 3) := by decide +kernel
theorem dX0_versionFor_6 : decode cX0_versionFor 6 = .ok (.aload_n 0, 1) := by decide +kernel
theorem dX0_versionFor_7 : decode cX0_versionFor 7 = .ok (.getfield 24, 3) := by decide +kernel
theorem dX0_versionFor_10 : decode cX0_versionFor 10 = .ok (.goto 6, 3) := by decide +kernel
theorem dX0_versionFor_13 : decode cX0_versionFor 13 = .ok (.iload_n 3, 1) := by decide +kernel
theorem dX0_versionFor_14 : decode cX0_versionFor 14 = .ok (.iconst 1, 1) := by decide +kernel
theorem dX0_versionFor_15 : decode cX0_versionFor 15 = .ok (.iadd, 1) := by decide +kernel
theorem dX0_versionFor_16 : decode cX0_versionFor 16 = .ok (.istore 4, 2) := by decide +kernel
theorem dX0_versionFor_18 : decode cX0_versionFor 18 = .ok (.bipush (-9), 2) := by decide +kernel
theorem dX0_versionFor_20 : decode cX0_versionFor 20 = .ok (.istore 5, 2) := by decide +kernel
theorem dX0_versionFor_22 : decode cX0_versionFor 22 = .ok (.iconst 0, 1) := by decide +kernel
theorem dX0_versionFor_23 : decode cX0_versionFor 23 = .ok (.istore 6, 2) := by decide +kernel
theorem dX0_versionFor_25 : decode cX0_versionFor 25 = .ok (.iload 6, 2) := by decide +kernel
theorem dX0_versionFor_27 : decode cX0_versionFor 27 = .ok (.iload 4, 2) := by decide +kernel
theorem dX0_versionFor_29 : decode cX0_versionFor 29 = .ok (.if_icmp .ge 59, 3) := by decide +kernel
theorem dX0_versionFor_32 : decode cX0_versionFor 32 = .ok (.aload_n 0, 1) := by decide +kernel
theorem dX0_versionFor_33 : decode cX0_versionFor 33 = .ok (.getfield 9, 3) := by decide +kernel
theorem dX0_versionFor_36 : decode cX0_versionFor 36 = .ok (.iload 6, 2) := by decide +kernel
theorem dX0_versionFor_38 : decode cX0_versionFor 38 = .ok (.iaload, 1) := by decide +kernel
theorem dX0_versionFor_39 : decode cX0_versionFor 39 = .ok (.iload_n 1, 1) := by decide +kernel
theorem dX0_versionFor_40 : decode cX0_versionFor 40 = .ok (.if_icmp .ne 42, 3) := by decide +kernel
theorem dX0_versionFor_43 : decode cX0_versionFor 43 = .ok (.aload_n 0, 1) := by decide +kernel
theorem dX0_versionFor_44 : decode cX0_versionFor 44 = .ok (.getfield 15, 3) := by decide +kernel
theorem dX0_versionFor_47 : decode cX0_versionFor 47 = .ok (.iload 6, 2) := by decide +kernel
theorem dX0_versionFor_49 : decode cX0_versionFor 49 = .ok (.iaload, 1) := by decide +kernel
theorem dX0_versionFor_50 : decode cX0_versionFor 50 = .ok (.iload_n 2, 1) := by decide +kernel
theorem dX0_versionFor_51 : decode cX0_versionFor 51 = .ok (.if_icmp .gt 31, 3) := by decide +kernel
theorem dX0_versionFor_54 : decode cX0_versionFor 54 = .ok (.iload 5, 2) := by decide +kernel
theorem dX0_versionFor_56 : decode cX0_versionFor 56 = .ok (.bipush (-9), 2) := by decide +kernel
theorem dX0_versionFor_58 : decode cX0_versionFor 58 = .ok (.if_icmp .eq 20, 3) := by decide +kernel
theorem dX0_versionFor_61 : decode cX0_versionFor 61 = .ok (.aload_n 0, 1) := by decide +kernel
theorem dX0_versionFor_62 : decode cX0_versionFor 62 = .ok (.getfield 15, 3) := by decide +kernel
theorem dX0_versionFor_65 : decode cX0_versionFor 65 = .ok (.iload 6, 2) := by decide +kernel
theorem dX0_versionFor_67 : decode cX0_versionFor 67 = .ok (.iaload, 1) := by decide +kernel
theorem dX0_versionFor_68 : decode cX0_versionFor 68 = .ok (.aload_n 0, 1) := by decide +kernel
theorem dX0_versionFor_69 : decode cX0_versionFor 69 = .ok (.getfield 15, 3) := by decide +kernel
theorem dX0_versionFor_72 : decode cX0_versionFor 72 = .ok (.iload 5, 2) := by decide +kernel
theorem dX0_versionFor_74 : decode cX0_versionFor 74 = .ok (.iaload, 1) := by decide +kernel
theorem dX0_versionFor_75 : decode cX0_versionFor 75 = .ok (.if_icmp .lt 7, 3) := by decide +kernel
theorem dX0_versionFor_78 : decode cX0_versionFor 78 = .ok (.iload 6, 2) := by decide +kernel
theorem dX0_versionFor_80 : decode cX0_versionFor 80 = .ok (.istore 5, 2) := by decide +kernel
theorem dX0_versionFor_82 : decode cX0_versionFor 82 = .ok (.iinc 6 1, 3) := by decide +kernel
theorem dX0_versionFor_85 : decode cX0_versionFor 85 = .ok (.goto (-60), 3) := by decide +kernel
theorem dX0_versionFor_88 : decode cX0_versionFor 88 = .ok (.iload 5, 2) := by decide +kernel
theorem dX0_versionFor_90 : decode cX0_versionFor 90 = .ok (.ireturn, 1) := by decide +kernel
theorem dX0_endOf_0 : decode cX0_endOf 0 = .ok (.iload_n 1, 1) := by decide +kernel
theorem dX0_endOf_1 : decode cX0_endOf 1 = .ok (.bipush (-9), 2) := by decide +kernel
theorem dX0_endOf_3 : decode cX0_endOf 3 = .ok (.if_icmp .ne 6, 3) := by decide +kernel
theorem dX0_endOf_6 : decode cX0_endOf 6 = .ok (.bipush (-9), 2) := by decide +kernel
theorem dX0_endOf_8 : decode cX0_endOf 8 = .ok (.ireturn, 1) := by decide +kernel
theorem dX0_endOf_9 : decode cX0_endOf 9 = .ok (.iload_n 2, 1) := by decide +kernel
theorem dX0_endOf_10 : decode cX0_endOf 10 = .ok (.ifCond .eq 12, 3) := by decide +kernel
theorem dX0_endOf_13 : decode cX0_endOf 13 = .ok (.aload_n 0, 1) := by decide +kernel
theorem dX0_endOf_14 : decode cX0_endOf 14 = .ok (.getfield 21, 3) := by decide +kernel
theorem dX0_endOf_17 : decode cX0_endOf 17 = .ok (.iload_n 1, 1) := by decide +kernel
theorem dX0_endOf_18 : decode cX0_endOf 18 = .ok (.iaload, 1) := by decide +kernel
theorem dX0_endOf_19 : decode cX0_endOf 19 = .ok (.goto 9, 3) := by decide +kernel
theorem dX0_endOf_22 : decode cX0_endOf 22 = .ok (.aload_n 0, 1) := by decide +kernel
theorem dX0_endOf_23 : decode cX0_endOf 23 = .ok (.getfield 18, 3) := by decide +kernel
theorem dX0_endOf_26 : decode cX0_endOf 26 = .ok (.iload_n 1, 1) := by decide +kernel
theorem dX0_endOf_27 : decode cX0_endOf 27 = .ok (.iaload, 1) := by decide +kernel
theorem dX0_endOf_28 : decode cX0_endOf 28 = .ok (.ireturn, 1) := by decide +kernel
theorem dX1_init_0 : decode cX1_init 0 = .ok (.aload_n 0, 1) := by decide +kernel
theorem dX1_init_1 : decode cX1_init 1 = .ok (.invokespecial 3, 3) := by decide +kernel
theorem dX1_init_4 : decode cX1_init 4 = .ok (.aload_n 0, 1) := by decide +kernel
theorem dX1_init_5 : decode cX1_init 5 = .ok (.bipush 100, 2) := by decide +kernel
theorem dX1_init_7 : decode cX1_init 7 = .ok (.newarray .int, 2) := by decide +kernel
theorem dX1_init_9 : decode cX1_init 9 = .ok (.putfield 9, 3) := by decide +kernel
theorem dX1_init_12 : decode cX1_init 12 = .ok (.aload_n 0, 1) := by decide +kernel
theorem dX1_init_13 : decode cX1_init 13 = .ok (.bipush 100, 2) := by decide +kernel
theorem dX1_init_15 : decode cX1_init 15 = .ok (.newarray .int, 2) := by decide +kernel
theorem dX1_init_17 : decode cX1_init 17 = .ok (.putfield 15, 3) := by decide +kernel
theorem dX1_init_20 : decode cX1_init 20 = .ok (.aload_n 0, 1) := by decide +kernel
theorem dX1_init_21 : decode cX1_init 21 = .ok (.bipush 100, 2) := by decide +kernel
theorem dX1_init_23 : decode cX1_init 23 = .ok (.newarray .int, 2) := by decide +kernel
theorem dX1_init_25 : decode cX1_init 25 = .ok (.putfield 18, 3) := by decide +kernel
theorem dX1_init_28 : decode cX1_init 28 = .ok (.aload_n 0, 1) := by decide +kernel
theorem dX1_init_29 : decode cX1_init 29 = .ok (.bipush 100, 2) := by decide +kernel
theorem dX1_init_31 : decode cX1_init 31 = .ok (.newarray .int, 2) := by decide +kernel
theorem dX1_init_33 : decode cX1_init 33 = .ok (.putfield 21, 3) := by decide +kernel
theorem dX1_init_36 : decode cX1_init 36 = .ok (.aload_n 0, 1) := by decide +kernel
theorem dX1_init_37 : decode cX1_init 37 = .ok (.bipush 10, 2) := by decide +kernel
theorem dX1_init_39 : decode cX1_init 39 = .ok (.newarray .int, 2) := by decide +kernel
theorem dX1_init_41 : decode cX1_init 41 = .ok (.putfield 24, 3) := by decide +kernel
theorem dX1_init_44 : decode cX1_init 44 = .ok (.aload_n 0, 1) := by decide +kernel
theorem dX1_init_45 : decode cX1_init 45 = .ok (.bipush 101, 2) := by decide +kernel
theorem dX1_init_47 : decode cX1_init 47 = .ok (.newarray .boolean, 2) := by decide +kernel
theorem dX1_init_49 : decode cX1_init 49 = .ok (.putfield 27, 3) := by decide +kernel
theorem dX1_init_52 : decode cX1_init 52 = .ok (.aload_n 0, 1) := by decide +kernel
theorem dX1_init_53 : decode cX1_init 53 = .ok (.sipush 1010, 3) := by decide +kernel
theorem dX1_init_56 : decode cX1_init 56 = .ok (.newarray .long, 2) := by decide +kernel
theorem dX1_init_58 : decode cX1_init 58 = .ok (.putfield 31, 3) := by decide +kernel
theorem dX1_init_61 : decode cX1_init 61 = .ok (.aload_n 0, 1) := by decide +kernel
theorem dX1_init_62 : decode cX1_init 62 = .ok (.bipush 100, 2) := by decide +kernel
theorem dX1_init_64 : decode cX1_init 64 = .ok (.newarray .int, 2) := by decide +kernel
theorem dX1_init_66 : decode cX1_init 66 = .ok (.putfield 35, 3) := by decide +kernel
theorem dX1_init_69 : decode cX1_init 69 = .ok (.aload_n 0, 1) := by decide +kernel
theorem dX1_init_70 : decode cX1_init 70 = .ok (.bipush 10, 2) := by decide +kernel
theorem dX1_init_72 : decode cX1_init 72 = .ok (.newarray .long, 2) := by decide +kernel
theorem dX1_init_74 : decode cX1_init 74 = .ok (.putfield 38, 3) := by decide +kernel
theorem dX1_init_77 : decode cX1_init 77 = .ok (.aload_n 0, 1) := by decide +kernel
theorem dX1_init_78 : decode cX1_init 78 = .ok (.bipush 10, 2) := by decide +kernel
theorem dX1_init_80 : decode cX1_init 80 = .ok (.newarray .long, 2) := by decide +kernel
theorem dX1_init_82 : decode cX1_init 82 = .ok (.putfield 41, 3) := by decide +kernel
theorem dX1_init_85 : decode cX1_init 85 = .ok (.aload_n 0, 1) := by decide +kernel
theorem dX1_init_86 : decode cX1_init 86 = .ok (.iconst 0, 1) := by decide +kernel
theorem dX1_init_87 : decode cX1_init 87 = .ok (.putfield 44, 3) := by decide +kernel
theorem dX1_init_90 : decode cX1_init 90 = .ok (.return_, 1) := by decide +kernel
set_option maxRecDepth 20000 in
theorem ggX1_tell_X1_heldOn : GoodIn wsX1_tell wsX1_heldOn := goodIn_r _ [10, 2, 3, 5, 11, 12, 13, 9, 14, 1, 4, 32, 33, 34, 35, 36, 37, 38, 39, 40, 41, 42] (by decide +kernel) (by decide +kernel)
set_option maxRecDepth 20000 in
theorem gX1_tell_X1_heldOn : GoodIn wsX1_tell (wsV RX1 48 RX1 yX1_heldOn wsX1_heldOn) := goodIn_app (goodIn_of _ (by decide +kernel)) ggX1_tell_X1_heldOn
set_option maxRecDepth 20000 in
theorem ggX1_tell_X1_placeOf : GoodIn wsX1_tell wsX1_placeOf := goodIn_r _ [18, 1, 2, 3, 4, 32, 33, 34, 35, 36, 37, 38, 39, 40, 41, 42] (by decide +kernel) (by decide +kernel)
set_option maxRecDepth 20000 in
theorem gX1_tell_X1_placeOf : GoodIn wsX1_tell (wsV RX1 52 RX1 yX1_placeOf wsX1_placeOf) := goodIn_app (goodIn_of _ (by decide +kernel)) ggX1_tell_X1_placeOf
set_option maxRecDepth 20000 in
theorem ggX1_tell_X1_spanOn : GoodIn wsX1_tell wsX1_spanOn := goodIn_r _ [14, 1, 4, 32, 33, 34, 35, 36, 37, 38, 39, 40, 41, 42] (by decide +kernel) (by decide +kernel)
set_option maxRecDepth 20000 in
theorem gX1_tell_X1_spanOn : GoodIn wsX1_tell (wsV RX1 55 RX1 yX1_spanOn wsX1_spanOn) := goodIn_app (goodIn_of _ (by decide +kernel)) ggX1_tell_X1_spanOn
set_option maxRecDepth 20000 in
theorem ggX1_tell_X1_makeRoomAt : GoodIn wsX1_tell wsX1_makeRoomAt := goodIn_r _ [22, 1, 2, 23, 24, 25, 26, 3, 5, 4, 32, 33, 34, 35, 36, 37, 38, 39, 40, 41, 42] (by decide +kernel) (by decide +kernel)
set_option maxRecDepth 20000 in
theorem gX1_tell_X1_makeRoomAt : GoodIn wsX1_tell (wsV RX1 59 RX1 yX1_makeRoomAt wsX1_makeRoomAt) := goodIn_app (goodIn_of _ (by decide +kernel)) ggX1_tell_X1_makeRoomAt
set_option maxRecDepth 20000 in
theorem ggX1_tell_X1_forgetSpans : GoodIn wsX1_tell wsX1_forgetSpans := goodIn_r _ [30, 31, 32, 33, 34, 35, 36, 37, 38, 39, 40, 41, 42] (by decide +kernel) (by decide +kernel)
set_option maxRecDepth 20000 in
theorem gX1_tell_X1_forgetSpans : GoodIn wsX1_tell (wsV RX1 63 RX1 yX1_forgetSpans wsX1_forgetSpans) := goodIn_app (goodIn_of _ (by decide +kernel)) ggX1_tell_X1_forgetSpans
theorem dX1_tell_0 : decode cX1_tell 0 = .ok (.aload_n 0, 1) := by decide +kernel
theorem dX1_tell_1 : decode cX1_tell 1 = .ok (.iload_n 1, 1) := by decide +kernel
theorem dX1_tell_2 : decode cX1_tell 2 = .ok (.iload_n 2, 1) := by decide +kernel
theorem dX1_tell_3 : decode cX1_tell 3 = .ok (.iload 4, 2) := by decide +kernel
theorem dX1_tell_5 : decode cX1_tell 5 = .ok (.invokevirtual 48, 3) := by decide +kernel
theorem dX1_tell_8 : decode cX1_tell 8 = .ok (.istore 5, 2) := by decide +kernel
theorem dX1_tell_10 : decode cX1_tell 10 = .ok (.aload_n 0, 1) := by decide +kernel
theorem dX1_tell_11 : decode cX1_tell 11 = .ok (.iload_n 1, 1) := by decide +kernel
theorem dX1_tell_12 : decode cX1_tell 12 = .ok (.iload_n 2, 1) := by decide +kernel
theorem dX1_tell_13 : decode cX1_tell 13 = .ok (.iload 4, 2) := by decide +kernel
theorem dX1_tell_15 : decode cX1_tell 15 = .ok (.invokevirtual 52, 3) := by decide +kernel
theorem dX1_tell_18 : decode cX1_tell 18 = .ok (.istore 6, 2) := by decide +kernel
theorem dX1_tell_20 : decode cX1_tell 20 = .ok (.iload 6, 2) := by decide +kernel
theorem dX1_tell_22 : decode cX1_tell 22 = .ok (.bipush (-9), 2) := by decide +kernel
theorem dX1_tell_24 : decode cX1_tell 24 = .ok (.if_icmp .ne 54, 3) := by decide +kernel
theorem dX1_tell_27 : decode cX1_tell 27 = .ok (.aload_n 0, 1) := by decide +kernel
theorem dX1_tell_28 : decode cX1_tell 28 = .ok (.getfield 44, 3) := by decide +kernel
theorem dX1_tell_31 : decode cX1_tell 31 = .ok (.bipush 100, 2) := by decide +kernel
theorem dX1_tell_33 : decode cX1_tell 33 = .ok (.if_icmp .lt 6, 3) := by decide +kernel
theorem dX1_tell_36 : decode cX1_tell 36 = .ok (.bipush (-4), 2) := by decide +kernel
theorem dX1_tell_38 : decode cX1_tell 38 = .ok (.ireturn, 1) := by decide +kernel
theorem dX1_tell_39 : decode cX1_tell 39 = .ok (.aload_n 0, 1) := by decide +kernel
theorem dX1_tell_40 : decode cX1_tell 40 = .ok (.iload 4, 2) := by decide +kernel
theorem dX1_tell_42 : decode cX1_tell 42 = .ok (.invokevirtual 55, 3) := by decide +kernel
theorem dX1_tell_45 : decode cX1_tell 45 = .ok (.istore 6, 2) := by decide +kernel
theorem dX1_tell_47 : decode cX1_tell 47 = .ok (.aload_n 0, 1) := by decide +kernel
theorem dX1_tell_48 : decode cX1_tell 48 = .ok (.iload 6, 2) := by decide +kernel
theorem dX1_tell_50 : decode cX1_tell 50 = .ok (.invokevirtual 59, 3) := by decide +kernel
theorem dX1_tell_53 : decode cX1_tell 53 = .ok (.aload_n 0, 1) := by decide +kernel
theorem dX1_tell_54 : decode cX1_tell 54 = .ok (.getfield 9, 3) := by decide +kernel
theorem dX1_tell_57 : decode cX1_tell 57 = .ok (.iload 6, 2) := by decide +kernel
theorem dX1_tell_59 : decode cX1_tell 59 = .ok (.iload_n 1, 1) := by decide +kernel
theorem dX1_tell_60 : decode cX1_tell 60 = .ok (.iastore, 1) := by decide +kernel
theorem dX1_tell_61 : decode cX1_tell 61 = .ok (.aload_n 0, 1) := by decide +kernel
theorem dX1_tell_62 : decode cX1_tell 62 = .ok (.getfield 15, 3) := by decide +kernel
theorem dX1_tell_65 : decode cX1_tell 65 = .ok (.iload 6, 2) := by decide +kernel
theorem dX1_tell_67 : decode cX1_tell 67 = .ok (.iload_n 2, 1) := by decide +kernel
theorem dX1_tell_68 : decode cX1_tell 68 = .ok (.iastore, 1) := by decide +kernel
theorem dX1_tell_69 : decode cX1_tell 69 = .ok (.aload_n 0, 1) := by decide +kernel
theorem dX1_tell_70 : decode cX1_tell 70 = .ok (.getfield 21, 3) := by decide +kernel
theorem dX1_tell_73 : decode cX1_tell 73 = .ok (.iload 6, 2) := by decide +kernel
theorem dX1_tell_75 : decode cX1_tell 75 = .ok (.iload 4, 2) := by decide +kernel
theorem dX1_tell_77 : decode cX1_tell 77 = .ok (.iastore, 1) := by decide +kernel
theorem dX1_tell_78 : decode cX1_tell 78 = .ok (.aload_n 0, 1) := by decide +kernel
theorem dX1_tell_79 : decode cX1_tell 79 = .ok (.getfield 18, 3) := by decide +kernel
theorem dX1_tell_82 : decode cX1_tell 82 = .ok (.iload 6, 2) := by decide +kernel
theorem dX1_tell_84 : decode cX1_tell 84 = .ok (.iload_n 3, 1) := by decide +kernel
theorem dX1_tell_85 : decode cX1_tell 85 = .ok (.iastore, 1) := by decide +kernel
theorem dX1_tell_86 : decode cX1_tell 86 = .ok (.aload_n 0, 1) := by decide +kernel
theorem dX1_tell_87 : decode cX1_tell 87 = .ok (.invokevirtual 63, 3) := by decide +kernel
theorem dX1_tell_90 : decode cX1_tell 90 = .ok (.iload 5, 2) := by decide +kernel
theorem dX1_tell_92 : decode cX1_tell 92 = .ok (.ireturn, 1) := by decide +kernel
set_option maxRecDepth 20000 in
theorem ggX1_heldOn_X1_spanOn : GoodIn wsX1_heldOn wsX1_spanOn := goodIn_r _ [8, 9, 10, 11, 12, 13, 14, 15, 16, 17, 18, 19, 20, 21] (by decide +kernel) (by decide +kernel)
set_option maxRecDepth 20000 in
theorem gX1_heldOn_X1_spanOn : GoodIn wsX1_heldOn (wsV RX1 55 RX1 yX1_spanOn wsX1_spanOn) := goodIn_app (goodIn_of _ (by decide +kernel)) ggX1_heldOn_X1_spanOn
theorem dX1_heldOn_0 : decode cX1_heldOn 0 = .ok (.aload_n 0, 1) := by decide +kernel
theorem dX1_heldOn_1 : decode cX1_heldOn 1 = .ok (.iload_n 3, 1) := by decide +kernel
theorem dX1_heldOn_2 : decode cX1_heldOn 2 = .ok (.invokevirtual 55, 3) := by decide +kernel
theorem dX1_heldOn_5 : decode cX1_heldOn 5 = .ok (.iconst 1, 1) := by decide +kernel
theorem dX1_heldOn_6 : decode cX1_heldOn 6 = .ok (.isub, 1) := by decide +kernel
theorem dX1_heldOn_7 : decode cX1_heldOn 7 = .ok (.istore 4, 2) := by decide +kernel
theorem dX1_heldOn_9 : decode cX1_heldOn 9 = .ok (.iload 4, 2) := by decide +kernel
theorem dX1_heldOn_11 : decode cX1_heldOn 11 = .ok (.ifCond .lt 39, 3) := by decide +kernel
theorem dX1_heldOn_14 : decode cX1_heldOn 14 = .ok (.aload_n 0, 1) := by decide +kernel
theorem dX1_heldOn_15 : decode cX1_heldOn 15 = .ok (.getfield 9, 3) := by decide +kernel
theorem dX1_heldOn_18 : decode cX1_heldOn 18 = .ok (.iload 4, 2) := by decide +kernel
theorem dX1_heldOn_20 : decode cX1_heldOn 20 = .ok (.iaload, 1) := by decide +kernel
theorem dX1_heldOn_21 : decode cX1_heldOn 21 = .ok (.iload_n 1, 1) := by decide +kernel
theorem dX1_heldOn_22 : decode cX1_heldOn 22 = .ok (.if_icmp .ne 22, 3) := by decide +kernel
theorem dX1_heldOn_25 : decode cX1_heldOn 25 = .ok (.aload_n 0, 1) := by decide +kernel
theorem dX1_heldOn_26 : decode cX1_heldOn 26 = .ok (.getfield 15, 3) := by decide +kernel
theorem dX1_heldOn_29 : decode cX1_heldOn 29 = .ok (.iload 4, 2) := by decide +kernel
theorem dX1_heldOn_31 : decode cX1_heldOn 31 = .ok (.iaload, 1) := by decide +kernel
theorem dX1_heldOn_32 : decode cX1_heldOn 32 = .ok (.iload_n 2, 1) := by decide +kernel
theorem dX1_heldOn_33 : decode cX1_heldOn 33 = .ok (.if_icmp .ne 11, 3) := by decide +kernel
theorem dX1_heldOn_36 : decode cX1_heldOn 36 = .ok (.aload_n 0, 1) := by decide +kernel
theorem dX1_heldOn_37 : decode cX1_heldOn 37 = .ok (.getfield 18, 3) := by decide +kernel
theorem dX1_heldOn_40 : decode cX1_heldOn 40 = .ok (.iload 4, 2) := by decide +kernel
theorem dX1_heldOn_42 : decode cX1_heldOn 42 = .ok (.iaload, 1) := by decide +kernel
theorem dX1_heldOn_43 : decode cX1_heldOn 43 = .ok (.ireturn, 1) := by decide +kernel
theorem dX1_heldOn_44 : decode cX1_heldOn 44 = .ok (.iinc 4 (-1), 3) := by decide +kernel
theorem dX1_heldOn_47 : decode cX1_heldOn 47 = .ok (.goto (-38), 3) := by decide +kernel
theorem dX1_heldOn_50 : decode cX1_heldOn 50 = .ok (.iconst 0, 1) := by decide +kernel
theorem dX1_heldOn_51 : decode cX1_heldOn 51 = .ok (.ireturn, 1) := by decide +kernel
set_option maxRecDepth 20000 in
theorem ggX1_mayTie_X1_gatherTies : GoodIn wsX1_mayTie wsX1_gatherTies := goodIn_r _ [6, 1, 7, 8, 9, 10, 11, 12, 13, 14, 27, 28, 29, 30, 31, 32, 33, 34, 35, 36, 37] (by decide +kernel) (by decide +kernel)
set_option maxRecDepth 20000 in
theorem gX1_mayTie_X1_gatherTies : GoodIn wsX1_mayTie (wsV RX1 66 RX1 yX1_gatherTies wsX1_gatherTies) := goodIn_app (goodIn_of _ (by decide +kernel)) ggX1_mayTie_X1_gatherTies
set_option maxRecDepth 20000 in
theorem ggX1_mayTie_X1_isTiedTo : GoodIn wsX1_mayTie wsX1_isTiedTo := goodIn_r _ [18, 19, 20, 21, 5, 22, 1, 27, 28, 29, 30, 31, 32, 33, 34, 35, 36, 37] (by decide +kernel) (by decide +kernel)
set_option maxRecDepth 20000 in
theorem gX1_mayTie_X1_isTiedTo : GoodIn wsX1_mayTie (wsV RX1 69 RX1 yX1_isTiedTo wsX1_isTiedTo) := goodIn_app (goodIn_of _ (by decide +kernel)) ggX1_mayTie_X1_isTiedTo
set_option maxRecDepth 20000 in
theorem ggX1_mayTie_X1_isTooDeep : GoodIn wsX1_mayTie wsX1_isTooDeep := goodIn_r _ [26, 19, 20, 21, 5, 22, 1, 27, 28, 29, 30, 31, 32, 33, 34, 35, 36, 37] (by decide +kernel) (by decide +kernel)
set_option maxRecDepth 20000 in
theorem gX1_mayTie_X1_isTooDeep : GoodIn wsX1_mayTie (wsV RX1 73 RX1 yX1_isTooDeep wsX1_isTooDeep) := goodIn_app (goodIn_of _ (by decide +kernel)) ggX1_mayTie_X1_isTooDeep
theorem dX1_mayTie_0 : decode cX1_mayTie 0 = .ok (.aload_n 0, 1) := by decide +kernel
theorem dX1_mayTie_1 : decode cX1_mayTie 1 = .ok (.invokevirtual 66, 3) := by decide +kernel
theorem dX1_mayTie_4 : decode cX1_mayTie 4 = .ok (.aload_n 0, 1) := by decide +kernel
theorem dX1_mayTie_5 : decode cX1_mayTie 5 = .ok (.getfield 24, 3) := by decide +kernel
theorem dX1_mayTie_8 : decode cX1_mayTie 8 = .ok (.iload_n 1, 1) := by decide +kernel
theorem dX1_mayTie_9 : decode cX1_mayTie 9 = .ok (.dup2, 1) := by decide +kernel
theorem dX1_mayTie_10 : decode cX1_mayTie 10 = .ok (.iaload, 1) := by decide +kernel
theorem dX1_mayTie_11 : decode cX1_mayTie 11 = .ok (.iconst 1, 1) := by decide +kernel
theorem dX1_mayTie_12 : decode cX1_mayTie 12 = .ok (.iload_n 2, 1) := by decide +kernel
theorem dX1_mayTie_13 : decode cX1_mayTie 13 = .ok (.ishl, 1) := by decide +kernel
theorem dX1_mayTie_14 : decode cX1_mayTie 14 = .ok (.ior, 1) := by decide +kernel
theorem dX1_mayTie_15 : decode cX1_mayTie 15 = .ok (.iastore, 1) := by decide +kernel
theorem dX1_mayTie_16 : decode cX1_mayTie 16 = .ok (.aload_n 0, 1) := by decide +kernel
theorem dX1_mayTie_17 : decode cX1_mayTie 17 = .ok (.iload_n 2, 1) := by decide +kernel
theorem dX1_mayTie_18 : decode cX1_mayTie 18 = .ok (.iload_n 1, 1) := by decide +kernel
theorem dX1_mayTie_19 : decode cX1_mayTie 19 = .ok (.invokevirtual 69, 3) := by decide +kernel
theorem dX1_mayTie_22 : decode cX1_mayTie 22 = .ok (.ifCond .ne 14, 3) := by decide +kernel
theorem dX1_mayTie_25 : decode cX1_mayTie 25 = .ok (.aload_n 0, 1) := by decide +kernel
theorem dX1_mayTie_26 : decode cX1_mayTie 26 = .ok (.invokevirtual 73, 3) := by decide +kernel
theorem dX1_mayTie_29 : decode cX1_mayTie 29 = .ok (.ifCond .ne 7, 3) := by decide +kernel
theorem dX1_mayTie_32 : decode cX1_mayTie 32 = .ok (.iconst 1, 1) := by decide +kernel
theorem dX1_mayTie_33 : decode cX1_mayTie 33 = .ok (.goto 4, 3) := by decide +kernel
theorem dX1_mayTie_36 : decode cX1_mayTie 36 = .ok (.iconst 0, 1) := by decide +kernel
theorem dX1_mayTie_37 : decode cX1_mayTie 37 = .ok (.ireturn, 1) := by decide +kernel
set_option maxRecDepth 20000 in
theorem ggX1_shareOn_X1_spanOn : GoodIn wsX1_shareOn wsX1_spanOn := goodIn_r _ [5, 6, 7, 41, 42, 43, 44, 45, 46, 47, 48, 49, 50, 51] (by decide +kernel) (by decide +kernel)
set_option maxRecDepth 20000 in
theorem gX1_shareOn_X1_spanOn : GoodIn wsX1_shareOn (wsV RX1 55 RX1 yX1_spanOn wsX1_spanOn) := goodIn_app (goodIn_of _ (by decide +kernel)) ggX1_shareOn_X1_spanOn
set_option maxRecDepth 20000 in
theorem ggX1_shareOn_X1_shareIn : GoodIn wsX1_shareOn wsX1_shareIn := goodIn_r _ [11, 12, 13, 14, 15, 16, 4, 17, 18, 19, 20, 21, 22, 23, 24, 25, 26, 27, 28, 29, 30, 31, 32, 33, 34, 35, 36, 37, 38, 39, 40, 41, 42, 43, 44, 45, 46, 47, 48, 49, 50, 51] (by decide +kernel) (by decide +kernel)
set_option maxRecDepth 20000 in
theorem gX1_shareOn_X1_shareIn : GoodIn wsX1_shareOn (wsV RX1 77 RX1 yX1_shareIn wsX1_shareIn) := goodIn_app (goodIn_of _ (by decide +kernel)) ggX1_shareOn_X1_shareIn
theorem dX1_shareOn_0 : decode cX1_shareOn 0 = .ok (.aload_n 0, 1) := by decide +kernel
theorem dX1_shareOn_1 : decode cX1_shareOn 1 = .ok (.aload_n 0, 1) := by decide +kernel
theorem dX1_shareOn_2 : decode cX1_shareOn 2 = .ok (.iload_n 2, 1) := by decide +kernel
theorem dX1_shareOn_3 : decode cX1_shareOn 3 = .ok (.invokevirtual 55, 3) := by decide +kernel
theorem dX1_shareOn_6 : decode cX1_shareOn 6 = .ok (.iload_n 1, 1) := by decide +kernel
theorem dX1_shareOn_7 : decode cX1_shareOn 7 = .ok (.invokevirtual 77, 3) := by decide +kernel
theorem dX1_shareOn_10 : decode cX1_shareOn 10 = .ok (.lreturn, 1) := by decide +kernel
set_option maxRecDepth 20000 in
theorem ggX1_sharesSummed_X1_spanOn : GoodIn wsX1_sharesSummed wsX1_spanOn := goodIn_r _ [11, 1, 2, 45, 46, 47, 48, 49, 50, 51, 52, 53, 54, 55] (by decide +kernel) (by decide +kernel)
set_option maxRecDepth 20000 in
theorem gX1_sharesSummed_X1_spanOn : GoodIn wsX1_sharesSummed (wsV RX1 55 RX1 yX1_spanOn wsX1_spanOn) := goodIn_app (goodIn_of _ (by decide +kernel)) ggX1_sharesSummed_X1_spanOn
set_option maxRecDepth 20000 in
theorem ggX1_sharesSummed_X1_shareIn : GoodIn wsX1_sharesSummed wsX1_shareIn := goodIn_r _ [15, 16, 17, 18, 19, 20, 10, 21, 22, 23, 24, 25, 26, 27, 28, 29, 30, 31, 32, 33, 34, 35, 36, 37, 38, 39, 40, 41, 42, 43, 44, 45, 46, 47, 48, 49, 50, 51, 52, 53, 54, 55] (by decide +kernel) (by decide +kernel)
set_option maxRecDepth 20000 in
theorem gX1_sharesSummed_X1_shareIn : GoodIn wsX1_sharesSummed (wsV RX1 77 RX1 yX1_shareIn wsX1_shareIn) := goodIn_app (goodIn_of _ (by decide +kernel)) ggX1_sharesSummed_X1_shareIn
theorem dX1_sharesSummed_0 : decode cX1_sharesSummed 0 = .ok (.lconst 0, 1) := by decide +kernel
theorem dX1_sharesSummed_1 : decode cX1_sharesSummed 1 = .ok (.lstore 4, 2) := by decide +kernel
theorem dX1_sharesSummed_3 : decode cX1_sharesSummed 3 = .ok (.iload_n 2, 1) := by decide +kernel
theorem dX1_sharesSummed_4 : decode cX1_sharesSummed 4 = .ok (.istore 6, 2) := by decide +kernel
theorem dX1_sharesSummed_6 : decode cX1_sharesSummed 6 = .ok (.aload_n 0, 1) := by decide +kernel
theorem dX1_sharesSummed_7 : decode cX1_sharesSummed 7 = .ok (.iload_n 2, 1) := by decide +kernel
theorem dX1_sharesSummed_8 : decode cX1_sharesSummed 8 = .ok (.invokevirtual 55, 3) := by decide +kernel
theorem dX1_sharesSummed_11 : decode cX1_sharesSummed 11 = .ok (.istore 7, 2) := by decide +kernel
theorem dX1_sharesSummed_13 : decode cX1_sharesSummed 13 = .ok (.iload 7, 2) := by decide +kernel
theorem dX1_sharesSummed_15 : decode cX1_sharesSummed 15 = .ok (.aload_n 0, 1) := by decide +kernel
theorem dX1_sharesSummed_16 : decode cX1_sharesSummed 16 = .ok (.getfield 44, 3) := by decide +kernel
theorem dX1_sharesSummed_19 : decode cX1_sharesSummed 19 = .ok (.if_icmp .gt 71, 3) := by decide +kernel
theorem dX1_sharesSummed_22 : decode cX1_sharesSummed 22 = .ok (.iload 7, 2) := by decide +kernel
theorem dX1_sharesSummed_24 : decode cX1_sharesSummed 24 = .ok (.aload_n 0, 1) := by decide +kernel
theorem dX1_sharesSummed_25 : decode cX1_sharesSummed 25 = .ok (.getfield 44, 3) := by decide +kernel
theorem dX1_sharesSummed_28 : decode cX1_sharesSummed 28 = .ok (.if_icmp .ge 19, 3) := by decide +kernel
theorem dX1_sharesSummed_31 : decode cX1_sharesSummed 31 = .ok (.iload_n 3, 1) := by decide +kernel
theorem dX1_sharesSummed_32 : decode cX1_sharesSummed 32 = .ok (.aload_n 0, 1) := by decide +kernel
theorem dX1_sharesSummed_33 : decode cX1_sharesSummed 33 = .ok (.getfield 21, 3) := by decide +kernel
theorem dX1_sharesSummed_36 : decode cX1_sharesSummed 36 = .ok (.iload 7, 2) := by decide +kernel
theorem dX1_sharesSummed_38 : decode cX1_sharesSummed 38 = .ok (.iaload, 1) := by decide +kernel
theorem dX1_sharesSummed_39 : decode cX1_sharesSummed 39 = .ok (.iconst 1, 1) := by decide +kernel
theorem dX1_sharesSummed_40 : decode cX1_sharesSummed 40 = .ok (.isub, 1) := by decide +kernel
theorem dX1_sharesSummed_41 : decode cX1_sharesSummed 41 = .ok (.invokestatic 81, 3) := by decide +kernel
theorem dX1_sharesSummed_44 : decode cX1_sharesSummed 44 = .ok (.goto 4, 3) := by decide +kernel
theorem dX1_sharesSummed_47 : decode cX1_sharesSummed 47 = .ok (.iload_n 3, 1) := by decide +kernel
theorem dX1_sharesSummed_48 : decode cX1_sharesSummed 48 = .ok (.istore 8, 2) := by decide +kernel
theorem dX1_sharesSummed_50 : decode cX1_sharesSummed 50 = .ok (.iload 8, 2) := by decide +kernel
theorem dX1_sharesSummed_52 : decode cX1_sharesSummed 52 = .ok (.iload 6, 2) := by decide +kernel
theorem dX1_sharesSummed_54 : decode cX1_sharesSummed 54 = .ok (.if_icmp .lt 30, 3) := by decide +kernel
theorem dX1_sharesSummed_57 : decode cX1_sharesSummed 57 = .ok (.lload 4, 2) := by decide +kernel
theorem dX1_sharesSummed_59 : decode cX1_sharesSummed 59 = .ok (.aload_n 0, 1) := by decide +kernel
theorem dX1_sharesSummed_60 : decode cX1_sharesSummed 60 = .ok (.iload 7, 2) := by decide +kernel
theorem dX1_sharesSummed_62 : decode cX1_sharesSummed 62 = .ok (.iload_n 1, 1) := by decide +kernel
theorem dX1_sharesSummed_63 : decode cX1_sharesSummed 63 = .ok (.invokevirtual 77, 3) := by decide +kernel
theorem dX1_sharesSummed_66 : decode cX1_sharesSummed 66 = .ok (.iload 8, 2) := by decide +kernel
theorem dX1_sharesSummed_68 : decode cX1_sharesSummed 68 = .ok (.iload 6, 2) := by decide +kernel
theorem dX1_sharesSummed_70 : decode cX1_sharesSummed 70 = .ok (.isub, 1) := by decide +kernel
theorem dX1_sharesSummed_71 : decode cX1_sharesSummed 71 = .ok (.iconst 1, 1) := by decide +kernel
theorem dX1_sharesSummed_72 : decode cX1_sharesSummed 72 = .ok (.iadd, 1) := by decide +kernel
theorem dX1_sharesSummed_73 : decode cX1_sharesSummed 73 = .ok (.i2l, 1) := by decide +kernel
theorem dX1_sharesSummed_74 : decode cX1_sharesSummed 74 = .ok (.lmul, 1) := by decide +kernel
theorem dX1_sharesSummed_75 : decode cX1_sharesSummed 75 = .ok (.ladd, 1) := by decide +kernel
theorem dX1_sharesSummed_76 : decode cX1_sharesSummed 76 = .ok (.lstore 4, 2) := by decide +kernel
theorem dX1_sharesSummed_78 : decode cX1_sharesSummed 78 = .ok (.iload 8, 2) := by decide +kernel
theorem dX1_sharesSummed_80 : decode cX1_sharesSummed 80 = .ok (.iconst 1, 1) := by decide +kernel
theorem dX1_sharesSummed_81 : decode cX1_sharesSummed 81 = .ok (.iadd, 1) := by decide +kernel
theorem dX1_sharesSummed_82 : decode cX1_sharesSummed 82 = .ok (.istore 6, 2) := by decide +kernel
theorem dX1_sharesSummed_84 : decode cX1_sharesSummed 84 = .ok (.iinc 7 1, 3) := by decide +kernel
theorem dX1_sharesSummed_87 : decode cX1_sharesSummed 87 = .ok (.goto (-74), 3) := by decide +kernel
theorem dX1_sharesSummed_90 : decode cX1_sharesSummed 90 = .ok (.lload 4, 2) := by decide +kernel
theorem dX1_sharesSummed_92 : decode cX1_sharesSummed 92 = .ok (.lreturn, 1) := by decide +kernel
theorem dX1_placeOf_0 : decode cX1_placeOf 0 = .ok (.iconst 0, 1) := by decide +kernel
theorem dX1_placeOf_1 : decode cX1_placeOf 1 = .ok (.istore 4, 2) := by decide +kernel
theorem dX1_placeOf_3 : decode cX1_placeOf 3 = .ok (.iload 4, 2) := by decide +kernel
theorem dX1_placeOf_5 : decode cX1_placeOf 5 = .ok (.aload_n 0, 1) := by decide +kernel
theorem dX1_placeOf_6 : decode cX1_placeOf 6 = .ok (.getfield 44, 3) := by decide +kernel
theorem dX1_placeOf_9 : decode cX1_placeOf 9 = .ok (.if_icmp .ge 45, 3) := by decide +kernel
theorem dX1_placeOf_12 : decode cX1_placeOf 12 = .ok (.aload_n 0, 1) := by decide +kernel
theorem dX1_placeOf_13 : decode cX1_placeOf 13 = .ok (.getfield 9, 3) := by decide +kernel
theorem dX1_placeOf_16 : decode cX1_placeOf 16 = .ok (.iload 4, 2) := by decide +kernel
theorem dX1_placeOf_18 : decode cX1_placeOf 18 = .ok (.iaload, 1) := by decide +kernel
theorem dX1_placeOf_19 : decode cX1_placeOf 19 = .ok (.iload_n 1, 1) := by decide +kernel
theorem dX1_placeOf_20 : decode cX1_placeOf 20 = .ok (.if_icmp .ne 28, 3) := by decide +kernel
theorem dX1_placeOf_23 : decode cX1_placeOf 23 = .ok (.aload_n 0, 1) := by decide +kernel
theorem dX1_placeOf_24 : decode cX1_placeOf 24 = .ok (.getfield 15, 3) := by decide +kernel
theorem dX1_placeOf_27 : decode cX1_placeOf 27 = .ok (.iload 4, 2) := by decide +kernel
theorem dX1_placeOf_29 : decode cX1_placeOf 29 = .ok (.iaload, 1) := by decide +kernel
theorem dX1_placeOf_30 : decode cX1_placeOf 30 = .ok (.iload_n 2, 1) := by decide +kernel
theorem dX1_placeOf_31 : decode cX1_placeOf 31 = .ok (.if_icmp .ne 17, 3) := by decide +kernel
theorem dX1_placeOf_34 : decode cX1_placeOf 34 = .ok (.aload_n 0, 1) := by decide +kernel
theorem dX1_placeOf_35 : decode cX1_placeOf 35 = .ok (.getfield 21, 3) := by decide +kernel
theorem dX1_placeOf_38 : decode cX1_placeOf 38 = .ok (.iload 4, 2) := by decide +kernel
theorem dX1_placeOf_40 : decode cX1_placeOf 40 = .ok (.iaload, 1) := by decide +kernel
theorem dX1_placeOf_41 : decode cX1_placeOf 41 = .ok (.iload_n 3, 1) := by decide +kernel
theorem dX1_placeOf_42 : decode cX1_placeOf 42 = .ok (.if_icmp .ne 6, 3) := by decide +kernel
theorem dX1_placeOf_45 : decode cX1_placeOf 45 = .ok (.iload 4, 2) := by decide +kernel
theorem dX1_placeOf_47 : decode cX1_placeOf 47 = .ok (.ireturn, 1) := by decide +kernel
theorem dX1_placeOf_48 : decode cX1_placeOf 48 = .ok (.iinc 4 1, 3) := by decide +kernel
theorem dX1_placeOf_51 : decode cX1_placeOf 51 = .ok (.goto (-48), 3) := by decide +kernel
theorem dX1_placeOf_54 : decode cX1_placeOf 54 = .ok (.bipush (-9), 2) := by decide +kernel
theorem dX1_placeOf_56 : decode cX1_placeOf 56 = .ok (.ireturn, 1) := by decide +kernel
theorem dX1_spanOn_0 : decode cX1_spanOn 0 = .ok (.iconst 0, 1) := by decide +kernel
theorem dX1_spanOn_1 : decode cX1_spanOn 1 = .ok (.istore_n 2, 1) := by decide +kernel
theorem dX1_spanOn_2 : decode cX1_spanOn 2 = .ok (.iload_n 2, 1) := by decide +kernel
theorem dX1_spanOn_3 : decode cX1_spanOn 3 = .ok (.aload_n 0, 1) := by decide +kernel
theorem dX1_spanOn_4 : decode cX1_spanOn 4 = .ok (.getfield 44, 3) := by decide +kernel
theorem dX1_spanOn_7 : decode cX1_spanOn 7 = .ok (.if_icmp .ge 19, 3) := by decide +kernel
theorem dX1_spanOn_10 : decode cX1_spanOn 10 = .ok (.aload_n 0, 1) := by decide +kernel
theorem dX1_spanOn_11 : decode cX1_spanOn 11 = .ok (.getfield 21, 3) := by decide +kernel
theorem dX1_spanOn_14 : decode cX1_spanOn 14 = .ok (.iload_n 2, 1) := by decide +kernel
theorem dX1_spanOn_15 : decode cX1_spanOn 15 = .ok (.iaload, 1) := by decide +kernel
theorem dX1_spanOn_16 : decode cX1_spanOn 16 = .ok (.iload_n 1, 1) := by decide +kernel
theorem dX1_spanOn_17 : decode cX1_spanOn 17 = .ok (.if_icmp .gt 9, 3) := by decide +kernel
theorem dX1_spanOn_20 : decode cX1_spanOn 20 = .ok (.iinc 2 1, 3) := by decide +kernel
theorem dX1_spanOn_23 : decode cX1_spanOn 23 = .ok (.goto (-21), 3) := by decide +kernel
theorem dX1_spanOn_26 : decode cX1_spanOn 26 = .ok (.iload_n 2, 1) := by decide +kernel
theorem dX1_spanOn_27 : decode cX1_spanOn 27 = .ok (.ireturn, 1) := by decide +kernel
theorem dX1_makeRoomAt_0 : decode cX1_makeRoomAt 0 = .ok (.aload_n 0, 1) := by decide +kernel
theorem dX1_makeRoomAt_1 : decode cX1_makeRoomAt 1 = .ok (.getfield 44, 3) := by decide +kernel
theorem dX1_makeRoomAt_4 : decode cX1_makeRoomAt 4 = .ok (.iload_n 1, 1) := by decide +kernel
theorem dX1_makeRoomAt_5 : decode cX1_makeRoomAt 5 = .ok (.isub, 1) := by decide +kernel
theorem dX1_makeRoomAt_6 : decode cX1_makeRoomAt 6 = .ok (.istore_n 2, 1) := by decide +kernel
theorem dX1_makeRoomAt_7 : decode cX1_makeRoomAt 7 = .ok (.aload_n 0, 1) := by decide +kernel
theorem dX1_makeRoomAt_8 : decode cX1_makeRoomAt 8 = .ok (.getfield 9, 3) := by decide +kernel
theorem dX1_makeRoomAt_11 : decode cX1_makeRoomAt 11 = .ok (.iload_n 1, 1) := by decide +kernel
theorem dX1_makeRoomAt_12 : decode cX1_makeRoomAt 12 = .ok (.aload_n 0, 1) := by decide +kernel
theorem dX1_makeRoomAt_13 : decode cX1_makeRoomAt 13 = .ok (.getfield 9, 3) := by decide +kernel
theorem dX1_makeRoomAt_16 : decode cX1_makeRoomAt 16 = .ok (.iload_n 1, 1) := by decide +kernel
theorem dX1_makeRoomAt_17 : decode cX1_makeRoomAt 17 = .ok (.iconst 1, 1) := by decide +kernel
theorem dX1_makeRoomAt_18 : decode cX1_makeRoomAt 18 = .ok (.iadd, 1) := by decide +kernel
theorem dX1_makeRoomAt_19 : decode cX1_makeRoomAt 19 = .ok (.iload_n 2, 1) := by decide +kernel
theorem dX1_makeRoomAt_20 : decode cX1_makeRoomAt 20 = .ok (.invokestatic 87, 3) := by decide +kernel
theorem dX1_makeRoomAt_23 : decode cX1_makeRoomAt 23 = .ok (.aload_n 0, 1) := by decide +kernel
theorem dX1_makeRoomAt_24 : decode cX1_makeRoomAt 24 = .ok (.getfield 15, 3) := by decide +kernel
theorem dX1_makeRoomAt_27 : decode cX1_makeRoomAt 27 = .ok (.iload_n 1, 1) := by decide +kernel
theorem dX1_makeRoomAt_28 : decode cX1_makeRoomAt 28 = .ok (.aload_n 0, 1) := by decide +kernel
theorem dX1_makeRoomAt_29 : decode cX1_makeRoomAt 29 = .ok (.getfield 15, 3) := by decide +kernel
theorem dX1_makeRoomAt_32 : decode cX1_makeRoomAt 32 = .ok (.iload_n 1, 1) := by decide +kernel
theorem dX1_makeRoomAt_33 : decode cX1_makeRoomAt 33 = .ok (.iconst 1, 1) := by decide +kernel
theorem dX1_makeRoomAt_34 : decode cX1_makeRoomAt 34 = .ok (.iadd, 1) := by decide +kernel
theorem dX1_makeRoomAt_35 : decode cX1_makeRoomAt 35 = .ok (.iload_n 2, 1) := by decide +kernel
theorem dX1_makeRoomAt_36 : decode cX1_makeRoomAt 36 = .ok (.invokestatic 87, 3) := by decide +kernel
theorem dX1_makeRoomAt_39 : decode cX1_makeRoomAt 39 = .ok (.aload_n 0, 1) := by decide +kernel
theorem dX1_makeRoomAt_40 : decode cX1_makeRoomAt 40 = .ok (.getfield 18, 3) := by decide +kernel
theorem dX1_makeRoomAt_43 : decode cX1_makeRoomAt 43 = .ok (.iload_n 1, 1) := by decide +kernel
theorem dX1_makeRoomAt_44 : decode cX1_makeRoomAt 44 = .ok (.aload_n 0, 1) := by decide +kernel
theorem dX1_makeRoomAt_45 : decode cX1_makeRoomAt 45 = .ok (.getfield 18, 3) := by decide +kernel
theorem dX1_makeRoomAt_48 : decode cX1_makeRoomAt 48 = .ok (.iload_n 1, 1) := by decide +kernel
theorem dX1_makeRoomAt_49 : decode cX1_makeRoomAt 49 = .ok (.iconst 1, 1) := by decide +kernel
theorem dX1_makeRoomAt_50 : decode cX1_makeRoomAt 50 = .ok (.iadd, 1) := by decide +kernel
theorem dX1_makeRoomAt_51 : decode cX1_makeRoomAt 51 = .ok (.iload_n 2, 1) := by decide +kernel
theorem dX1_makeRoomAt_52 : decode cX1_makeRoomAt 52 = .ok (.invokestatic 87, 3) := by decide +kernel
theorem dX1_makeRoomAt_55 : decode cX1_makeRoomAt 55 = .ok (.aload_n 0, 1) := by decide +kernel
theorem dX1_makeRoomAt_56 : decode cX1_makeRoomAt 56 = .ok (.getfield 21, 3) := by decide +kernel
theorem dX1_makeRoomAt_59 : decode cX1_makeRoomAt 59 = .ok (.iload_n 1, 1) := by decide +kernel
theorem dX1_makeRoomAt_60 : decode cX1_makeRoomAt 60 = .ok (.aload_n 0, 1) := by decide +kernel
theorem dX1_makeRoomAt_61 : decode cX1_makeRoomAt 61 = .ok (.getfield 21, 3) := by decide +kernel
theorem dX1_makeRoomAt_64 : decode cX1_makeRoomAt 64 = .ok (.iload_n 1, 1) := by decide +kernel
theorem dX1_makeRoomAt_65 : decode cX1_makeRoomAt 65 = .ok (.iconst 1, 1) := by decide +kernel
theorem dX1_makeRoomAt_66 : decode cX1_makeRoomAt 66 = .ok (.iadd, 1) := by decide +kernel
theorem dX1_makeRoomAt_67 : decode cX1_makeRoomAt 67 = .ok (.iload_n 2, 1) := by decide +kernel
theorem dX1_makeRoomAt_68 : decode cX1_makeRoomAt 68 = .ok (.invokestatic 87, 3) := by decide +kernel
theorem dX1_makeRoomAt_71 : decode cX1_makeRoomAt 71 = .ok (.aload_n 0, 1) := by decide +kernel
theorem dX1_makeRoomAt_72 : decode cX1_makeRoomAt 72 = .ok (.dup, 1) := by decide +kernel
theorem dX1_makeRoomAt_73 : decode cX1_makeRoomAt 73 = .ok (.getfield 44, 3) := by decide +kernel
theorem dX1_makeRoomAt_76 : decode cX1_makeRoomAt 76 = .ok (.iconst 1, 1) := by decide +kernel
theorem dX1_makeRoomAt_77 : decode cX1_makeRoomAt 77 = .ok (.iadd, 1) := by decide +kernel
theorem dX1_makeRoomAt_78 : decode cX1_makeRoomAt 78 = .ok (.putfield 44, 3) := by decide +kernel
theorem dX1_makeRoomAt_81 : decode cX1_makeRoomAt 81 = .ok (.return_, 1) := by decide +kernel
set_option maxRecDepth 20000 in
theorem ggX1_gatherTies_J7_fill_53178 : GoodIn wsX1_gatherTies wsJ7_fill_53178 := goodIn_r _ [9] (by decide +kernel) (by decide +kernel)
set_option maxRecDepth 20000 in
theorem gX1_gatherTies_J7_fill_53178 : GoodIn wsX1_gatherTies (va_wsS RX1 93 yJ7_fill_53178 wsJ7_fill_53178) := goodIn_app (goodIn_of _ (by decide +kernel)) ggX1_gatherTies_J7_fill_53178
theorem dX1_gatherTies_0 : decode cX1_gatherTies 0 = .ok (.aload_n 0, 1) := by decide +kernel
theorem dX1_gatherTies_1 : decode cX1_gatherTies 1 = .ok (.getfield 24, 3) := by decide +kernel
theorem dX1_gatherTies_4 : decode cX1_gatherTies 4 = .ok (.iconst 0, 1) := by decide +kernel
theorem dX1_gatherTies_5 : decode cX1_gatherTies 5 = .ok (.invokestatic 93, 3) := by decide +kernel
theorem dX1_gatherTies_8 : decode cX1_gatherTies 8 = .ok (.iconst 0, 1) := by decide +kernel
theorem dX1_gatherTies_9 : decode cX1_gatherTies 9 = .ok (.istore_n 1, 1) := by decide +kernel
theorem dX1_gatherTies_10 : decode cX1_gatherTies 10 = .ok (.iload_n 1, 1) := by decide +kernel
theorem dX1_gatherTies_11 : decode cX1_gatherTies 11 = .ok (.aload_n 0, 1) := by decide +kernel
theorem dX1_gatherTies_12 : decode cX1_gatherTies 12 = .ok (.getfield 44, 3) := by decide +kernel
theorem dX1_gatherTies_15 : decode cX1_gatherTies 15 = .ok (.if_icmp .ge 40, 3) := by decide +kernel
theorem dX1_gatherTies_18 : decode cX1_gatherTies 18 = .ok (.aload_n 0, 1) := by decide +kernel
theorem dX1_gatherTies_19 : decode cX1_gatherTies 19 = .ok (.getfield 18, 3) := by decide +kernel
theorem dX1_gatherTies_22 : decode cX1_gatherTies 22 = .ok (.iload_n 1, 1) := by decide +kernel
theorem dX1_gatherTies_23 : decode cX1_gatherTies 23 = .ok (.iaload, 1) := by decide +kernel
theorem dX1_gatherTies_24 : decode cX1_gatherTies 24 = .ok (.ifCond .le 25, 3) := by decide +kernel
theorem dX1_gatherTies_27 : decode cX1_gatherTies 27 = .ok (.aload_n 0, 1) := by decide +kernel
theorem dX1_gatherTies_28 : decode cX1_gatherTies 28 = .ok (.getfield 24, 3) := by decide +kernel
theorem dX1_gatherTies_31 : decode cX1_gatherTies 31 = .ok (.aload_n 0, 1) := by decide +kernel
theorem dX1_gatherTies_32 : decode cX1_gatherTies 32 = .ok (.getfield 9, 3) := by decide +kernel
theorem dX1_gatherTies_35 : decode cX1_gatherTies 35 = .ok (.iload_n 1, 1) := by decide +kernel
theorem dX1_gatherTies_36 : decode cX1_gatherTies 36 = .ok (.iaload, 1) := by decide +kernel
theorem dX1_gatherTies_37 : decode cX1_gatherTies 37 = .ok (.dup2, 1) := by decide +kernel
theorem dX1_gatherTies_38 : decode cX1_gatherTies 38 = .ok (.iaload, 1) := by decide +kernel
theorem dX1_gatherTies_39 : decode cX1_gatherTies 39 = .ok (.iconst 1, 1) := by decide +kernel
theorem dX1_gatherTies_40 : decode cX1_gatherTies 40 = .ok (.aload_n 0, 1) := by decide +kernel
theorem dX1_gatherTies_41 : decode cX1_gatherTies 41 = .ok (.getfield 15, 3) := by decide +kernel
theorem dX1_gatherTies_44 : decode cX1_gatherTies 44 = .ok (.iload_n 1, 1) := by decide +kernel
theorem dX1_gatherTies_45 : decode cX1_gatherTies 45 = .ok (.iaload, 1) := by decide +kernel
theorem dX1_gatherTies_46 : decode cX1_gatherTies 46 = .ok (.ishl, 1) := by decide +kernel
theorem dX1_gatherTies_47 : decode cX1_gatherTies 47 = .ok (.ior, 1) := by decide +kernel
theorem dX1_gatherTies_48 : decode cX1_gatherTies 48 = .ok (.iastore, 1) := by decide +kernel
theorem dX1_gatherTies_49 : decode cX1_gatherTies 49 = .ok (.iinc 1 1, 3) := by decide +kernel
theorem dX1_gatherTies_52 : decode cX1_gatherTies 52 = .ok (.goto (-42), 3) := by decide +kernel
theorem dX1_gatherTies_55 : decode cX1_gatherTies 55 = .ok (.return_, 1) := by decide +kernel
theorem dX1_tiedToAnyOf_0 : decode cX1_tiedToAnyOf 0 = .ok (.iconst 0, 1) := by decide +kernel
theorem dX1_tiedToAnyOf_1 : decode cX1_tiedToAnyOf 1 = .ok (.istore_n 2, 1) := by decide +kernel
theorem dX1_tiedToAnyOf_2 : decode cX1_tiedToAnyOf 2 = .ok (.iconst 0, 1) := by decide +kernel
theorem dX1_tiedToAnyOf_3 : decode cX1_tiedToAnyOf 3 = .ok (.istore_n 3, 1) := by decide +kernel
theorem dX1_tiedToAnyOf_4 : decode cX1_tiedToAnyOf 4 = .ok (.iload_n 3, 1) := by decide +kernel
theorem dX1_tiedToAnyOf_5 : decode cX1_tiedToAnyOf 5 = .ok (.bipush 10, 2) := by decide +kernel
theorem dX1_tiedToAnyOf_7 : decode cX1_tiedToAnyOf 7 = .ok (.if_icmp .ge 26, 3) := by decide +kernel
theorem dX1_tiedToAnyOf_10 : decode cX1_tiedToAnyOf 10 = .ok (.iload_n 1, 1) := by decide +kernel
theorem dX1_tiedToAnyOf_11 : decode cX1_tiedToAnyOf 11 = .ok (.iconst 1, 1) := by decide +kernel
theorem dX1_tiedToAnyOf_12 : decode cX1_tiedToAnyOf 12 = .ok (.iload_n 3, 1) := by decide +kernel
theorem dX1_tiedToAnyOf_13 : decode cX1_tiedToAnyOf 13 = .ok (.ishl, 1) := by decide +kernel
theorem dX1_tiedToAnyOf_14 : decode cX1_tiedToAnyOf 14 = .ok (.iand, 1) := by decide +kernel
theorem dX1_tiedToAnyOf_15 : decode cX1_tiedToAnyOf 15 = .ok (.ifCond .eq 12, 3) := by decide +kernel
theorem dX1_tiedToAnyOf_18 : decode cX1_tiedToAnyOf 18 = .ok (.iload_n 2, 1) := by decide +kernel
theorem dX1_tiedToAnyOf_19 : decode cX1_tiedToAnyOf 19 = .ok (.aload_n 0, 1) := by decide +kernel
theorem dX1_tiedToAnyOf_20 : decode cX1_tiedToAnyOf 20 = .ok (.getfield 24, 3) := by decide +kernel
theorem dX1_tiedToAnyOf_23 : decode cX1_tiedToAnyOf 23 = .ok (.iload_n 3, 1) := by decide +kernel
theorem dX1_tiedToAnyOf_24 : decode cX1_tiedToAnyOf 24 = .ok (.iaload, 1) := by decide +kernel
theorem dX1_tiedToAnyOf_25 : decode cX1_tiedToAnyOf 25 = .ok (.ior, 1) := by decide +kernel
theorem dX1_tiedToAnyOf_26 : decode cX1_tiedToAnyOf 26 = .ok (.istore_n 2, 1) := by decide +kernel
theorem dX1_tiedToAnyOf_27 : decode cX1_tiedToAnyOf 27 = .ok (.iinc 3 1, 3) := by decide +kernel
theorem dX1_tiedToAnyOf_30 : decode cX1_tiedToAnyOf 30 = .ok (.goto (-26), 3) := by decide +kernel
theorem dX1_tiedToAnyOf_33 : decode cX1_tiedToAnyOf 33 = .ok (.iload_n 2, 1) := by decide +kernel
theorem dX1_tiedToAnyOf_34 : decode cX1_tiedToAnyOf 34 = .ok (.ireturn, 1) := by decide +kernel
set_option maxRecDepth 20000 in
theorem ggX1_isTiedTo_X1_tiedToAnyOf : GoodIn wsX1_isTiedTo wsX1_tiedToAnyOf := goodIn_r _ [5, 6, 7, 8, 9, 10, 11, 12, 13, 14, 15, 16, 17] (by decide +kernel) (by decide +kernel)
set_option maxRecDepth 20000 in
theorem gX1_isTiedTo_X1_tiedToAnyOf : GoodIn wsX1_isTiedTo (wsV RX1 99 RX1 yX1_tiedToAnyOf wsX1_tiedToAnyOf) := goodIn_app (goodIn_of _ (by decide +kernel)) ggX1_isTiedTo_X1_tiedToAnyOf
theorem dX1_isTiedTo_0 : decode cX1_isTiedTo 0 = .ok (.iconst 1, 1) := by decide +kernel
theorem dX1_isTiedTo_1 : decode cX1_isTiedTo 1 = .ok (.iload_n 1, 1) := by decide +kernel
theorem dX1_isTiedTo_2 : decode cX1_isTiedTo 2 = .ok (.ishl, 1) := by decide +kernel
theorem dX1_isTiedTo_3 : decode cX1_isTiedTo 3 = .ok (.istore_n 3, 1) := by decide +kernel
theorem dX1_isTiedTo_4 : decode cX1_isTiedTo 4 = .ok (.iconst 1, 1) := by decide +kernel
theorem dX1_isTiedTo_5 : decode cX1_isTiedTo 5 = .ok (.istore 4, 2) := by decide +kernel
theorem dX1_isTiedTo_7 : decode cX1_isTiedTo 7 = .ok (.iload 4, 2) := by decide +kernel
theorem dX1_isTiedTo_9 : decode cX1_isTiedTo 9 = .ok (.bipush 10, 2) := by decide +kernel
theorem dX1_isTiedTo_11 : decode cX1_isTiedTo 11 = .ok (.if_icmp .ge 17, 3) := by decide +kernel
theorem dX1_isTiedTo_14 : decode cX1_isTiedTo 14 = .ok (.iload_n 3, 1) := by decide +kernel
theorem dX1_isTiedTo_15 : decode cX1_isTiedTo 15 = .ok (.aload_n 0, 1) := by decide +kernel
theorem dX1_isTiedTo_16 : decode cX1_isTiedTo 16 = .ok (.iload_n 3, 1) := by decide +kernel
theorem dX1_isTiedTo_17 : decode cX1_isTiedTo 17 = .ok (.invokevirtual 99, 3) := by decide +kernel
theorem dX1_isTiedTo_20 : decode cX1_isTiedTo 20 = .ok (.ior, 1) := by decide +kernel
theorem dX1_isTiedTo_21 : decode cX1_isTiedTo 21 = .ok (.istore_n 3, 1) := by decide +kernel
theorem dX1_isTiedTo_22 : decode cX1_isTiedTo 22 = .ok (.iinc 4 1, 3) := by decide +kernel
theorem dX1_isTiedTo_25 : decode cX1_isTiedTo 25 = .ok (.goto (-18), 3) := by decide +kernel
theorem dX1_isTiedTo_28 : decode cX1_isTiedTo 28 = .ok (.iload_n 3, 1) := by decide +kernel
theorem dX1_isTiedTo_29 : decode cX1_isTiedTo 29 = .ok (.iconst 1, 1) := by decide +kernel
theorem dX1_isTiedTo_30 : decode cX1_isTiedTo 30 = .ok (.iload_n 2, 1) := by decide +kernel
theorem dX1_isTiedTo_31 : decode cX1_isTiedTo 31 = .ok (.ishl, 1) := by decide +kernel
theorem dX1_isTiedTo_32 : decode cX1_isTiedTo 32 = .ok (.iand, 1) := by decide +kernel
theorem dX1_isTiedTo_33 : decode cX1_isTiedTo 33 = .ok (.ifCond .eq 7, 3) := by decide +kernel
theorem dX1_isTiedTo_36 : decode cX1_isTiedTo 36 = .ok (.iconst 1, 1) := by decide +kernel
theorem dX1_isTiedTo_37 : decode cX1_isTiedTo 37 = .ok (.goto 4, 3) := by decide +kernel
theorem dX1_isTiedTo_40 : decode cX1_isTiedTo 40 = .ok (.iconst 0, 1) := by decide +kernel
theorem dX1_isTiedTo_41 : decode cX1_isTiedTo 41 = .ok (.ireturn, 1) := by decide +kernel
set_option maxRecDepth 20000 in
theorem ggX1_isTooDeep_X1_tiedToAnyOf : GoodIn wsX1_isTooDeep wsX1_tiedToAnyOf := goodIn_r _ [5, 6, 7, 8, 9, 10, 11, 12, 13, 14, 15, 16, 17] (by decide +kernel) (by decide +kernel)
set_option maxRecDepth 20000 in
theorem gX1_isTooDeep_X1_tiedToAnyOf : GoodIn wsX1_isTooDeep (wsV RX1 99 RX1 yX1_tiedToAnyOf wsX1_tiedToAnyOf) := goodIn_app (goodIn_of _ (by decide +kernel)) ggX1_isTooDeep_X1_tiedToAnyOf
theorem dX1_isTooDeep_0 : decode cX1_isTooDeep 0 = .ok (.iconst 1, 1) := by decide +kernel
theorem dX1_isTooDeep_1 : decode cX1_isTooDeep 1 = .ok (.istore_n 1, 1) := by decide +kernel
theorem dX1_isTooDeep_2 : decode cX1_isTooDeep 2 = .ok (.iconst 0, 1) := by decide +kernel
theorem dX1_isTooDeep_3 : decode cX1_isTooDeep 3 = .ok (.istore_n 2, 1) := by decide +kernel
theorem dX1_isTooDeep_4 : decode cX1_isTooDeep 4 = .ok (.iload_n 2, 1) := by decide +kernel
theorem dX1_isTooDeep_5 : decode cX1_isTooDeep 5 = .ok (.iconst 3, 1) := by decide +kernel
theorem dX1_isTooDeep_6 : decode cX1_isTooDeep 6 = .ok (.if_icmp .gt 15, 3) := by decide +kernel
theorem dX1_isTooDeep_9 : decode cX1_isTooDeep 9 = .ok (.aload_n 0, 1) := by decide +kernel
theorem dX1_isTooDeep_10 : decode cX1_isTooDeep 10 = .ok (.iload_n 1, 1) := by decide +kernel
theorem dX1_isTooDeep_11 : decode cX1_isTooDeep 11 = .ok (.invokevirtual 99, 3) := by decide +kernel
theorem dX1_isTooDeep_14 : decode cX1_isTooDeep 14 = .ok (.istore_n 1, 1) := by decide +kernel
theorem dX1_isTooDeep_15 : decode cX1_isTooDeep 15 = .ok (.iinc 2 1, 3) := by decide +kernel
theorem dX1_isTooDeep_18 : decode cX1_isTooDeep 18 = .ok (.goto (-14), 3) := by decide +kernel
theorem dX1_isTooDeep_21 : decode cX1_isTooDeep 21 = .ok (.iload_n 1, 1) := by decide +kernel
theorem dX1_isTooDeep_22 : decode cX1_isTooDeep 22 = .ok (.ifCond .eq 7, 3) := by decide +kernel
theorem dX1_isTooDeep_25 : decode cX1_isTooDeep 25 = .ok (.iconst 1, 1) := by decide +kernel
theorem dX1_isTooDeep_26 : decode cX1_isTooDeep 26 = .ok (.goto 4, 3) := by decide +kernel
theorem dX1_isTooDeep_29 : decode cX1_isTooDeep 29 = .ok (.iconst 0, 1) := by decide +kernel
theorem dX1_isTooDeep_30 : decode cX1_isTooDeep 30 = .ok (.ireturn, 1) := by decide +kernel
theorem dX1_forgetSpans_0 : decode cX1_forgetSpans 0 = .ok (.iconst 0, 1) := by decide +kernel
theorem dX1_forgetSpans_1 : decode cX1_forgetSpans 1 = .ok (.istore_n 1, 1) := by decide +kernel
theorem dX1_forgetSpans_2 : decode cX1_forgetSpans 2 = .ok (.iload_n 1, 1) := by decide +kernel
theorem dX1_forgetSpans_3 : decode cX1_forgetSpans 3 = .ok (.bipush 100, 2) := by decide +kernel
theorem dX1_forgetSpans_5 : decode cX1_forgetSpans 5 = .ok (.if_icmp .gt 16, 3) := by decide +kernel
theorem dX1_forgetSpans_8 : decode cX1_forgetSpans 8 = .ok (.aload_n 0, 1) := by decide +kernel
theorem dX1_forgetSpans_9 : decode cX1_forgetSpans 9 = .ok (.getfield 27, 3) := by decide +kernel
theorem dX1_forgetSpans_12 : decode cX1_forgetSpans 12 = .ok (.iload_n 1, 1) := by decide +kernel
theorem dX1_forgetSpans_13 : decode cX1_forgetSpans 13 = .ok (.iconst 0, 1) := by decide +kernel
theorem dX1_forgetSpans_14 : decode cX1_forgetSpans 14 = .ok (.bastore, 1) := by decide +kernel
theorem dX1_forgetSpans_15 : decode cX1_forgetSpans 15 = .ok (.iinc 1 1, 3) := by decide +kernel
theorem dX1_forgetSpans_18 : decode cX1_forgetSpans 18 = .ok (.goto (-16), 3) := by decide +kernel
theorem dX1_forgetSpans_21 : decode cX1_forgetSpans 21 = .ok (.return_, 1) := by decide +kernel
set_option maxRecDepth 20000 in
theorem ggX1_shareIn_X1_makeSpan : GoodIn wsX1_shareIn wsX1_makeSpan := goodIn_r _ [7, 8, 9, 10, 11, 12, 13, 2, 14, 15, 16, 17, 1, 18, 19, 20, 21, 22, 23, 24, 25, 26, 27, 6, 28, 29, 30, 31, 32, 33, 34, 35, 36, 37, 38, 39, 40, 41] (by decide +kernel) (by decide +kernel)
set_option maxRecDepth 20000 in
theorem gX1_shareIn_X1_makeSpan : GoodIn wsX1_shareIn (wsV RX1 102 RX1 yX1_makeSpan wsX1_makeSpan) := goodIn_app (goodIn_of _ (by decide +kernel)) ggX1_shareIn_X1_makeSpan
theorem dX1_shareIn_0 : decode cX1_shareIn 0 = .ok (.aload_n 0, 1) := by decide +kernel
theorem dX1_shareIn_1 : decode cX1_shareIn 1 = .ok (.getfield 27, 3) := by decide +kernel
theorem dX1_shareIn_4 : decode cX1_shareIn 4 = .ok (.iload_n 1, 1) := by decide +kernel
theorem dX1_shareIn_5 : decode cX1_shareIn 5 = .ok (.baload, 1) := by decide +kernel
theorem dX1_shareIn_6 : decode cX1_shareIn 6 = .ok (.ifCond .ne 8, 3) := by decide +kernel
theorem dX1_shareIn_9 : decode cX1_shareIn 9 = .ok (.aload_n 0, 1) := by decide +kernel
theorem dX1_shareIn_10 : decode cX1_shareIn 10 = .ok (.iload_n 1, 1) := by decide +kernel
theorem dX1_shareIn_11 : decode cX1_shareIn 11 = .ok (.invokevirtual 102, 3) := by decide +kernel
theorem dX1_shareIn_14 : decode cX1_shareIn 14 = .ok (.aload_n 0, 1) := by decide +kernel
theorem dX1_shareIn_15 : decode cX1_shareIn 15 = .ok (.getfield 31, 3) := by decide +kernel
theorem dX1_shareIn_18 : decode cX1_shareIn 18 = .ok (.iload_n 1, 1) := by decide +kernel
theorem dX1_shareIn_19 : decode cX1_shareIn 19 = .ok (.bipush 10, 2) := by decide +kernel
theorem dX1_shareIn_21 : decode cX1_shareIn 21 = .ok (.imul, 1) := by decide +kernel
theorem dX1_shareIn_22 : decode cX1_shareIn 22 = .ok (.iload_n 2, 1) := by decide +kernel
theorem dX1_shareIn_23 : decode cX1_shareIn 23 = .ok (.iadd, 1) := by decide +kernel
theorem dX1_shareIn_24 : decode cX1_shareIn 24 = .ok (.laload, 1) := by decide +kernel
theorem dX1_shareIn_25 : decode cX1_shareIn 25 = .ok (.lreturn, 1) := by decide +kernel
set_option maxRecDepth 20000 in
theorem ggX1_makeSpan_J7_fill_53178 : GoodIn wsX1_makeSpan wsJ7_fill_53178 := goodIn_r _ [16] (by decide +kernel) (by decide +kernel)
set_option maxRecDepth 20000 in
theorem gX1_makeSpan_J7_fill_53178 : GoodIn wsX1_makeSpan (va_wsS RX1 93 yJ7_fill_53178 wsJ7_fill_53178) := goodIn_app (goodIn_of _ (by decide +kernel)) ggX1_makeSpan_J7_fill_53178
set_option maxRecDepth 20000 in
theorem ggX1_makeSpan_J7_fill_d0a16 : GoodIn wsX1_makeSpan wsJ7_fill_d0a16 := goodIn_r _ [19] (by decide +kernel) (by decide +kernel)
set_option maxRecDepth 20000 in
theorem gX1_makeSpan_J7_fill_d0a16 : GoodIn wsX1_makeSpan (va_wsS RX1 105 yJ7_fill_d0a16 wsJ7_fill_d0a16) := goodIn_app (goodIn_of _ (by decide +kernel)) ggX1_makeSpan_J7_fill_d0a16
set_option maxRecDepth 20000 in
theorem ggX1_makeSpan_X1_goOneStep : GoodIn wsX1_makeSpan wsX1_goOneStep := goodIn_r _ [24, 5, 1, 25, 26, 8, 9, 10, 11, 27, 28, 29, 30, 31, 32, 33, 34, 35, 36, 37] (by decide +kernel) (by decide +kernel)
set_option maxRecDepth 20000 in
theorem gX1_makeSpan_X1_goOneStep : GoodIn wsX1_makeSpan (wsV RX1 110 RX1 yX1_goOneStep wsX1_goOneStep) := goodIn_app (goodIn_of _ (by decide +kernel)) ggX1_makeSpan_X1_goOneStep
theorem dX1_makeSpan_0 : decode cX1_makeSpan 0 = .ok (.aload_n 0, 1) := by decide +kernel
theorem dX1_makeSpan_1 : decode cX1_makeSpan 1 = .ok (.getfield 35, 3) := by decide +kernel
theorem dX1_makeSpan_4 : decode cX1_makeSpan 4 = .ok (.iconst 0, 1) := by decide +kernel
theorem dX1_makeSpan_5 : decode cX1_makeSpan 5 = .ok (.invokestatic 93, 3) := by decide +kernel
theorem dX1_makeSpan_8 : decode cX1_makeSpan 8 = .ok (.iconst 0, 1) := by decide +kernel
theorem dX1_makeSpan_9 : decode cX1_makeSpan 9 = .ok (.istore_n 2, 1) := by decide +kernel
theorem dX1_makeSpan_10 : decode cX1_makeSpan 10 = .ok (.iload_n 2, 1) := by decide +kernel
theorem dX1_makeSpan_11 : decode cX1_makeSpan 11 = .ok (.iload_n 1, 1) := by decide +kernel
theorem dX1_makeSpan_12 : decode cX1_makeSpan 12 = .ok (.if_icmp .ge 36, 3) := by decide +kernel
theorem dX1_makeSpan_15 : decode cX1_makeSpan 15 = .ok (.aload_n 0, 1) := by decide +kernel
theorem dX1_makeSpan_16 : decode cX1_makeSpan 16 = .ok (.getfield 35, 3) := by decide +kernel
theorem dX1_makeSpan_19 : decode cX1_makeSpan 19 = .ok (.aload_n 0, 1) := by decide +kernel
theorem dX1_makeSpan_20 : decode cX1_makeSpan 20 = .ok (.getfield 9, 3) := by decide +kernel
theorem dX1_makeSpan_23 : decode cX1_makeSpan 23 = .ok (.iload_n 2, 1) := by decide +kernel
theorem dX1_makeSpan_24 : decode cX1_makeSpan 24 = .ok (.iaload, 1) := by decide +kernel
theorem dX1_makeSpan_25 : decode cX1_makeSpan 25 = .ok (.bipush 10, 2) := by decide +kernel
theorem dX1_makeSpan_27 : decode cX1_makeSpan 27 = .ok (.imul, 1) := by decide +kernel
theorem dX1_makeSpan_28 : decode cX1_makeSpan 28 = .ok (.aload_n 0, 1) := by decide +kernel
theorem dX1_makeSpan_29 : decode cX1_makeSpan 29 = .ok (.getfield 15, 3) := by decide +kernel
theorem dX1_makeSpan_32 : decode cX1_makeSpan 32 = .ok (.iload_n 2, 1) := by decide +kernel
theorem dX1_makeSpan_33 : decode cX1_makeSpan 33 = .ok (.iaload, 1) := by decide +kernel
theorem dX1_makeSpan_34 : decode cX1_makeSpan 34 = .ok (.iadd, 1) := by decide +kernel
theorem dX1_makeSpan_35 : decode cX1_makeSpan 35 = .ok (.aload_n 0, 1) := by decide +kernel
theorem dX1_makeSpan_36 : decode cX1_makeSpan 36 = .ok (.getfield 18, 3) := by decide +kernel
theorem dX1_makeSpan_39 : decode cX1_makeSpan 39 = .ok (.iload_n 2, 1) := by decide +kernel
theorem dX1_makeSpan_40 : decode cX1_makeSpan 40 = .ok (.iaload, 1) := by decide +kernel
theorem dX1_makeSpan_41 : decode cX1_makeSpan 41 = .ok (.iastore, 1) := by decide +kernel
theorem dX1_makeSpan_42 : decode cX1_makeSpan 42 = .ok (.iinc 2 1, 3) := by decide +kernel
theorem dX1_makeSpan_45 : decode cX1_makeSpan 45 = .ok (.goto (-35), 3) := by decide +kernel
theorem dX1_makeSpan_48 : decode cX1_makeSpan 48 = .ok (.aload_n 0, 1) := by decide +kernel
theorem dX1_makeSpan_49 : decode cX1_makeSpan 49 = .ok (.getfield 38, 3) := by decide +kernel
theorem dX1_makeSpan_52 : decode cX1_makeSpan 52 = .ok (.lconst 0, 1) := by decide +kernel
theorem dX1_makeSpan_53 : decode cX1_makeSpan 53 = .ok (.invokestatic 105, 3) := by decide +kernel
theorem dX1_makeSpan_56 : decode cX1_makeSpan 56 = .ok (.aload_n 0, 1) := by decide +kernel
theorem dX1_makeSpan_57 : decode cX1_makeSpan 57 = .ok (.getfield 38, 3) := by decide +kernel
theorem dX1_makeSpan_60 : decode cX1_makeSpan 60 = .ok (.iconst 0, 1) := by decide +kernel
theorem dX1_makeSpan_61 : decode cX1_makeSpan 61 = .ok (.ldc2_w 108, 3) := by decide +kernel
theorem dX1_makeSpan_64 : decode cX1_makeSpan 64 = .ok (.lastore, 1) := by decide +kernel
theorem dX1_makeSpan_65 : decode cX1_makeSpan 65 = .ok (.iload_n 1, 1) := by decide +kernel
theorem dX1_makeSpan_66 : decode cX1_makeSpan 66 = .ok (.bipush 10, 2) := by decide +kernel
theorem dX1_makeSpan_68 : decode cX1_makeSpan 68 = .ok (.imul, 1) := by decide +kernel
theorem dX1_makeSpan_69 : decode cX1_makeSpan 69 = .ok (.istore_n 2, 1) := by decide +kernel
theorem dX1_makeSpan_70 : decode cX1_makeSpan 70 = .ok (.aload_n 0, 1) := by decide +kernel
theorem dX1_makeSpan_71 : decode cX1_makeSpan 71 = .ok (.getfield 38, 3) := by decide +kernel
theorem dX1_makeSpan_74 : decode cX1_makeSpan 74 = .ok (.iconst 0, 1) := by decide +kernel
theorem dX1_makeSpan_75 : decode cX1_makeSpan 75 = .ok (.aload_n 0, 1) := by decide +kernel
theorem dX1_makeSpan_76 : decode cX1_makeSpan 76 = .ok (.getfield 31, 3) := by decide +kernel
theorem dX1_makeSpan_79 : decode cX1_makeSpan 79 = .ok (.iload_n 2, 1) := by decide +kernel
theorem dX1_makeSpan_80 : decode cX1_makeSpan 80 = .ok (.bipush 10, 2) := by decide +kernel
theorem dX1_makeSpan_82 : decode cX1_makeSpan 82 = .ok (.invokestatic 87, 3) := by decide +kernel
theorem dX1_makeSpan_85 : decode cX1_makeSpan 85 = .ok (.iconst 0, 1) := by decide +kernel
theorem dX1_makeSpan_86 : decode cX1_makeSpan 86 = .ok (.istore_n 3, 1) := by decide +kernel
theorem dX1_makeSpan_87 : decode cX1_makeSpan 87 = .ok (.iload_n 3, 1) := by decide +kernel
theorem dX1_makeSpan_88 : decode cX1_makeSpan 88 = .ok (.iconst 3, 1) := by decide +kernel
theorem dX1_makeSpan_89 : decode cX1_makeSpan 89 = .ok (.if_icmp .ge 48, 3) := by decide +kernel
theorem dX1_makeSpan_92 : decode cX1_makeSpan 92 = .ok (.aload_n 0, 1) := by decide +kernel
theorem dX1_makeSpan_93 : decode cX1_makeSpan 93 = .ok (.invokevirtual 110, 3) := by decide +kernel
theorem dX1_makeSpan_96 : decode cX1_makeSpan 96 = .ok (.iconst 0, 1) := by decide +kernel
theorem dX1_makeSpan_97 : decode cX1_makeSpan 97 = .ok (.istore 4, 2) := by decide +kernel
theorem dX1_makeSpan_99 : decode cX1_makeSpan 99 = .ok (.iload 4, 2) := by decide +kernel
theorem dX1_makeSpan_101 : decode cX1_makeSpan 101 = .ok (.bipush 10, 2) := by decide +kernel
theorem dX1_makeSpan_103 : decode cX1_makeSpan 103 = .ok (.if_icmp .ge 28, 3) := by decide +kernel
theorem dX1_makeSpan_106 : decode cX1_makeSpan 106 = .ok (.aload_n 0, 1) := by decide +kernel
theorem dX1_makeSpan_107 : decode cX1_makeSpan 107 = .ok (.getfield 31, 3) := by decide +kernel
theorem dX1_makeSpan_110 : decode cX1_makeSpan 110 = .ok (.iload_n 2, 1) := by decide +kernel
theorem dX1_makeSpan_111 : decode cX1_makeSpan 111 = .ok (.iload 4, 2) := by decide +kernel
theorem dX1_makeSpan_113 : decode cX1_makeSpan 113 = .ok (.iadd, 1) := by decide +kernel
theorem dX1_makeSpan_114 : decode cX1_makeSpan 114 = .ok (.dup2, 1) := by decide +kernel
theorem dX1_makeSpan_115 : decode cX1_makeSpan 115 = .ok (.laload, 1) := by decide +kernel
theorem dX1_makeSpan_116 : decode cX1_makeSpan 116 = .ok (.aload_n 0, 1) := by decide +kernel
theorem dX1_makeSpan_117 : decode cX1_makeSpan 117 = .ok (.getfield 38, 3) := by decide +kernel
theorem dX1_makeSpan_120 : decode cX1_makeSpan 120 = .ok (.iload 4, 2) := by decide +kernel
theorem dX1_makeSpan_122 : decode cX1_makeSpan 122 = .ok (.laload, 1) := by decide +kernel
theorem dX1_makeSpan_123 : decode cX1_makeSpan 123 = .ok (.ladd, 1) := by decide +kernel
theorem dX1_makeSpan_124 : decode cX1_makeSpan 124 = .ok (.lastore, 1) := by decide +kernel
theorem dX1_makeSpan_125 : decode cX1_makeSpan 125 = .ok (.iinc 4 1, 3) := by decide +kernel
theorem dX1_makeSpan_128 : decode cX1_makeSpan 128 = .ok (.goto (-29), 3) := by decide +kernel
theorem dX1_makeSpan_131 : decode cX1_makeSpan 131 = .ok (.iinc 3 1, 3) := by decide +kernel
theorem dX1_makeSpan_134 : decode cX1_makeSpan 134 = .ok (.goto (-47), 3) := by decide +kernel
theorem dX1_makeSpan_137 : decode cX1_makeSpan 137 = .ok (.aload_n 0, 1) := by decide +kernel
theorem dX1_makeSpan_138 : decode cX1_makeSpan 138 = .ok (.getfield 27, 3) := by decide +kernel
theorem dX1_makeSpan_141 : decode cX1_makeSpan 141 = .ok (.iload_n 1, 1) := by decide +kernel
theorem dX1_makeSpan_142 : decode cX1_makeSpan 142 = .ok (.iconst 1, 1) := by decide +kernel
theorem dX1_makeSpan_143 : decode cX1_makeSpan 143 = .ok (.bastore, 1) := by decide +kernel
theorem dX1_makeSpan_144 : decode cX1_makeSpan 144 = .ok (.return_, 1) := by decide +kernel
theorem dX1_goOneStep_0 : decode cX1_goOneStep 0 = .ok (.iconst 0, 1) := by decide +kernel
theorem dX1_goOneStep_1 : decode cX1_goOneStep 1 = .ok (.istore_n 1, 1) := by decide +kernel
theorem dX1_goOneStep_2 : decode cX1_goOneStep 2 = .ok (.iload_n 1, 1) := by decide +kernel
theorem dX1_goOneStep_3 : decode cX1_goOneStep 3 = .ok (.bipush 10, 2) := by decide +kernel
theorem dX1_goOneStep_5 : decode cX1_goOneStep 5 = .ok (.if_icmp .ge 62, 3) := by decide +kernel
theorem dX1_goOneStep_8 : decode cX1_goOneStep 8 = .ok (.lconst 0, 1) := by decide +kernel
theorem dX1_goOneStep_9 : decode cX1_goOneStep 9 = .ok (.lstore_n 2, 1) := by decide +kernel
theorem dX1_goOneStep_10 : decode cX1_goOneStep 10 = .ok (.iconst 0, 1) := by decide +kernel
theorem dX1_goOneStep_11 : decode cX1_goOneStep 11 = .ok (.istore 4, 2) := by decide +kernel
theorem dX1_goOneStep_13 : decode cX1_goOneStep 13 = .ok (.iload 4, 2) := by decide +kernel
theorem dX1_goOneStep_15 : decode cX1_goOneStep 15 = .ok (.bipush 10, 2) := by decide +kernel
theorem dX1_goOneStep_17 : decode cX1_goOneStep 17 = .ok (.if_icmp .ge 33, 3) := by decide +kernel
theorem dX1_goOneStep_20 : decode cX1_goOneStep 20 = .ok (.lload_n 2, 1) := by decide +kernel
theorem dX1_goOneStep_21 : decode cX1_goOneStep 21 = .ok (.aload_n 0, 1) := by decide +kernel
theorem dX1_goOneStep_22 : decode cX1_goOneStep 22 = .ok (.getfield 38, 3) := by decide +kernel
theorem dX1_goOneStep_25 : decode cX1_goOneStep 25 = .ok (.iload 4, 2) := by decide +kernel
theorem dX1_goOneStep_27 : decode cX1_goOneStep 27 = .ok (.laload, 1) := by decide +kernel
theorem dX1_goOneStep_28 : decode cX1_goOneStep 28 = .ok (.aload_n 0, 1) := by decide +kernel
theorem dX1_goOneStep_29 : decode cX1_goOneStep 29 = .ok (.getfield 35, 3) := by decide +kernel
theorem dX1_goOneStep_32 : decode cX1_goOneStep 32 = .ok (.iload 4, 2) := by decide +kernel
theorem dX1_goOneStep_34 : decode cX1_goOneStep 34 = .ok (.bipush 10, 2) := by decide +kernel
theorem dX1_goOneStep_36 : decode cX1_goOneStep 36 = .ok (.imul, 1) := by decide +kernel
theorem dX1_goOneStep_37 : decode cX1_goOneStep 37 = .ok (.iload_n 1, 1) := by decide +kernel
theorem dX1_goOneStep_38 : decode cX1_goOneStep 38 = .ok (.iadd, 1) := by decide +kernel
theorem dX1_goOneStep_39 : decode cX1_goOneStep 39 = .ok (.iaload, 1) := by decide +kernel
theorem dX1_goOneStep_40 : decode cX1_goOneStep 40 = .ok (.i2l, 1) := by decide +kernel
theorem dX1_goOneStep_41 : decode cX1_goOneStep 41 = .ok (.lmul, 1) := by decide +kernel
theorem dX1_goOneStep_42 : decode cX1_goOneStep 42 = .ok (.ladd, 1) := by decide +kernel
theorem dX1_goOneStep_43 : decode cX1_goOneStep 43 = .ok (.lstore_n 2, 1) := by decide +kernel
theorem dX1_goOneStep_44 : decode cX1_goOneStep 44 = .ok (.iinc 4 1, 3) := by decide +kernel
theorem dX1_goOneStep_47 : decode cX1_goOneStep 47 = .ok (.goto (-34), 3) := by decide +kernel
theorem dX1_goOneStep_50 : decode cX1_goOneStep 50 = .ok (.aload_n 0, 1) := by decide +kernel
theorem dX1_goOneStep_51 : decode cX1_goOneStep 51 = .ok (.getfield 41, 3) := by decide +kernel
theorem dX1_goOneStep_54 : decode cX1_goOneStep 54 = .ok (.iload_n 1, 1) := by decide +kernel
theorem dX1_goOneStep_55 : decode cX1_goOneStep 55 = .ok (.lload_n 2, 1) := by decide +kernel
theorem dX1_goOneStep_56 : decode cX1_goOneStep 56 = .ok (.ldc2_w 113, 3) := by decide +kernel
theorem dX1_goOneStep_59 : decode cX1_goOneStep 59 = .ok (.ldiv, 1) := by decide +kernel
theorem dX1_goOneStep_60 : decode cX1_goOneStep 60 = .ok (.lastore, 1) := by decide +kernel
theorem dX1_goOneStep_61 : decode cX1_goOneStep 61 = .ok (.iinc 1 1, 3) := by decide +kernel
theorem dX1_goOneStep_64 : decode cX1_goOneStep 64 = .ok (.goto (-62), 3) := by decide +kernel
theorem dX1_goOneStep_67 : decode cX1_goOneStep 67 = .ok (.aload_n 0, 1) := by decide +kernel
theorem dX1_goOneStep_68 : decode cX1_goOneStep 68 = .ok (.getfield 41, 3) := by decide +kernel
theorem dX1_goOneStep_71 : decode cX1_goOneStep 71 = .ok (.iconst 0, 1) := by decide +kernel
theorem dX1_goOneStep_72 : decode cX1_goOneStep 72 = .ok (.aload_n 0, 1) := by decide +kernel
theorem dX1_goOneStep_73 : decode cX1_goOneStep 73 = .ok (.getfield 38, 3) := by decide +kernel
theorem dX1_goOneStep_76 : decode cX1_goOneStep 76 = .ok (.iconst 0, 1) := by decide +kernel
theorem dX1_goOneStep_77 : decode cX1_goOneStep 77 = .ok (.bipush 10, 2) := by decide +kernel
theorem dX1_goOneStep_79 : decode cX1_goOneStep 79 = .ok (.invokestatic 87, 3) := by decide +kernel
theorem dX1_goOneStep_82 : decode cX1_goOneStep 82 = .ok (.return_, 1) := by decide +kernel
theorem dX2_init_0 : decode cX2_init 0 = .ok (.aload_n 0, 1) := by decide +kernel
theorem dX2_init_1 : decode cX2_init 1 = .ok (.invokespecial 3, 3) := by decide +kernel
theorem dX2_init_4 : decode cX2_init 4 = .ok (.aload_n 0, 1) := by decide +kernel
theorem dX2_init_5 : decode cX2_init 5 = .ok (.sipush 200, 3) := by decide +kernel
theorem dX2_init_8 : decode cX2_init 8 = .ok (.newarray .int, 2) := by decide +kernel
theorem dX2_init_10 : decode cX2_init 10 = .ok (.putfield 9, 3) := by decide +kernel
theorem dX2_init_13 : decode cX2_init 13 = .ok (.aload_n 0, 1) := by decide +kernel
theorem dX2_init_14 : decode cX2_init 14 = .ok (.sipush 200, 3) := by decide +kernel
theorem dX2_init_17 : decode cX2_init 17 = .ok (.newarray .int, 2) := by decide +kernel
theorem dX2_init_19 : decode cX2_init 19 = .ok (.putfield 15, 3) := by decide +kernel
theorem dX2_init_22 : decode cX2_init 22 = .ok (.aload_n 0, 1) := by decide +kernel
theorem dX2_init_23 : decode cX2_init 23 = .ok (.sipush 200, 3) := by decide +kernel
theorem dX2_init_26 : decode cX2_init 26 = .ok (.newarray .int, 2) := by decide +kernel
theorem dX2_init_28 : decode cX2_init 28 = .ok (.putfield 18, 3) := by decide +kernel
theorem dX2_init_31 : decode cX2_init 31 = .ok (.aload_n 0, 1) := by decide +kernel
theorem dX2_init_32 : decode cX2_init 32 = .ok (.sipush 200, 3) := by decide +kernel
theorem dX2_init_35 : decode cX2_init 35 = .ok (.newarray .int, 2) := by decide +kernel
theorem dX2_init_37 : decode cX2_init 37 = .ok (.putfield 21, 3) := by decide +kernel
theorem dX2_init_40 : decode cX2_init 40 = .ok (.aload_n 0, 1) := by decide +kernel
theorem dX2_init_41 : decode cX2_init 41 = .ok (.sipush 200, 3) := by decide +kernel
theorem dX2_init_44 : decode cX2_init 44 = .ok (.newarray .int, 2) := by decide +kernel
theorem dX2_init_46 : decode cX2_init 46 = .ok (.putfield 24, 3) := by decide +kernel
theorem dX2_init_49 : decode cX2_init 49 = .ok (.aload_n 0, 1) := by decide +kernel
theorem dX2_init_50 : decode cX2_init 50 = .ok (.sipush 200, 3) := by decide +kernel
theorem dX2_init_53 : decode cX2_init 53 = .ok (.newarray .int, 2) := by decide +kernel
theorem dX2_init_55 : decode cX2_init 55 = .ok (.putfield 27, 3) := by decide +kernel
theorem dX2_init_58 : decode cX2_init 58 = .ok (.aload_n 0, 1) := by decide +kernel
theorem dX2_init_59 : decode cX2_init 59 = .ok (.iconst 0, 1) := by decide +kernel
theorem dX2_init_60 : decode cX2_init 60 = .ok (.putfield 30, 3) := by decide +kernel
theorem dX2_init_63 : decode cX2_init 63 = .ok (.return_, 1) := by decide +kernel
theorem dX2_add_0 : decode cX2_add 0 = .ok (.aload_n 0, 1) := by decide +kernel
theorem dX2_add_1 : decode cX2_add 1 = .ok (.getfield 30, 3) := by decide +kernel
theorem dX2_add_4 : decode cX2_add 4 = .ok (.sipush 200, 3) := by decide +kernel
theorem dX2_add_7 : decode cX2_add 7 = .ok (.if_icmp .lt 6, 3) := by decide +kernel
theorem dX2_add_10 : decode cX2_add 10 = .ok (.bipush (-4), 2) := by decide +kernel
theorem dX2_add_12 : decode cX2_add 12 = .ok (.ireturn, 1) := by decide +kernel
theorem dX2_add_13 : decode cX2_add 13 = .ok (.aload_n 0, 1) := by decide +kernel
theorem dX2_add_14 : decode cX2_add 14 = .ok (.getfield 9, 3) := by decide +kernel
theorem dX2_add_17 : decode cX2_add 17 = .ok (.aload_n 0, 1) := by decide +kernel
theorem dX2_add_18 : decode cX2_add 18 = .ok (.getfield 30, 3) := by decide +kernel
theorem dX2_add_21 : decode cX2_add 21 = .ok (.iload_n 1, 1) := by decide +kernel
theorem dX2_add_22 : decode cX2_add 22 = .ok (.iastore, 1) := by decide +kernel
theorem dX2_add_23 : decode cX2_add 23 = .ok (.aload_n 0, 1) := by decide +kernel
theorem dX2_add_24 : decode cX2_add 24 = .ok (.getfield 15, 3) := by decide +kernel
theorem dX2_add_27 : decode cX2_add 27 = .ok (.aload_n 0, 1) := by decide +kernel
theorem dX2_add_28 : decode cX2_add 28 = .ok (.getfield 30, 3) := by decide +kernel
theorem dX2_add_31 : decode cX2_add 31 = .ok (.iload_n 2, 1) := by decide +kernel
theorem dX2_add_32 : decode cX2_add 32 = .ok (.iastore, 1) := by decide +kernel
theorem dX2_add_33 : decode cX2_add 33 = .ok (.aload_n 0, 1) := by decide +kernel
theorem dX2_add_34 : decode cX2_add 34 = .ok (.getfield 18, 3) := by decide +kernel
theorem dX2_add_37 : decode cX2_add 37 = .ok (.aload_n 0, 1) := by decide +kernel
theorem dX2_add_38 : decode cX2_add 38 = .ok (.getfield 30, 3) := by decide +kernel
theorem dX2_add_41 : decode cX2_add 41 = .ok (.iload_n 3, 1) := by decide +kernel
theorem dX2_add_42 : decode cX2_add 42 = .ok (.iastore, 1) := by decide +kernel
theorem dX2_add_43 : decode cX2_add 43 = .ok (.aload_n 0, 1) := by decide +kernel
theorem dX2_add_44 : decode cX2_add 44 = .ok (.getfield 21, 3) := by decide +kernel
theorem dX2_add_47 : decode cX2_add 47 = .ok (.aload_n 0, 1) := by decide +kernel
theorem dX2_add_48 : decode cX2_add 48 = .ok (.getfield 30, 3) := by decide +kernel
theorem dX2_add_51 : decode cX2_add 51 = .ok (.iload 4, 2) := by decide +kernel
theorem dX2_add_53 : decode cX2_add 53 = .ok (.iastore, 1) := by decide +kernel
theorem dX2_add_54 : decode cX2_add 54 = .ok (.aload_n 0, 1) := by decide +kernel
theorem dX2_add_55 : decode cX2_add 55 = .ok (.getfield 24, 3) := by decide +kernel
theorem dX2_add_58 : decode cX2_add 58 = .ok (.aload_n 0, 1) := by decide +kernel
theorem dX2_add_59 : decode cX2_add 59 = .ok (.getfield 30, 3) := by decide +kernel
theorem dX2_add_62 : decode cX2_add 62 = .ok (.iload 5, 2) := by decide +kernel
theorem dX2_add_64 : decode cX2_add 64 = .ok (.iastore, 1) := by decide +kernel
theorem dX2_add_65 : decode cX2_add 65 = .ok (.aload_n 0, 1) := by decide +kernel
theorem dX2_add_66 : decode cX2_add 66 = .ok (.dup, 1) := by decide +kernel
theorem dX2_add_67 : decode cX2_add 67 = .ok (.getfield 30, 3) := by decide +kernel
theorem dX2_add_70 : decode cX2_add 70 = .ok (.iconst 1, 1) := by decide +kernel
theorem dX2_add_71 : decode cX2_add 71 = .ok (.iadd, 1) := by decide +kernel
theorem dX2_add_72 : decode cX2_add 72 = .ok (.putfield 30, 3) := by decide +kernel
theorem dX2_add_75 : decode cX2_add 75 = .ok (.aload_n 0, 1) := by decide +kernel
theorem dX2_add_76 : decode cX2_add 76 = .ok (.getfield 30, 3) := by decide +kernel
theorem dX2_add_79 : decode cX2_add 79 = .ok (.iconst 1, 1) := by decide +kernel
theorem dX2_add_80 : decode cX2_add 80 = .ok (.isub, 1) := by decide +kernel
theorem dX2_add_81 : decode cX2_add 81 = .ok (.ireturn, 1) := by decide +kernel
theorem dX2_yearOf_0 : decode cX2_yearOf 0 = .ok (.aload_n 0, 1) := by decide +kernel
theorem dX2_yearOf_1 : decode cX2_yearOf 1 = .ok (.getfield 21, 3) := by decide +kernel
theorem dX2_yearOf_4 : decode cX2_yearOf 4 = .ok (.iload_n 1, 1) := by decide +kernel
theorem dX2_yearOf_5 : decode cX2_yearOf 5 = .ok (.iaload, 1) := by decide +kernel
theorem dX2_yearOf_6 : decode cX2_yearOf 6 = .ok (.sipush 365, 3) := by decide +kernel
theorem dX2_yearOf_9 : decode cX2_yearOf 9 = .ok (.idiv, 1) := by decide +kernel
theorem dX2_yearOf_10 : decode cX2_yearOf 10 = .ok (.ireturn, 1) := by decide +kernel
set_option maxRecDepth 20000 in
theorem ggX2_isOfYear_X2_yearOf : GoodIn wsX2_isOfYear wsX2_yearOf := goodIn_r _ [5, 6, 7, 8, 9, 10, 11, 12, 13] (by decide +kernel) (by decide +kernel)
set_option maxRecDepth 20000 in
theorem gX2_isOfYear_X2_yearOf : GoodIn wsX2_isOfYear (wsV RX2 34 RX2 yX2_yearOf wsX2_yearOf) := goodIn_app (goodIn_of _ (by decide +kernel)) ggX2_isOfYear_X2_yearOf
theorem dX2_isOfYear_0 : decode cX2_isOfYear 0 = .ok (.aload_n 0, 1) := by decide +kernel
theorem dX2_isOfYear_1 : decode cX2_isOfYear 1 = .ok (.iload_n 1, 1) := by decide +kernel
theorem dX2_isOfYear_2 : decode cX2_isOfYear 2 = .ok (.invokevirtual 34, 3) := by decide +kernel
theorem dX2_isOfYear_5 : decode cX2_isOfYear 5 = .ok (.iload_n 2, 1) := by decide +kernel
theorem dX2_isOfYear_6 : decode cX2_isOfYear 6 = .ok (.if_icmp .ne 7, 3) := by decide +kernel
theorem dX2_isOfYear_9 : decode cX2_isOfYear 9 = .ok (.iconst 1, 1) := by decide +kernel
theorem dX2_isOfYear_10 : decode cX2_isOfYear 10 = .ok (.goto 4, 3) := by decide +kernel
theorem dX2_isOfYear_13 : decode cX2_isOfYear 13 = .ok (.iconst 0, 1) := by decide +kernel
theorem dX2_isOfYear_14 : decode cX2_isOfYear 14 = .ok (.ireturn, 1) := by decide +kernel
theorem dX2_uncovered_0 : decode cX2_uncovered 0 = .ok (.aload_n 0, 1) := by decide +kernel
theorem dX2_uncovered_1 : decode cX2_uncovered 1 = .ok (.getfield 18, 3) := by decide +kernel
theorem dX2_uncovered_4 : decode cX2_uncovered 4 = .ok (.iload_n 1, 1) := by decide +kernel
theorem dX2_uncovered_5 : decode cX2_uncovered 5 = .ok (.iaload, 1) := by decide +kernel
theorem dX2_uncovered_6 : decode cX2_uncovered 6 = .ok (.aload_n 0, 1) := by decide +kernel
theorem dX2_uncovered_7 : decode cX2_uncovered 7 = .ok (.getfield 27, 3) := by decide +kernel
theorem dX2_uncovered_10 : decode cX2_uncovered 10 = .ok (.iload_n 1, 1) := by decide +kernel
theorem dX2_uncovered_11 : decode cX2_uncovered 11 = .ok (.iaload, 1) := by decide +kernel
theorem dX2_uncovered_12 : decode cX2_uncovered 12 = .ok (.isub, 1) := by decide +kernel
theorem dX2_uncovered_13 : decode cX2_uncovered 13 = .ok (.ireturn, 1) := by decide +kernel
theorem dX3_init_0 : decode cX3_init 0 = .ok (.aload_n 0, 1) := by decide +kernel
theorem dX3_init_1 : decode cX3_init 1 = .ok (.invokespecial 3, 3) := by decide +kernel
theorem dX3_init_4 : decode cX3_init 4 = .ok (.aload_n 0, 1) := by decide +kernel
theorem dX3_init_5 : decode cX3_init 5 = .ok (.bipush 16, 2) := by decide +kernel
theorem dX3_init_7 : decode cX3_init 7 = .ok (.newarray .int, 2) := by decide +kernel
theorem dX3_init_9 : decode cX3_init 9 = .ok (.putfield 9, 3) := by decide +kernel
theorem dX3_init_12 : decode cX3_init 12 = .ok (.aload_n 0, 1) := by decide +kernel
theorem dX3_init_13 : decode cX3_init 13 = .ok (.bipush 16, 2) := by decide +kernel
theorem dX3_init_15 : decode cX3_init 15 = .ok (.newarray .int, 2) := by decide +kernel
theorem dX3_init_17 : decode cX3_init 17 = .ok (.putfield 15, 3) := by decide +kernel
theorem dX3_init_20 : decode cX3_init 20 = .ok (.aload_n 0, 1) := by decide +kernel
theorem dX3_init_21 : decode cX3_init 21 = .ok (.bipush 16, 2) := by decide +kernel
theorem dX3_init_23 : decode cX3_init 23 = .ok (.newarray .int, 2) := by decide +kernel
theorem dX3_init_25 : decode cX3_init 25 = .ok (.putfield 18, 3) := by decide +kernel
theorem dX3_init_28 : decode cX3_init 28 = .ok (.aload_n 0, 1) := by decide +kernel
theorem dX3_init_29 : decode cX3_init 29 = .ok (.iconst 0, 1) := by decide +kernel
theorem dX3_init_30 : decode cX3_init 30 = .ok (.putfield 21, 3) := by decide +kernel
theorem dX3_init_33 : decode cX3_init 33 = .ok (.aload_n 0, 1) := by decide +kernel
theorem dX3_init_34 : decode cX3_init 34 = .ok (.iconst 0, 1) := by decide +kernel
theorem dX3_init_35 : decode cX3_init 35 = .ok (.putfield 25, 3) := by decide +kernel
theorem dX3_init_38 : decode cX3_init 38 = .ok (.return_, 1) := by decide +kernel
set_option maxRecDepth 20000 in
theorem ggX3_add_X3_insertRun : GoodIn wsX3_add wsX3_insertRun := goodIn_r _ [9, 2, 10, 3, 4, 11, 12, 13, 14, 15, 16, 17, 18, 19, 20, 21, 22, 23, 24, 25, 26, 27, 28, 29, 30, 31, 32, 33, 34, 35] (by decide +kernel) (by decide +kernel)
set_option maxRecDepth 20000 in
theorem gX3_add_X3_insertRun : GoodIn wsX3_add (wsV RX3 28 RX3 yX3_insertRun wsX3_insertRun) := goodIn_app (goodIn_of _ (by decide +kernel)) ggX3_add_X3_insertRun
theorem dX3_add_0 : decode cX3_add 0 = .ok (.iload_n 2, 1) := by decide +kernel
theorem dX3_add_1 : decode cX3_add 1 = .ok (.sipush 20000, 3) := by decide +kernel
theorem dX3_add_4 : decode cX3_add 4 = .ok (.aload_n 0, 1) := by decide +kernel
theorem dX3_add_5 : decode cX3_add 5 = .ok (.getfield 25, 3) := by decide +kernel
theorem dX3_add_8 : decode cX3_add 8 = .ok (.isub, 1) := by decide +kernel
theorem dX3_add_9 : decode cX3_add 9 = .ok (.if_icmp .le 6, 3) := by decide +kernel
theorem dX3_add_12 : decode cX3_add 12 = .ok (.bipush (-4), 2) := by decide +kernel
theorem dX3_add_14 : decode cX3_add 14 = .ok (.ireturn, 1) := by decide +kernel
theorem dX3_add_15 : decode cX3_add 15 = .ok (.aload_n 0, 1) := by decide +kernel
theorem dX3_add_16 : decode cX3_add 16 = .ok (.getfield 25, 3) := by decide +kernel
theorem dX3_add_19 : decode cX3_add 19 = .ok (.iconst 1, 1) := by decide +kernel
theorem dX3_add_20 : decode cX3_add 20 = .ok (.iadd, 1) := by decide +kernel
theorem dX3_add_21 : decode cX3_add 21 = .ok (.istore_n 3, 1) := by decide +kernel
theorem dX3_add_22 : decode cX3_add 22 = .ok (.aload_n 0, 1) := by decide +kernel
theorem dX3_add_23 : decode cX3_add 23 = .ok (.getfield 21, 3) := by decide +kernel
theorem dX3_add_26 : decode cX3_add 26 = .ok (.ifCond .eq 34, 3) := by decide +kernel
theorem dX3_add_29 : decode cX3_add 29 = .ok (.aload_n 0, 1) := by decide +kernel
theorem dX3_add_30 : decode cX3_add 30 = .ok (.getfield 15, 3) := by decide +kernel
theorem dX3_add_33 : decode cX3_add 33 = .ok (.aload_n 0, 1) := by decide +kernel
theorem dX3_add_34 : decode cX3_add 34 = .ok (.getfield 21, 3) := by decide +kernel
theorem dX3_add_37 : decode cX3_add 37 = .ok (.iconst 1, 1) := by decide +kernel
theorem dX3_add_38 : decode cX3_add 38 = .ok (.isub, 1) := by decide +kernel
theorem dX3_add_39 : decode cX3_add 39 = .ok (.iaload, 1) := by decide +kernel
theorem dX3_add_40 : decode cX3_add 40 = .ok (.iload_n 1, 1) := by decide +kernel
theorem dX3_add_41 : decode cX3_add 41 = .ok (.if_icmp .ne 19, 3) := by decide +kernel
theorem dX3_add_44 : decode cX3_add 44 = .ok (.aload_n 0, 1) := by decide +kernel
theorem dX3_add_45 : decode cX3_add 45 = .ok (.getfield 18, 3) := by decide +kernel
theorem dX3_add_48 : decode cX3_add 48 = .ok (.aload_n 0, 1) := by decide +kernel
theorem dX3_add_49 : decode cX3_add 49 = .ok (.getfield 21, 3) := by decide +kernel
theorem dX3_add_52 : decode cX3_add 52 = .ok (.iconst 1, 1) := by decide +kernel
theorem dX3_add_53 : decode cX3_add 53 = .ok (.isub, 1) := by decide +kernel
theorem dX3_add_54 : decode cX3_add 54 = .ok (.iaload, 1) := by decide +kernel
theorem dX3_add_55 : decode cX3_add 55 = .ok (.bipush (-9), 2) := by decide +kernel
theorem dX3_add_57 : decode cX3_add 57 = .ok (.if_icmp .eq 15, 3) := by decide +kernel
theorem dX3_add_60 : decode cX3_add 60 = .ok (.aload_n 0, 1) := by decide +kernel
theorem dX3_add_61 : decode cX3_add 61 = .ok (.aload_n 0, 1) := by decide +kernel
theorem dX3_add_62 : decode cX3_add 62 = .ok (.getfield 21, 3) := by decide +kernel
theorem dX3_add_65 : decode cX3_add 65 = .ok (.iload_n 3, 1) := by decide +kernel
theorem dX3_add_66 : decode cX3_add 66 = .ok (.iload_n 1, 1) := by decide +kernel
theorem dX3_add_67 : decode cX3_add 67 = .ok (.bipush (-9), 2) := by decide +kernel
theorem dX3_add_69 : decode cX3_add 69 = .ok (.invokevirtual 28, 3) := by decide +kernel
theorem dX3_add_72 : decode cX3_add 72 = .ok (.aload_n 0, 1) := by decide +kernel
theorem dX3_add_73 : decode cX3_add 73 = .ok (.dup, 1) := by decide +kernel
theorem dX3_add_74 : decode cX3_add 74 = .ok (.getfield 25, 3) := by decide +kernel
theorem dX3_add_77 : decode cX3_add 77 = .ok (.iload_n 2, 1) := by decide +kernel
theorem dX3_add_78 : decode cX3_add 78 = .ok (.iadd, 1) := by decide +kernel
theorem dX3_add_79 : decode cX3_add 79 = .ok (.putfield 25, 3) := by decide +kernel
theorem dX3_add_82 : decode cX3_add 82 = .ok (.iload_n 3, 1) := by decide +kernel
theorem dX3_add_83 : decode cX3_add 83 = .ok (.ireturn, 1) := by decide +kernel
theorem dX3_areIssued_0 : decode cX3_areIssued 0 = .ok (.iload_n 1, 1) := by decide +kernel
theorem dX3_areIssued_1 : decode cX3_areIssued 1 = .ok (.iconst 1, 1) := by decide +kernel
theorem dX3_areIssued_2 : decode cX3_areIssued 2 = .ok (.if_icmp .lt 27, 3) := by decide +kernel
theorem dX3_areIssued_5 : decode cX3_areIssued 5 = .ok (.iload_n 1, 1) := by decide +kernel
theorem dX3_areIssued_6 : decode cX3_areIssued 6 = .ok (.aload_n 0, 1) := by decide +kernel
theorem dX3_areIssued_7 : decode cX3_areIssued 7 = .ok (.getfield 25, 3) := by decide +kernel
theorem dX3_areIssued_10 : decode cX3_areIssued 10 = .ok (.if_icmp .gt 19, 3) := by decide +kernel
theorem dX3_areIssued_13 : decode cX3_areIssued 13 = .ok (.iload_n 2, 1) := by decide +kernel
theorem dX3_areIssued_14 : decode cX3_areIssued 14 = .ok (.aload_n 0, 1) := by decide +kernel
theorem dX3_areIssued_15 : decode cX3_areIssued 15 = .ok (.getfield 25, 3) := by decide +kernel
theorem dX3_areIssued_18 : decode cX3_areIssued 18 = .ok (.iload_n 1, 1) := by decide +kernel
theorem dX3_areIssued_19 : decode cX3_areIssued 19 = .ok (.isub, 1) := by decide +kernel
theorem dX3_areIssued_20 : decode cX3_areIssued 20 = .ok (.iconst 1, 1) := by decide +kernel
theorem dX3_areIssued_21 : decode cX3_areIssued 21 = .ok (.iadd, 1) := by decide +kernel
theorem dX3_areIssued_22 : decode cX3_areIssued 22 = .ok (.if_icmp .gt 7, 3) := by decide +kernel
theorem dX3_areIssued_25 : decode cX3_areIssued 25 = .ok (.iconst 1, 1) := by decide +kernel
theorem dX3_areIssued_26 : decode cX3_areIssued 26 = .ok (.goto 4, 3) := by decide +kernel
theorem dX3_areIssued_29 : decode cX3_areIssued 29 = .ok (.iconst 0, 1) := by decide +kernel
theorem dX3_areIssued_30 : decode cX3_areIssued 30 = .ok (.ireturn, 1) := by decide +kernel
theorem dX3_runWith_0 : decode cX3_runWith 0 = .ok (.iconst 0, 1) := by decide +kernel
theorem dX3_runWith_1 : decode cX3_runWith 1 = .ok (.istore_n 2, 1) := by decide +kernel
theorem dX3_runWith_2 : decode cX3_runWith 2 = .ok (.iload_n 2, 1) := by decide +kernel
theorem dX3_runWith_3 : decode cX3_runWith 3 = .ok (.iconst 1, 1) := by decide +kernel
theorem dX3_runWith_4 : decode cX3_runWith 4 = .ok (.iadd, 1) := by decide +kernel
theorem dX3_runWith_5 : decode cX3_runWith 5 = .ok (.aload_n 0, 1) := by decide +kernel
theorem dX3_runWith_6 : decode cX3_runWith 6 = .ok (.getfield 21, 3) := by decide +kernel
theorem dX3_runWith_9 : decode cX3_runWith 9 = .ok (.if_icmp .ge 21, 3) := by decide +kernel
theorem dX3_runWith_12 : decode cX3_runWith 12 = .ok (.aload_n 0, 1) := by decide +kernel
theorem dX3_runWith_13 : decode cX3_runWith 13 = .ok (.getfield 9, 3) := by decide +kernel
theorem dX3_runWith_16 : decode cX3_runWith 16 = .ok (.iload_n 2, 1) := by decide +kernel
theorem dX3_runWith_17 : decode cX3_runWith 17 = .ok (.iconst 1, 1) := by decide +kernel
theorem dX3_runWith_18 : decode cX3_runWith 18 = .ok (.iadd, 1) := by decide +kernel
theorem dX3_runWith_19 : decode cX3_runWith 19 = .ok (.iaload, 1) := by decide +kernel
theorem dX3_runWith_20 : decode cX3_runWith 20 = .ok (.iload_n 1, 1) := by decide +kernel
theorem dX3_runWith_21 : decode cX3_runWith 21 = .ok (.if_icmp .gt 9, 3) := by decide +kernel
theorem dX3_runWith_24 : decode cX3_runWith 24 = .ok (.iinc 2 1, 3) := by decide +kernel
theorem dX3_runWith_27 : decode cX3_runWith 27 = .ok (.goto (-25), 3) := by decide +kernel
theorem dX3_runWith_30 : decode cX3_runWith 30 = .ok (.iload_n 2, 1) := by decide +kernel
theorem dX3_runWith_31 : decode cX3_runWith 31 = .ok (.ireturn, 1) := by decide +kernel
set_option maxRecDepth 20000 in
theorem ggX3_lengthOf_X3_endOf : GoodIn wsX3_lengthOf wsX3_endOf := goodIn_r _ [6, 7, 1, 8, 9, 10, 11, 12, 13] (by decide +kernel) (by decide +kernel)
set_option maxRecDepth 20000 in
theorem gX3_lengthOf_X3_endOf : GoodIn wsX3_lengthOf (wsV RX3 32 RX3 yX3_endOf wsX3_endOf) := goodIn_app (goodIn_of _ (by decide +kernel)) ggX3_lengthOf_X3_endOf
theorem dX3_lengthOf_0 : decode cX3_lengthOf 0 = .ok (.aload_n 0, 1) := by decide +kernel
theorem dX3_lengthOf_1 : decode cX3_lengthOf 1 = .ok (.iload_n 1, 1) := by decide +kernel
theorem dX3_lengthOf_2 : decode cX3_lengthOf 2 = .ok (.invokevirtual 32, 3) := by decide +kernel
theorem dX3_lengthOf_5 : decode cX3_lengthOf 5 = .ok (.aload_n 0, 1) := by decide +kernel
theorem dX3_lengthOf_6 : decode cX3_lengthOf 6 = .ok (.getfield 9, 3) := by decide +kernel
theorem dX3_lengthOf_9 : decode cX3_lengthOf 9 = .ok (.iload_n 1, 1) := by decide +kernel
theorem dX3_lengthOf_10 : decode cX3_lengthOf 10 = .ok (.iaload, 1) := by decide +kernel
theorem dX3_lengthOf_11 : decode cX3_lengthOf 11 = .ok (.isub, 1) := by decide +kernel
theorem dX3_lengthOf_12 : decode cX3_lengthOf 12 = .ok (.ireturn, 1) := by decide +kernel
set_option maxRecDepth 20000 in
theorem ggX3_usedAmong_X3_sharedWith : GoodIn wsX3_usedAmong wsX3_sharedWith := goodIn_r _ [7, 8, 9, 10, 11, 12, 13, 14, 15, 16, 17, 18, 6, 19, 1, 20, 21, 22, 23, 24, 25] (by decide +kernel) (by decide +kernel)
set_option maxRecDepth 20000 in
theorem gX3_usedAmong_X3_sharedWith : GoodIn wsX3_usedAmong (wsV RX3 36 RX3 yX3_sharedWith wsX3_sharedWith) := goodIn_app (goodIn_of _ (by decide +kernel)) ggX3_usedAmong_X3_sharedWith
theorem dX3_usedAmong_0 : decode cX3_usedAmong 0 = .ok (.iconst 0, 1) := by decide +kernel
theorem dX3_usedAmong_1 : decode cX3_usedAmong 1 = .ok (.istore_n 3, 1) := by decide +kernel
theorem dX3_usedAmong_2 : decode cX3_usedAmong 2 = .ok (.iconst 0, 1) := by decide +kernel
theorem dX3_usedAmong_3 : decode cX3_usedAmong 3 = .ok (.istore 4, 2) := by decide +kernel
theorem dX3_usedAmong_5 : decode cX3_usedAmong 5 = .ok (.iload 4, 2) := by decide +kernel
theorem dX3_usedAmong_7 : decode cX3_usedAmong 7 = .ok (.aload_n 0, 1) := by decide +kernel
theorem dX3_usedAmong_8 : decode cX3_usedAmong 8 = .ok (.getfield 21, 3) := by decide +kernel
theorem dX3_usedAmong_11 : decode cX3_usedAmong 11 = .ok (.if_icmp .ge 32, 3) := by decide +kernel
theorem dX3_usedAmong_14 : decode cX3_usedAmong 14 = .ok (.aload_n 0, 1) := by decide +kernel
theorem dX3_usedAmong_15 : decode cX3_usedAmong 15 = .ok (.getfield 18, 3) := by decide +kernel
theorem dX3_usedAmong_18 : decode cX3_usedAmong 18 = .ok (.iload 4, 2) := by decide +kernel
theorem dX3_usedAmong_20 : decode cX3_usedAmong 20 = .ok (.iaload, 1) := by decide +kernel
theorem dX3_usedAmong_21 : decode cX3_usedAmong 21 = .ok (.bipush (-9), 2) := by decide +kernel
theorem dX3_usedAmong_23 : decode cX3_usedAmong 23 = .ok (.if_icmp .eq 14, 3) := by decide +kernel
theorem dX3_usedAmong_26 : decode cX3_usedAmong 26 = .ok (.iload_n 3, 1) := by decide +kernel
theorem dX3_usedAmong_27 : decode cX3_usedAmong 27 = .ok (.aload_n 0, 1) := by decide +kernel
theorem dX3_usedAmong_28 : decode cX3_usedAmong 28 = .ok (.iload 4, 2) := by decide +kernel
theorem dX3_usedAmong_30 : decode cX3_usedAmong 30 = .ok (.iload_n 1, 1) := by decide +kernel
theorem dX3_usedAmong_31 : decode cX3_usedAmong 31 = .ok (.iload_n 2, 1) := by decide +kernel
theorem dX3_usedAmong_32 : decode cX3_usedAmong 32 = .ok (.invokevirtual 36, 3) := by decide +kernel
theorem dX3_usedAmong_35 : decode cX3_usedAmong 35 = .ok (.iadd, 1) := by decide +kernel
theorem dX3_usedAmong_36 : decode cX3_usedAmong 36 = .ok (.istore_n 3, 1) := by decide +kernel
theorem dX3_usedAmong_37 : decode cX3_usedAmong 37 = .ok (.iinc 4 1, 3) := by decide +kernel
theorem dX3_usedAmong_40 : decode cX3_usedAmong 40 = .ok (.goto (-35), 3) := by decide +kernel
theorem dX3_usedAmong_43 : decode cX3_usedAmong 43 = .ok (.iload_n 3, 1) := by decide +kernel
theorem dX3_usedAmong_44 : decode cX3_usedAmong 44 = .ok (.ireturn, 1) := by decide +kernel
set_option maxRecDepth 20000 in
theorem ggX3_ownedAmong_X3_sharedWith : GoodIn wsX3_ownedAmong wsX3_sharedWith := goodIn_r _ [7, 8, 9, 10, 11, 12, 13, 14, 15, 16, 17, 18, 6, 19, 1, 20, 21, 22, 23, 24, 25] (by decide +kernel) (by decide +kernel)
set_option maxRecDepth 20000 in
theorem gX3_ownedAmong_X3_sharedWith : GoodIn wsX3_ownedAmong (wsV RX3 36 RX3 yX3_sharedWith wsX3_sharedWith) := goodIn_app (goodIn_of _ (by decide +kernel)) ggX3_ownedAmong_X3_sharedWith
theorem dX3_ownedAmong_0 : decode cX3_ownedAmong 0 = .ok (.iconst 0, 1) := by decide +kernel
theorem dX3_ownedAmong_1 : decode cX3_ownedAmong 1 = .ok (.istore 4, 2) := by decide +kernel
theorem dX3_ownedAmong_3 : decode cX3_ownedAmong 3 = .ok (.iconst 0, 1) := by decide +kernel
theorem dX3_ownedAmong_4 : decode cX3_ownedAmong 4 = .ok (.istore 5, 2) := by decide +kernel
theorem dX3_ownedAmong_6 : decode cX3_ownedAmong 6 = .ok (.iload 5, 2) := by decide +kernel
theorem dX3_ownedAmong_8 : decode cX3_ownedAmong 8 = .ok (.aload_n 0, 1) := by decide +kernel
theorem dX3_ownedAmong_9 : decode cX3_ownedAmong 9 = .ok (.getfield 21, 3) := by decide +kernel
theorem dX3_ownedAmong_12 : decode cX3_ownedAmong 12 = .ok (.if_icmp .ge 33, 3) := by decide +kernel
theorem dX3_ownedAmong_15 : decode cX3_ownedAmong 15 = .ok (.aload_n 0, 1) := by decide +kernel
theorem dX3_ownedAmong_16 : decode cX3_ownedAmong 16 = .ok (.getfield 15, 3) := by decide +kernel
theorem dX3_ownedAmong_19 : decode cX3_ownedAmong 19 = .ok (.iload 5, 2) := by decide +kernel
theorem dX3_ownedAmong_21 : decode cX3_ownedAmong 21 = .ok (.iaload, 1) := by decide +kernel
theorem dX3_ownedAmong_22 : decode cX3_ownedAmong 22 = .ok (.iload_n 3, 1) := by decide +kernel
theorem dX3_ownedAmong_23 : decode cX3_ownedAmong 23 = .ok (.if_icmp .ne 16, 3) := by decide +kernel
theorem dX3_ownedAmong_26 : decode cX3_ownedAmong 26 = .ok (.iload 4, 2) := by decide +kernel
theorem dX3_ownedAmong_28 : decode cX3_ownedAmong 28 = .ok (.aload_n 0, 1) := by decide +kernel
theorem dX3_ownedAmong_29 : decode cX3_ownedAmong 29 = .ok (.iload 5, 2) := by decide +kernel
theorem dX3_ownedAmong_31 : decode cX3_ownedAmong 31 = .ok (.iload_n 1, 1) := by decide +kernel
theorem dX3_ownedAmong_32 : decode cX3_ownedAmong 32 = .ok (.iload_n 2, 1) := by decide +kernel
theorem dX3_ownedAmong_33 : decode cX3_ownedAmong 33 = .ok (.invokevirtual 36, 3) := by decide +kernel
theorem dX3_ownedAmong_36 : decode cX3_ownedAmong 36 = .ok (.iadd, 1) := by decide +kernel
theorem dX3_ownedAmong_37 : decode cX3_ownedAmong 37 = .ok (.istore 4, 2) := by decide +kernel
theorem dX3_ownedAmong_39 : decode cX3_ownedAmong 39 = .ok (.iinc 5 1, 3) := by decide +kernel
theorem dX3_ownedAmong_42 : decode cX3_ownedAmong 42 = .ok (.goto (-36), 3) := by decide +kernel
theorem dX3_ownedAmong_45 : decode cX3_ownedAmong 45 = .ok (.iload 4, 2) := by decide +kernel
theorem dX3_ownedAmong_47 : decode cX3_ownedAmong 47 = .ok (.ireturn, 1) := by decide +kernel
set_option maxRecDepth 20000 in
theorem ggX3_unusedOf_X3_lengthOf : GoodIn wsX3_unusedOf wsX3_lengthOf := goodIn_r _ [8, 9, 10, 11, 12, 7, 13, 1, 14, 15, 16, 17, 18, 19] (by decide +kernel) (by decide +kernel)
set_option maxRecDepth 20000 in
theorem gX3_unusedOf_X3_lengthOf : GoodIn wsX3_unusedOf (wsV RX3 40 RX3 yX3_lengthOf wsX3_lengthOf) := goodIn_app (goodIn_of _ (by decide +kernel)) ggX3_unusedOf_X3_lengthOf
theorem dX3_unusedOf_0 : decode cX3_unusedOf 0 = .ok (.iconst 0, 1) := by decide +kernel
theorem dX3_unusedOf_1 : decode cX3_unusedOf 1 = .ok (.istore_n 2, 1) := by decide +kernel
theorem dX3_unusedOf_2 : decode cX3_unusedOf 2 = .ok (.iconst 0, 1) := by decide +kernel
theorem dX3_unusedOf_3 : decode cX3_unusedOf 3 = .ok (.istore_n 3, 1) := by decide +kernel
theorem dX3_unusedOf_4 : decode cX3_unusedOf 4 = .ok (.iload_n 3, 1) := by decide +kernel
theorem dX3_unusedOf_5 : decode cX3_unusedOf 5 = .ok (.aload_n 0, 1) := by decide +kernel
theorem dX3_unusedOf_6 : decode cX3_unusedOf 6 = .ok (.getfield 21, 3) := by decide +kernel
theorem dX3_unusedOf_9 : decode cX3_unusedOf 9 = .ok (.if_icmp .ge 38, 3) := by decide +kernel
theorem dX3_unusedOf_12 : decode cX3_unusedOf 12 = .ok (.aload_n 0, 1) := by decide +kernel
theorem dX3_unusedOf_13 : decode cX3_unusedOf 13 = .ok (.getfield 15, 3) := by decide +kernel
theorem dX3_unusedOf_16 : decode cX3_unusedOf 16 = .ok (.iload_n 3, 1) := by decide +kernel
theorem dX3_unusedOf_17 : decode cX3_unusedOf 17 = .ok (.iaload, 1) := by decide +kernel
theorem dX3_unusedOf_18 : decode cX3_unusedOf 18 = .ok (.iload_n 1, 1) := by decide +kernel
theorem dX3_unusedOf_19 : decode cX3_unusedOf 19 = .ok (.if_icmp .ne 22, 3) := by decide +kernel
theorem dX3_unusedOf_22 : decode cX3_unusedOf 22 = .ok (.aload_n 0, 1) := by decide +kernel
theorem dX3_unusedOf_23 : decode cX3_unusedOf 23 = .ok (.getfield 18, 3) := by decide +kernel
theorem dX3_unusedOf_26 : decode cX3_unusedOf 26 = .ok (.iload_n 3, 1) := by decide +kernel
theorem dX3_unusedOf_27 : decode cX3_unusedOf 27 = .ok (.iaload, 1) := by decide +kernel
theorem dX3_unusedOf_28 : decode cX3_unusedOf 28 = .ok (.bipush (-9), 2) := by decide +kernel
theorem dX3_unusedOf_30 : decode cX3_unusedOf 30 = .ok (.if_icmp .ne 11, 3) := by decide +kernel
theorem dX3_unusedOf_33 : decode cX3_unusedOf 33 = .ok (.iload_n 2, 1) := by decide +kernel
theorem dX3_unusedOf_34 : decode cX3_unusedOf 34 = .ok (.aload_n 0, 1) := by decide +kernel
theorem dX3_unusedOf_35 : decode cX3_unusedOf 35 = .ok (.iload_n 3, 1) := by decide +kernel
theorem dX3_unusedOf_36 : decode cX3_unusedOf 36 = .ok (.invokevirtual 40, 3) := by decide +kernel
theorem dX3_unusedOf_39 : decode cX3_unusedOf 39 = .ok (.iadd, 1) := by decide +kernel
theorem dX3_unusedOf_40 : decode cX3_unusedOf 40 = .ok (.istore_n 2, 1) := by decide +kernel
theorem dX3_unusedOf_41 : decode cX3_unusedOf 41 = .ok (.iinc 3 1, 3) := by decide +kernel
theorem dX3_unusedOf_44 : decode cX3_unusedOf 44 = .ok (.goto (-40), 3) := by decide +kernel
theorem dX3_unusedOf_47 : decode cX3_unusedOf 47 = .ok (.iload_n 2, 1) := by decide +kernel
theorem dX3_unusedOf_48 : decode cX3_unusedOf 48 = .ok (.ireturn, 1) := by decide +kernel
set_option maxRecDepth 20000 in
theorem ggX3_mark_X3_splitBefore : GoodIn wsX3_mark wsX3_splitBefore := goodIn_r _ [7, 8, 9, 10, 1, 2, 11, 12, 13, 6, 14, 15, 16, 17, 18, 19, 20, 21, 22, 23, 24, 25, 26, 27, 28, 29, 30, 31, 32, 33, 34, 35, 36, 37, 38, 43, 44, 45, 46, 47] (by decide +kernel) (by decide +kernel)
set_option maxRecDepth 20000 in
theorem gX3_mark_X3_splitBefore : GoodIn wsX3_mark (wsV RX3 43 RX3 yX3_splitBefore wsX3_splitBefore) := goodIn_app (goodIn_of _ (by decide +kernel)) ggX3_mark_X3_splitBefore
set_option maxRecDepth 20000 in
theorem ggX3_mark_X3_joinAlike : GoodIn wsX3_mark wsX3_joinAlike := goodIn_r _ [42, 9, 1, 2, 10, 43, 44, 45, 46, 47] (by decide +kernel) (by decide +kernel)
set_option maxRecDepth 20000 in
theorem gX3_mark_X3_joinAlike : GoodIn wsX3_mark (wsV RX3 46 RX3 yX3_joinAlike wsX3_joinAlike) := goodIn_app (goodIn_of _ (by decide +kernel)) ggX3_mark_X3_joinAlike
theorem dX3_mark_0 : decode cX3_mark 0 = .ok (.aload_n 0, 1) := by decide +kernel
theorem dX3_mark_1 : decode cX3_mark 1 = .ok (.iload_n 1, 1) := by decide +kernel
theorem dX3_mark_2 : decode cX3_mark 2 = .ok (.invokevirtual 43, 3) := by decide +kernel
theorem dX3_mark_5 : decode cX3_mark 5 = .ok (.istore 5, 2) := by decide +kernel
theorem dX3_mark_7 : decode cX3_mark 7 = .ok (.aload_n 0, 1) := by decide +kernel
theorem dX3_mark_8 : decode cX3_mark 8 = .ok (.iload_n 1, 1) := by decide +kernel
theorem dX3_mark_9 : decode cX3_mark 9 = .ok (.iload_n 2, 1) := by decide +kernel
theorem dX3_mark_10 : decode cX3_mark 10 = .ok (.iadd, 1) := by decide +kernel
theorem dX3_mark_11 : decode cX3_mark 11 = .ok (.invokevirtual 43, 3) := by decide +kernel
theorem dX3_mark_14 : decode cX3_mark 14 = .ok (.istore 6, 2) := by decide +kernel
theorem dX3_mark_16 : decode cX3_mark 16 = .ok (.iload 5, 2) := by decide +kernel
theorem dX3_mark_18 : decode cX3_mark 18 = .ok (.istore 7, 2) := by decide +kernel
theorem dX3_mark_20 : decode cX3_mark 20 = .ok (.iload 7, 2) := by decide +kernel
theorem dX3_mark_22 : decode cX3_mark 22 = .ok (.iload 6, 2) := by decide +kernel
theorem dX3_mark_24 : decode cX3_mark 24 = .ok (.if_icmp .ge 26, 3) := by decide +kernel
theorem dX3_mark_27 : decode cX3_mark 27 = .ok (.aload_n 0, 1) := by decide +kernel
theorem dX3_mark_28 : decode cX3_mark 28 = .ok (.getfield 15, 3) := by decide +kernel
theorem dX3_mark_31 : decode cX3_mark 31 = .ok (.iload 7, 2) := by decide +kernel
theorem dX3_mark_33 : decode cX3_mark 33 = .ok (.iload_n 3, 1) := by decide +kernel
theorem dX3_mark_34 : decode cX3_mark 34 = .ok (.iastore, 1) := by decide +kernel
theorem dX3_mark_35 : decode cX3_mark 35 = .ok (.aload_n 0, 1) := by decide +kernel
theorem dX3_mark_36 : decode cX3_mark 36 = .ok (.getfield 18, 3) := by decide +kernel
theorem dX3_mark_39 : decode cX3_mark 39 = .ok (.iload 7, 2) := by decide +kernel
theorem dX3_mark_41 : decode cX3_mark 41 = .ok (.iload 4, 2) := by decide +kernel
theorem dX3_mark_43 : decode cX3_mark 43 = .ok (.iastore, 1) := by decide +kernel
theorem dX3_mark_44 : decode cX3_mark 44 = .ok (.iinc 7 1, 3) := by decide +kernel
theorem dX3_mark_47 : decode cX3_mark 47 = .ok (.goto (-27), 3) := by decide +kernel
theorem dX3_mark_50 : decode cX3_mark 50 = .ok (.aload_n 0, 1) := by decide +kernel
theorem dX3_mark_51 : decode cX3_mark 51 = .ok (.invokevirtual 46, 3) := by decide +kernel
theorem dX3_mark_54 : decode cX3_mark 54 = .ok (.return_, 1) := by decide +kernel
theorem dX3_endOf_0 : decode cX3_endOf 0 = .ok (.iload_n 1, 1) := by decide +kernel
theorem dX3_endOf_1 : decode cX3_endOf 1 = .ok (.iconst 1, 1) := by decide +kernel
theorem dX3_endOf_2 : decode cX3_endOf 2 = .ok (.iadd, 1) := by decide +kernel
theorem dX3_endOf_3 : decode cX3_endOf 3 = .ok (.aload_n 0, 1) := by decide +kernel
theorem dX3_endOf_4 : decode cX3_endOf 4 = .ok (.getfield 21, 3) := by decide +kernel
theorem dX3_endOf_7 : decode cX3_endOf 7 = .ok (.if_icmp .ge 14, 3) := by decide +kernel
theorem dX3_endOf_10 : decode cX3_endOf 10 = .ok (.aload_n 0, 1) := by decide +kernel
theorem dX3_endOf_11 : decode cX3_endOf 11 = .ok (.getfield 9, 3) := by decide +kernel
theorem dX3_endOf_14 : decode cX3_endOf 14 = .ok (.iload_n 1, 1) := by decide +kernel
theorem dX3_endOf_15 : decode cX3_endOf 15 = .ok (.iconst 1, 1) := by decide +kernel
theorem dX3_endOf_16 : decode cX3_endOf 16 = .ok (.iadd, 1) := by decide +kernel
theorem dX3_endOf_17 : decode cX3_endOf 17 = .ok (.iaload, 1) := by decide +kernel
theorem dX3_endOf_18 : decode cX3_endOf 18 = .ok (.goto 9, 3) := by decide +kernel
theorem dX3_endOf_21 : decode cX3_endOf 21 = .ok (.aload_n 0, 1) := by decide +kernel
theorem dX3_endOf_22 : decode cX3_endOf 22 = .ok (.getfield 25, 3) := by decide +kernel
theorem dX3_endOf_25 : decode cX3_endOf 25 = .ok (.iconst 1, 1) := by decide +kernel
theorem dX3_endOf_26 : decode cX3_endOf 26 = .ok (.iadd, 1) := by decide +kernel
theorem dX3_endOf_27 : decode cX3_endOf 27 = .ok (.ireturn, 1) := by decide +kernel
set_option maxRecDepth 20000 in
theorem ggX3_sharedWith_X3_endOf : GoodIn wsX3_sharedWith wsX3_endOf := goodIn_r _ [13, 14, 5, 15, 16, 17, 18, 19, 20] (by decide +kernel) (by decide +kernel)
set_option maxRecDepth 20000 in
theorem gX3_sharedWith_X3_endOf : GoodIn wsX3_sharedWith (wsV RX3 32 RX3 yX3_endOf wsX3_endOf) := goodIn_app (goodIn_of _ (by decide +kernel)) ggX3_sharedWith_X3_endOf
theorem dX3_sharedWith_0 : decode cX3_sharedWith 0 = .ok (.iconst 0, 1) := by decide +kernel
theorem dX3_sharedWith_1 : decode cX3_sharedWith 1 = .ok (.aload_n 0, 1) := by decide +kernel
theorem dX3_sharedWith_2 : decode cX3_sharedWith 2 = .ok (.iload_n 1, 1) := by decide +kernel
theorem dX3_sharedWith_3 : decode cX3_sharedWith 3 = .ok (.invokevirtual 32, 3) := by decide +kernel
theorem dX3_sharedWith_6 : decode cX3_sharedWith 6 = .ok (.iload_n 2, 1) := by decide +kernel
theorem dX3_sharedWith_7 : decode cX3_sharedWith 7 = .ok (.iload_n 3, 1) := by decide +kernel
theorem dX3_sharedWith_8 : decode cX3_sharedWith 8 = .ok (.iadd, 1) := by decide +kernel
theorem dX3_sharedWith_9 : decode cX3_sharedWith 9 = .ok (.invokestatic 49, 3) := by decide +kernel
theorem dX3_sharedWith_12 : decode cX3_sharedWith 12 = .ok (.aload_n 0, 1) := by decide +kernel
theorem dX3_sharedWith_13 : decode cX3_sharedWith 13 = .ok (.getfield 9, 3) := by decide +kernel
theorem dX3_sharedWith_16 : decode cX3_sharedWith 16 = .ok (.iload_n 1, 1) := by decide +kernel
theorem dX3_sharedWith_17 : decode cX3_sharedWith 17 = .ok (.iaload, 1) := by decide +kernel
theorem dX3_sharedWith_18 : decode cX3_sharedWith 18 = .ok (.iload_n 2, 1) := by decide +kernel
theorem dX3_sharedWith_19 : decode cX3_sharedWith 19 = .ok (.invokestatic 55, 3) := by decide +kernel
theorem dX3_sharedWith_22 : decode cX3_sharedWith 22 = .ok (.isub, 1) := by decide +kernel
theorem dX3_sharedWith_23 : decode cX3_sharedWith 23 = .ok (.invokestatic 55, 3) := by decide +kernel
theorem dX3_sharedWith_26 : decode cX3_sharedWith 26 = .ok (.ireturn, 1) := by decide +kernel
set_option maxRecDepth 20000 in
theorem ggX3_splitBefore_X3_runWith : GoodIn wsX3_splitBefore wsX3_runWith := goodIn_r _ [10, 2, 3, 35, 36, 37, 38, 39] (by decide +kernel) (by decide +kernel)
set_option maxRecDepth 20000 in
theorem gX3_splitBefore_X3_runWith : GoodIn wsX3_splitBefore (wsV RX3 58 RX3 yX3_runWith wsX3_runWith) := goodIn_app (goodIn_of _ (by decide +kernel)) ggX3_splitBefore_X3_runWith
set_option maxRecDepth 20000 in
theorem ggX3_splitBefore_X3_insertRun : GoodIn wsX3_splitBefore wsX3_insertRun := goodIn_r _ [14, 2, 3, 4, 5, 15, 16, 17, 18, 19, 20, 21, 22, 23, 24, 25, 26, 27, 28, 29, 30, 31, 32, 33, 34, 35, 36, 37, 38, 39] (by decide +kernel) (by decide +kernel)
set_option maxRecDepth 20000 in
theorem gX3_splitBefore_X3_insertRun : GoodIn wsX3_splitBefore (wsV RX3 28 RX3 yX3_insertRun wsX3_insertRun) := goodIn_app (goodIn_of _ (by decide +kernel)) ggX3_splitBefore_X3_insertRun
theorem dX3_splitBefore_0 : decode cX3_splitBefore 0 = .ok (.iload_n 1, 1) := by decide +kernel
theorem dX3_splitBefore_1 : decode cX3_splitBefore 1 = .ok (.aload_n 0, 1) := by decide +kernel
theorem dX3_splitBefore_2 : decode cX3_splitBefore 2 = .ok (.getfield 25, 3) := by decide +kernel
theorem dX3_splitBefore_5 : decode cX3_splitBefore 5 = .ok (.if_icmp .le 8, 3) := by decide +kernel
theorem dX3_splitBefore_8 : decode cX3_splitBefore 8 = .ok (.aload_n 0, 1) := by decide +kernel
theorem dX3_splitBefore_9 : decode cX3_splitBefore 9 = .ok (.getfield 21, 3) := by decide +kernel
theorem dX3_splitBefore_12 : decode cX3_splitBefore 12 = .ok (.ireturn, 1) := by decide +kernel
theorem dX3_splitBefore_13 : decode cX3_splitBefore 13 = .ok (.aload_n 0, 1) := by decide +kernel
theorem dX3_splitBefore_14 : decode cX3_splitBefore 14 = .ok (.iload_n 1, 1) := by decide +kernel
theorem dX3_splitBefore_15 : decode cX3_splitBefore 15 = .ok (.invokevirtual 58, 3) := by decide +kernel
theorem dX3_splitBefore_18 : decode cX3_splitBefore 18 = .ok (.istore_n 2, 1) := by decide +kernel
theorem dX3_splitBefore_19 : decode cX3_splitBefore 19 = .ok (.aload_n 0, 1) := by decide +kernel
theorem dX3_splitBefore_20 : decode cX3_splitBefore 20 = .ok (.getfield 9, 3) := by decide +kernel
theorem dX3_splitBefore_23 : decode cX3_splitBefore 23 = .ok (.iload_n 2, 1) := by decide +kernel
theorem dX3_splitBefore_24 : decode cX3_splitBefore 24 = .ok (.iaload, 1) := by decide +kernel
theorem dX3_splitBefore_25 : decode cX3_splitBefore 25 = .ok (.iload_n 1, 1) := by decide +kernel
theorem dX3_splitBefore_26 : decode cX3_splitBefore 26 = .ok (.if_icmp .ne 5, 3) := by decide +kernel
theorem dX3_splitBefore_29 : decode cX3_splitBefore 29 = .ok (.iload_n 2, 1) := by decide +kernel
theorem dX3_splitBefore_30 : decode cX3_splitBefore 30 = .ok (.ireturn, 1) := by decide +kernel
theorem dX3_splitBefore_31 : decode cX3_splitBefore 31 = .ok (.aload_n 0, 1) := by decide +kernel
theorem dX3_splitBefore_32 : decode cX3_splitBefore 32 = .ok (.iload_n 2, 1) := by decide +kernel
theorem dX3_splitBefore_33 : decode cX3_splitBefore 33 = .ok (.iconst 1, 1) := by decide +kernel
theorem dX3_splitBefore_34 : decode cX3_splitBefore 34 = .ok (.iadd, 1) := by decide +kernel
theorem dX3_splitBefore_35 : decode cX3_splitBefore 35 = .ok (.iload_n 1, 1) := by decide +kernel
theorem dX3_splitBefore_36 : decode cX3_splitBefore 36 = .ok (.aload_n 0, 1) := by decide +kernel
theorem dX3_splitBefore_37 : decode cX3_splitBefore 37 = .ok (.getfield 15, 3) := by decide +kernel
theorem dX3_splitBefore_40 : decode cX3_splitBefore 40 = .ok (.iload_n 2, 1) := by decide +kernel
theorem dX3_splitBefore_41 : decode cX3_splitBefore 41 = .ok (.iaload, 1) := by decide +kernel
theorem dX3_splitBefore_42 : decode cX3_splitBefore 42 = .ok (.aload_n 0, 1) := by decide +kernel
theorem dX3_splitBefore_43 : decode cX3_splitBefore 43 = .ok (.getfield 18, 3) := by decide +kernel
theorem dX3_splitBefore_46 : decode cX3_splitBefore 46 = .ok (.iload_n 2, 1) := by decide +kernel
theorem dX3_splitBefore_47 : decode cX3_splitBefore 47 = .ok (.iaload, 1) := by decide +kernel
theorem dX3_splitBefore_48 : decode cX3_splitBefore 48 = .ok (.invokevirtual 28, 3) := by decide +kernel
theorem dX3_splitBefore_51 : decode cX3_splitBefore 51 = .ok (.iload_n 2, 1) := by decide +kernel
theorem dX3_splitBefore_52 : decode cX3_splitBefore 52 = .ok (.iconst 1, 1) := by decide +kernel
theorem dX3_splitBefore_53 : decode cX3_splitBefore 53 = .ok (.iadd, 1) := by decide +kernel
theorem dX3_splitBefore_54 : decode cX3_splitBefore 54 = .ok (.ireturn, 1) := by decide +kernel
set_option maxRecDepth 20000 in
theorem ggX3_insertRun_J7_copyOf_59c91 : GoodIn wsX3_insertRun wsJ7_copyOf_59c91 := goodIn_r _ [12, 13, 14, 15, 16, 17, 18, 19, 20, 21, 22, 23, 24, 6, 7, 8] (by decide +kernel) (by decide +kernel)
set_option maxRecDepth 20000 in
theorem gX3_insertRun_J7_copyOf_59c91 : GoodIn wsX3_insertRun (va_wsS RX3 61 yJ7_copyOf_59c91 wsJ7_copyOf_59c91) := goodIn_app (goodIn_of _ (by decide +kernel)) ggX3_insertRun_J7_copyOf_59c91
theorem dX3_insertRun_0 : decode cX3_insertRun 0 = .ok (.aload_n 0, 1) := by decide +kernel
theorem dX3_insertRun_1 : decode cX3_insertRun 1 = .ok (.getfield 21, 3) := by decide +kernel
theorem dX3_insertRun_4 : decode cX3_insertRun 4 = .ok (.aload_n 0, 1) := by decide +kernel
theorem dX3_insertRun_5 : decode cX3_insertRun 5 = .ok (.getfield 9, 3) := by decide +kernel
theorem dX3_insertRun_8 : decode cX3_insertRun 8 = .ok (.arraylength, 1) := by decide +kernel
theorem dX3_insertRun_9 : decode cX3_insertRun 9 = .ok (.if_icmp .lt 54, 3) := by decide +kernel
theorem dX3_insertRun_12 : decode cX3_insertRun 12 = .ok (.aload_n 0, 1) := by decide +kernel
theorem dX3_insertRun_13 : decode cX3_insertRun 13 = .ok (.aload_n 0, 1) := by decide +kernel
theorem dX3_insertRun_14 : decode cX3_insertRun 14 = .ok (.getfield 9, 3) := by decide +kernel
theorem dX3_insertRun_17 : decode cX3_insertRun 17 = .ok (.aload_n 0, 1) := by decide +kernel
theorem dX3_insertRun_18 : decode cX3_insertRun 18 = .ok (.getfield 21, 3) := by decide +kernel
theorem dX3_insertRun_21 : decode cX3_insertRun 21 = .ok (.iconst 2, 1) := by decide +kernel
theorem dX3_insertRun_22 : decode cX3_insertRun 22 = .ok (.imul, 1) := by decide +kernel
theorem dX3_insertRun_23 : decode cX3_insertRun 23 = .ok (.invokestatic 61, 3) := by decide +kernel
theorem dX3_insertRun_26 : decode cX3_insertRun 26 = .ok (.putfield 9, 3) := by decide +kernel
theorem dX3_insertRun_29 : decode cX3_insertRun 29 = .ok (.aload_n 0, 1) := by decide +kernel
theorem dX3_insertRun_30 : decode cX3_insertRun 30 = .ok (.aload_n 0, 1) := by decide +kernel
theorem dX3_insertRun_31 : decode cX3_insertRun 31 = .ok (.getfield 15, 3) := by decide +kernel
theorem dX3_insertRun_34 : decode cX3_insertRun 34 = .ok (.aload_n 0, 1) := by decide +kernel
theorem dX3_insertRun_35 : decode cX3_insertRun 35 = .ok (.getfield 21, 3) := by decide +kernel
theorem dX3_insertRun_38 : decode cX3_insertRun 38 = .ok (.iconst 2, 1) := by decide +kernel
theorem dX3_insertRun_39 : decode cX3_insertRun 39 = .ok (.imul, 1) := by decide +kernel
theorem dX3_insertRun_40 : decode cX3_insertRun 40 = .ok (.invokestatic 61, 3) := by decide +kernel
theorem dX3_insertRun_43 : decode cX3_insertRun 43 = .ok (.putfield 15, 3) := by decide +kernel
theorem dX3_insertRun_46 : decode cX3_insertRun 46 = .ok (.aload_n 0, 1) := by decide +kernel
theorem dX3_insertRun_47 : decode cX3_insertRun 47 = .ok (.aload_n 0, 1) := by decide +kernel
theorem dX3_insertRun_48 : decode cX3_insertRun 48 = .ok (.getfield 18, 3) := by decide +kernel
theorem dX3_insertRun_51 : decode cX3_insertRun 51 = .ok (.aload_n 0, 1) := by decide +kernel
theorem dX3_insertRun_52 : decode cX3_insertRun 52 = .ok (.getfield 21, 3) := by decide +kernel
theorem dX3_insertRun_55 : decode cX3_insertRun 55 = .ok (.iconst 2, 1) := by decide +kernel
theorem dX3_insertRun_56 : decode cX3_insertRun 56 = .ok (.imul, 1) := by decide +kernel
theorem dX3_insertRun_57 : decode cX3_insertRun 57 = .ok (.invokestatic 61, 3) := by decide +kernel
theorem dX3_insertRun_60 : decode cX3_insertRun 60 = .ok (.putfield 18, 3) := by decide +kernel
theorem dX3_insertRun_63 : decode cX3_insertRun 63 = .ok (.aload_n 0, 1) := by decide +kernel
theorem dX3_insertRun_64 : decode cX3_insertRun 64 = .ok (.getfield 21, 3) := by decide +kernel
theorem dX3_insertRun_67 : decode cX3_insertRun 67 = .ok (.iload_n 1, 1) := by decide +kernel
theorem dX3_insertRun_68 : decode cX3_insertRun 68 = .ok (.isub, 1) := by decide +kernel
theorem dX3_insertRun_69 : decode cX3_insertRun 69 = .ok (.istore 5, 2) := by decide +kernel
theorem dX3_insertRun_71 : decode cX3_insertRun 71 = .ok (.aload_n 0, 1) := by decide +kernel
theorem dX3_insertRun_72 : decode cX3_insertRun 72 = .ok (.getfield 9, 3) := by decide +kernel
theorem dX3_insertRun_75 : decode cX3_insertRun 75 = .ok (.iload_n 1, 1) := by decide +kernel
theorem dX3_insertRun_76 : decode cX3_insertRun 76 = .ok (.aload_n 0, 1) := by decide +kernel
theorem dX3_insertRun_77 : decode cX3_insertRun 77 = .ok (.getfield 9, 3) := by decide +kernel
theorem dX3_insertRun_80 : decode cX3_insertRun 80 = .ok (.iload_n 1, 1) := by decide +kernel
theorem dX3_insertRun_81 : decode cX3_insertRun 81 = .ok (.iconst 1, 1) := by decide +kernel
theorem dX3_insertRun_82 : decode cX3_insertRun 82 = .ok (.iadd, 1) := by decide +kernel
theorem dX3_insertRun_83 : decode cX3_insertRun 83 = .ok (.iload 5, 2) := by decide +kernel
theorem dX3_insertRun_85 : decode cX3_insertRun 85 = .ok (.invokestatic 67, 3) := by decide +kernel
theorem dX3_insertRun_88 : decode cX3_insertRun 88 = .ok (.aload_n 0, 1) := by decide +kernel
theorem dX3_insertRun_89 : decode cX3_insertRun 89 = .ok (.getfield 15, 3) := by decide +kernel
theorem dX3_insertRun_92 : decode cX3_insertRun 92 = .ok (.iload_n 1, 1) := by decide +kernel
theorem dX3_insertRun_93 : decode cX3_insertRun 93 = .ok (.aload_n 0, 1) := by decide +kernel
theorem dX3_insertRun_94 : decode cX3_insertRun 94 = .ok (.getfield 15, 3) := by decide +kernel
theorem dX3_insertRun_97 : decode cX3_insertRun 97 = .ok (.iload_n 1, 1) := by decide +kernel
theorem dX3_insertRun_98 : decode cX3_insertRun 98 = .ok (.iconst 1, 1) := by decide +kernel
theorem dX3_insertRun_99 : decode cX3_insertRun 99 = .ok (.iadd, 1) := by decide +kernel
theorem dX3_insertRun_100 : decode cX3_insertRun 100 = .ok (.iload 5, 2) := by decide +kernel
theorem dX3_insertRun_102 : decode cX3_insertRun 102 = .ok (.invokestatic 67, 3) := by decide +kernel
theorem dX3_insertRun_105 : decode cX3_insertRun 105 = .ok (.aload_n 0, 1) := by decide +kernel
theorem dX3_insertRun_106 : decode cX3_insertRun 106 = .ok (.getfield 18, 3) := by decide +kernel
theorem dX3_insertRun_109 : decode cX3_insertRun 109 = .ok (.iload_n 1, 1) := by decide +kernel
theorem dX3_insertRun_110 : decode cX3_insertRun 110 = .ok (.aload_n 0, 1) := by decide +kernel
theorem dX3_insertRun_111 : decode cX3_insertRun 111 = .ok (.getfield 18, 3) := by decide +kernel
theorem dX3_insertRun_114 : decode cX3_insertRun 114 = .ok (.iload_n 1, 1) := by decide +kernel
theorem dX3_insertRun_115 : decode cX3_insertRun 115 = .ok (.iconst 1, 1) := by decide +kernel
theorem dX3_insertRun_116 : decode cX3_insertRun 116 = .ok (.iadd, 1) := by decide +kernel
theorem dX3_insertRun_117 : decode cX3_insertRun 117 = .ok (.iload 5, 2) := by decide +kernel
theorem dX3_insertRun_119 : decode cX3_insertRun 119 = .ok (.invokestatic 67, 3) := by decide +kernel
theorem dX3_insertRun_122 : decode cX3_insertRun 122 = .ok (.aload_n 0, 1) := by decide +kernel
theorem dX3_insertRun_123 : decode cX3_insertRun 123 = .ok (.getfield 9, 3) := by decide +kernel
theorem dX3_insertRun_126 : decode cX3_insertRun 126 = .ok (.iload_n 1, 1) := by decide +kernel
theorem dX3_insertRun_127 : decode cX3_insertRun 127 = .ok (.iload_n 2, 1) := by decide +kernel
theorem dX3_insertRun_128 : decode cX3_insertRun 128 = .ok (.iastore, 1) := by decide +kernel
theorem dX3_insertRun_129 : decode cX3_insertRun 129 = .ok (.aload_n 0, 1) := by decide +kernel
theorem dX3_insertRun_130 : decode cX3_insertRun 130 = .ok (.getfield 15, 3) := by decide +kernel
theorem dX3_insertRun_133 : decode cX3_insertRun 133 = .ok (.iload_n 1, 1) := by decide +kernel
theorem dX3_insertRun_134 : decode cX3_insertRun 134 = .ok (.iload_n 3, 1) := by decide +kernel
theorem dX3_insertRun_135 : decode cX3_insertRun 135 = .ok (.iastore, 1) := by decide +kernel
theorem dX3_insertRun_136 : decode cX3_insertRun 136 = .ok (.aload_n 0, 1) := by decide +kernel
theorem dX3_insertRun_137 : decode cX3_insertRun 137 = .ok (.getfield 18, 3) := by decide +kernel
theorem dX3_insertRun_140 : decode cX3_insertRun 140 = .ok (.iload_n 1, 1) := by decide +kernel
theorem dX3_insertRun_141 : decode cX3_insertRun 141 = .ok (.iload 4, 2) := by decide +kernel
theorem dX3_insertRun_143 : decode cX3_insertRun 143 = .ok (.iastore, 1) := by decide +kernel
theorem dX3_insertRun_144 : decode cX3_insertRun 144 = .ok (.aload_n 0, 1) := by decide +kernel
theorem dX3_insertRun_145 : decode cX3_insertRun 145 = .ok (.dup, 1) := by decide +kernel
theorem dX3_insertRun_146 : decode cX3_insertRun 146 = .ok (.getfield 21, 3) := by decide +kernel
theorem dX3_insertRun_149 : decode cX3_insertRun 149 = .ok (.iconst 1, 1) := by decide +kernel
theorem dX3_insertRun_150 : decode cX3_insertRun 150 = .ok (.iadd, 1) := by decide +kernel
theorem dX3_insertRun_151 : decode cX3_insertRun 151 = .ok (.putfield 21, 3) := by decide +kernel
theorem dX3_insertRun_154 : decode cX3_insertRun 154 = .ok (.return_, 1) := by decide +kernel
theorem dX3_joinAlike_0 : decode cX3_joinAlike 0 = .ok (.iconst 0, 1) := by decide +kernel
theorem dX3_joinAlike_1 : decode cX3_joinAlike 1 = .ok (.istore_n 1, 1) := by decide +kernel
theorem dX3_joinAlike_2 : decode cX3_joinAlike 2 = .ok (.iconst 0, 1) := by decide +kernel
theorem dX3_joinAlike_3 : decode cX3_joinAlike 3 = .ok (.istore_n 2, 1) := by decide +kernel
theorem dX3_joinAlike_4 : decode cX3_joinAlike 4 = .ok (.iload_n 2, 1) := by decide +kernel
theorem dX3_joinAlike_5 : decode cX3_joinAlike 5 = .ok (.aload_n 0, 1) := by decide +kernel
theorem dX3_joinAlike_6 : decode cX3_joinAlike 6 = .ok (.getfield 21, 3) := by decide +kernel
theorem dX3_joinAlike_9 : decode cX3_joinAlike 9 = .ok (.if_icmp .ge 86, 3) := by decide +kernel
theorem dX3_joinAlike_12 : decode cX3_joinAlike 12 = .ok (.iload_n 1, 1) := by decide +kernel
theorem dX3_joinAlike_13 : decode cX3_joinAlike 13 = .ok (.ifCond .eq 37, 3) := by decide +kernel
theorem dX3_joinAlike_16 : decode cX3_joinAlike 16 = .ok (.aload_n 0, 1) := by decide +kernel
theorem dX3_joinAlike_17 : decode cX3_joinAlike 17 = .ok (.getfield 15, 3) := by decide +kernel
theorem dX3_joinAlike_20 : decode cX3_joinAlike 20 = .ok (.iload_n 1, 1) := by decide +kernel
theorem dX3_joinAlike_21 : decode cX3_joinAlike 21 = .ok (.iconst 1, 1) := by decide +kernel
theorem dX3_joinAlike_22 : decode cX3_joinAlike 22 = .ok (.isub, 1) := by decide +kernel
theorem dX3_joinAlike_23 : decode cX3_joinAlike 23 = .ok (.iaload, 1) := by decide +kernel
theorem dX3_joinAlike_24 : decode cX3_joinAlike 24 = .ok (.aload_n 0, 1) := by decide +kernel
theorem dX3_joinAlike_25 : decode cX3_joinAlike 25 = .ok (.getfield 15, 3) := by decide +kernel
theorem dX3_joinAlike_28 : decode cX3_joinAlike 28 = .ok (.iload_n 2, 1) := by decide +kernel
theorem dX3_joinAlike_29 : decode cX3_joinAlike 29 = .ok (.iaload, 1) := by decide +kernel
theorem dX3_joinAlike_30 : decode cX3_joinAlike 30 = .ok (.if_icmp .ne 20, 3) := by decide +kernel
theorem dX3_joinAlike_33 : decode cX3_joinAlike 33 = .ok (.aload_n 0, 1) := by decide +kernel
theorem dX3_joinAlike_34 : decode cX3_joinAlike 34 = .ok (.getfield 18, 3) := by decide +kernel
theorem dX3_joinAlike_37 : decode cX3_joinAlike 37 = .ok (.iload_n 1, 1) := by decide +kernel
theorem dX3_joinAlike_38 : decode cX3_joinAlike 38 = .ok (.iconst 1, 1) := by decide +kernel
theorem dX3_joinAlike_39 : decode cX3_joinAlike 39 = .ok (.isub, 1) := by decide +kernel
theorem dX3_joinAlike_40 : decode cX3_joinAlike 40 = .ok (.iaload, 1) := by decide +kernel
theorem dX3_joinAlike_41 : decode cX3_joinAlike 41 = .ok (.aload_n 0, 1) := by decide +kernel
theorem dX3_joinAlike_42 : decode cX3_joinAlike 42 = .ok (.getfield 18, 3) := by decide +kernel
theorem dX3_joinAlike_45 : decode cX3_joinAlike 45 = .ok (.iload_n 2, 1) := by decide +kernel
theorem dX3_joinAlike_46 : decode cX3_joinAlike 46 = .ok (.iaload, 1) := by decide +kernel
theorem dX3_joinAlike_47 : decode cX3_joinAlike 47 = .ok (.if_icmp .eq 42, 3) := by decide +kernel
theorem dX3_joinAlike_50 : decode cX3_joinAlike 50 = .ok (.aload_n 0, 1) := by decide +kernel
theorem dX3_joinAlike_51 : decode cX3_joinAlike 51 = .ok (.getfield 9, 3) := by decide +kernel
theorem dX3_joinAlike_54 : decode cX3_joinAlike 54 = .ok (.iload_n 1, 1) := by decide +kernel
theorem dX3_joinAlike_55 : decode cX3_joinAlike 55 = .ok (.aload_n 0, 1) := by decide +kernel
theorem dX3_joinAlike_56 : decode cX3_joinAlike 56 = .ok (.getfield 9, 3) := by decide +kernel
theorem dX3_joinAlike_59 : decode cX3_joinAlike 59 = .ok (.iload_n 2, 1) := by decide +kernel
theorem dX3_joinAlike_60 : decode cX3_joinAlike 60 = .ok (.iaload, 1) := by decide +kernel
theorem dX3_joinAlike_61 : decode cX3_joinAlike 61 = .ok (.iastore, 1) := by decide +kernel
theorem dX3_joinAlike_62 : decode cX3_joinAlike 62 = .ok (.aload_n 0, 1) := by decide +kernel
theorem dX3_joinAlike_63 : decode cX3_joinAlike 63 = .ok (.getfield 15, 3) := by decide +kernel
theorem dX3_joinAlike_66 : decode cX3_joinAlike 66 = .ok (.iload_n 1, 1) := by decide +kernel
theorem dX3_joinAlike_67 : decode cX3_joinAlike 67 = .ok (.aload_n 0, 1) := by decide +kernel
theorem dX3_joinAlike_68 : decode cX3_joinAlike 68 = .ok (.getfield 15, 3) := by decide +kernel
theorem dX3_joinAlike_71 : decode cX3_joinAlike 71 = .ok (.iload_n 2, 1) := by decide +kernel
theorem dX3_joinAlike_72 : decode cX3_joinAlike 72 = .ok (.iaload, 1) := by decide +kernel
theorem dX3_joinAlike_73 : decode cX3_joinAlike 73 = .ok (.iastore, 1) := by decide +kernel
theorem dX3_joinAlike_74 : decode cX3_joinAlike 74 = .ok (.aload_n 0, 1) := by decide +kernel
theorem dX3_joinAlike_75 : decode cX3_joinAlike 75 = .ok (.getfield 18, 3) := by decide +kernel
theorem dX3_joinAlike_78 : decode cX3_joinAlike 78 = .ok (.iload_n 1, 1) := by decide +kernel
theorem dX3_joinAlike_79 : decode cX3_joinAlike 79 = .ok (.aload_n 0, 1) := by decide +kernel
theorem dX3_joinAlike_80 : decode cX3_joinAlike 80 = .ok (.getfield 18, 3) := by decide +kernel
theorem dX3_joinAlike_83 : decode cX3_joinAlike 83 = .ok (.iload_n 2, 1) := by decide +kernel
theorem dX3_joinAlike_84 : decode cX3_joinAlike 84 = .ok (.iaload, 1) := by decide +kernel
theorem dX3_joinAlike_85 : decode cX3_joinAlike 85 = .ok (.iastore, 1) := by decide +kernel
theorem dX3_joinAlike_86 : decode cX3_joinAlike 86 = .ok (.iinc 1 1, 3) := by decide +kernel
theorem dX3_joinAlike_89 : decode cX3_joinAlike 89 = .ok (.iinc 2 1, 3) := by decide +kernel
theorem dX3_joinAlike_92 : decode cX3_joinAlike 92 = .ok (.goto (-88), 3) := by decide +kernel
theorem dX3_joinAlike_95 : decode cX3_joinAlike 95 = .ok (.aload_n 0, 1) := by decide +kernel
theorem dX3_joinAlike_96 : decode cX3_joinAlike 96 = .ok (.iload_n 1, 1) := by decide +kernel
theorem dX3_joinAlike_97 : decode cX3_joinAlike 97 = .ok (.putfield 21, 3) := by decide +kernel
theorem dX3_joinAlike_100 : decode cX3_joinAlike 100 = .ok (.return_, 1) := by decide +kernel
theorem dX4_init_0 : decode cX4_init 0 = .ok (.aload_n 0, 1) := by decide +kernel
theorem dX4_init_1 : decode cX4_init 1 = .ok (.invokespecial 1, 3) := by decide +kernel
theorem dX4_init_4 : decode cX4_init 4 = .ok (.aload_n 0, 1) := by decide +kernel
theorem dX4_init_5 : decode cX4_init 5 = .ok (.iload_n 1, 1) := by decide +kernel
theorem dX4_init_6 : decode cX4_init 6 = .ok (.putfield 7, 3) := by decide +kernel
theorem dX4_init_9 : decode cX4_init 9 = .ok (.aload_n 0, 1) := by decide +kernel
theorem dX4_init_10 : decode cX4_init 10 = .ok (.iload_n 2, 1) := by decide +kernel
theorem dX4_init_11 : decode cX4_init 11 = .ok (.putfield 13, 3) := by decide +kernel
theorem dX4_init_14 : decode cX4_init 14 = .ok (.aload_n 0, 1) := by decide +kernel
theorem dX4_init_15 : decode cX4_init 15 = .ok (.iload_n 3, 1) := by decide +kernel
theorem dX4_init_16 : decode cX4_init 16 = .ok (.putfield 17, 3) := by decide +kernel
theorem dX4_init_19 : decode cX4_init 19 = .ok (.aload_n 0, 1) := by decide +kernel
theorem dX4_init_20 : decode cX4_init 20 = .ok (.iload 4, 2) := by decide +kernel
theorem dX4_init_22 : decode cX4_init 22 = .ok (.putfield 20, 3) := by decide +kernel
theorem dX4_init_25 : decode cX4_init 25 = .ok (.return_, 1) := by decide +kernel
set_option maxRecDepth 20000 in
theorem ggX5_init_X1_init : GoodIn wsX5_init wsX1_init := goodIn_r _ [23, 24, 2, 3, 25, 26, 27, 28, 29, 30, 31, 32, 33, 34, 35, 36, 37, 38, 68, 69, 70, 71, 72, 73, 74, 75, 76, 77, 78] (by decide +kernel) (by decide +kernel)
set_option maxRecDepth 20000 in
theorem gX5_init_X1_init : GoodIn wsX5_init (wsX1_init) := ggX5_init_X1_init
set_option maxRecDepth 20000 in
theorem ggX5_init_X2_init : GoodIn wsX5_init wsX2_init := goodIn_r _ [41, 42, 2, 3, 25, 43, 44, 45, 46, 47, 48, 49, 84, 85, 86, 87, 88, 89, 90] (by decide +kernel) (by decide +kernel)
set_option maxRecDepth 20000 in
theorem gX5_init_X2_init : GoodIn wsX5_init (wsX2_init) := ggX5_init_X2_init
set_option maxRecDepth 20000 in
theorem ggX5_init_X0_init : GoodIn wsX5_init wsX0_init := goodIn_r _ [52, 53, 2, 3, 25, 54, 55, 56, 57, 58, 91, 92, 93, 94, 95] (by decide +kernel) (by decide +kernel)
set_option maxRecDepth 20000 in
theorem gX5_init_X0_init : GoodIn wsX5_init (wsX0_init) := ggX5_init_X0_init
set_option maxRecDepth 20000 in
theorem ggX5_init_X3_init : GoodIn wsX5_init wsX3_init := goodIn_r _ [61, 62, 2, 3, 25, 63, 64, 65, 66, 67, 96, 97, 98, 99, 100] (by decide +kernel) (by decide +kernel)
set_option maxRecDepth 20000 in
theorem gX5_init_X3_init : GoodIn wsX5_init (wsX3_init) := ggX5_init_X3_init
theorem dX5_init_0 : decode cX5_init 0 = .ok (.aload_n 0, 1) := by decide +kernel
theorem dX5_init_1 : decode cX5_init 1 = .ok (.invokespecial 1, 3) := by decide +kernel
theorem dX5_init_4 : decode cX5_init 4 = .ok (.aload_n 0, 1) := by decide +kernel
theorem dX5_init_5 : decode cX5_init 5 = .ok (.new 7, 3) := by decide +kernel
theorem dX5_init_8 : decode cX5_init 8 = .ok (.dup, 1) := by decide +kernel
theorem dX5_init_9 : decode cX5_init 9 = .ok (.invokespecial 9, 3) := by decide +kernel
theorem dX5_init_12 : decode cX5_init 12 = .ok (.putfield 10, 3) := by decide +kernel
theorem dX5_init_15 : decode cX5_init 15 = .ok (.aload_n 0, 1) := by decide +kernel
theorem dX5_init_16 : decode cX5_init 16 = .ok (.new 16, 3) := by decide +kernel
theorem dX5_init_19 : decode cX5_init 19 = .ok (.dup, 1) := by decide +kernel
theorem dX5_init_20 : decode cX5_init 20 = .ok (.invokespecial 18, 3) := by decide +kernel
theorem dX5_init_23 : decode cX5_init 23 = .ok (.putfield 19, 3) := by decide +kernel
theorem dX5_init_26 : decode cX5_init 26 = .ok (.aload_n 0, 1) := by decide +kernel
theorem dX5_init_27 : decode cX5_init 27 = .ok (.new 23, 3) := by decide +kernel
theorem dX5_init_30 : decode cX5_init 30 = .ok (.dup, 1) := by decide +kernel
theorem dX5_init_31 : decode cX5_init 31 = .ok (.invokespecial 25, 3) := by decide +kernel
theorem dX5_init_34 : decode cX5_init 34 = .ok (.putfield 26, 3) := by decide +kernel
theorem dX5_init_37 : decode cX5_init 37 = .ok (.aload_n 0, 1) := by decide +kernel
theorem dX5_init_38 : decode cX5_init 38 = .ok (.new 30, 3) := by decide +kernel
theorem dX5_init_41 : decode cX5_init 41 = .ok (.dup, 1) := by decide +kernel
theorem dX5_init_42 : decode cX5_init 42 = .ok (.invokespecial 32, 3) := by decide +kernel
theorem dX5_init_45 : decode cX5_init 45 = .ok (.putfield 33, 3) := by decide +kernel
theorem dX5_init_48 : decode cX5_init 48 = .ok (.aload_n 0, 1) := by decide +kernel
theorem dX5_init_49 : decode cX5_init 49 = .ok (.iconst 1, 1) := by decide +kernel
theorem dX5_init_50 : decode cX5_init 50 = .ok (.putfield 37, 3) := by decide +kernel
theorem dX5_init_53 : decode cX5_init 53 = .ok (.return_, 1) := by decide +kernel
theorem dX5_unit_0 : decode cX5_unit 0 = .ok (.aload_n 0, 1) := by decide +kernel
theorem dX5_unit_1 : decode cX5_unit 1 = .ok (.getfield 37, 3) := by decide +kernel
theorem dX5_unit_4 : decode cX5_unit 4 = .ok (.bipush 10, 2) := by decide +kernel
theorem dX5_unit_6 : decode cX5_unit 6 = .ok (.if_icmp .lt 6, 3) := by decide +kernel
theorem dX5_unit_9 : decode cX5_unit 9 = .ok (.bipush (-4), 2) := by decide +kernel
theorem dX5_unit_11 : decode cX5_unit 11 = .ok (.ireturn, 1) := by decide +kernel
theorem dX5_unit_12 : decode cX5_unit 12 = .ok (.aload_n 0, 1) := by decide +kernel
theorem dX5_unit_13 : decode cX5_unit 13 = .ok (.dup, 1) := by decide +kernel
theorem dX5_unit_14 : decode cX5_unit 14 = .ok (.getfield 37, 3) := by decide +kernel
theorem dX5_unit_17 : decode cX5_unit 17 = .ok (.iconst 1, 1) := by decide +kernel
theorem dX5_unit_18 : decode cX5_unit 18 = .ok (.iadd, 1) := by decide +kernel
theorem dX5_unit_19 : decode cX5_unit 19 = .ok (.putfield 37, 3) := by decide +kernel
theorem dX5_unit_22 : decode cX5_unit 22 = .ok (.aload_n 0, 1) := by decide +kernel
theorem dX5_unit_23 : decode cX5_unit 23 = .ok (.getfield 37, 3) := by decide +kernel
theorem dX5_unit_26 : decode cX5_unit 26 = .ok (.iconst 1, 1) := by decide +kernel
theorem dX5_unit_27 : decode cX5_unit 27 = .ok (.isub, 1) := by decide +kernel
theorem dX5_unit_28 : decode cX5_unit 28 = .ok (.ireturn, 1) := by decide +kernel
set_option maxRecDepth 20000 in
theorem ggX5_hold_X5_isUnit : GoodIn wsX5_hold wsX5_isUnit := goodIn_r _ [6, 7, 74, 75, 76, 77, 78] (by decide +kernel) (by decide +kernel)
set_option maxRecDepth 20000 in
theorem gX5_hold_X5_isUnit : GoodIn wsX5_hold (wsV RX5 41 RX5 yX5_isUnit wsX5_isUnit) := goodIn_app (goodIn_of _ (by decide +kernel)) ggX5_hold_X5_isUnit
set_option maxRecDepth 20000 in
theorem ggX5_hold_X5_isHundredths : GoodIn wsX5_hold wsX5_isHundredths := goodIn_r _ [10] (by decide +kernel) (by decide +kernel)
set_option maxRecDepth 20000 in
theorem gX5_hold_X5_isHundredths : GoodIn wsX5_hold (va_wsS RX5 45 yX5_isHundredths wsX5_isHundredths) := goodIn_app (goodIn_of _ (by decide +kernel)) ggX5_hold_X5_isHundredths
set_option maxRecDepth 20000 in
theorem ggX5_hold_X5_isDay : GoodIn wsX5_hold wsX5_isDay := goodIn_r _ [13] (by decide +kernel) (by decide +kernel)
set_option maxRecDepth 20000 in
theorem gX5_hold_X5_isDay : GoodIn wsX5_hold (va_wsS RX5 48 yX5_isDay wsX5_isDay) := goodIn_app (goodIn_of _ (by decide +kernel)) ggX5_hold_X5_isDay
set_option maxRecDepth 20000 in
theorem ggX5_hold_X1_mayTie : GoodIn wsX5_hold wsX1_mayTie := goodIn_r _ [18, 19, 20, 21, 22, 17, 23, 24, 25, 26, 27, 28, 29, 30, 31, 32, 33, 34, 35, 36, 37, 38, 39, 40, 41, 42, 43, 79, 80, 81, 82, 83, 84, 85, 86, 87, 88, 89] (by decide +kernel) (by decide +kernel)
set_option maxRecDepth 20000 in
theorem gX5_hold_X1_mayTie : GoodIn wsX5_hold (wsV RX5 51 RX1 yX1_mayTie wsX1_mayTie) := goodIn_app (goodIn_of _ (by decide +kernel)) ggX5_hold_X1_mayTie
set_option maxRecDepth 20000 in
theorem ggX5_hold_X1_tell : GoodIn wsX5_hold wsX1_tell := goodIn_r _ [47, 24, 26, 27, 48, 25, 49, 50, 51, 17, 52, 53, 54, 55, 56, 57, 58, 59, 60, 61, 62, 63, 64, 65, 66, 67, 68, 69, 70, 71, 72, 73, 79, 80, 81, 82, 83, 84, 85, 86, 87, 88, 89] (by decide +kernel) (by decide +kernel)
set_option maxRecDepth 20000 in
theorem gX5_hold_X1_tell : GoodIn wsX5_hold (wsV RX5 55 RX1 yX1_tell wsX1_tell) := goodIn_app (goodIn_of _ (by decide +kernel)) ggX5_hold_X1_tell
theorem dX5_hold_0 : decode cX5_hold 0 = .ok (.aload_n 0, 1) := by decide +kernel
theorem dX5_hold_1 : decode cX5_hold 1 = .ok (.iload_n 1, 1) := by decide +kernel
theorem dX5_hold_2 : decode cX5_hold 2 = .ok (.invokevirtual 41, 3) := by decide +kernel
theorem dX5_hold_5 : decode cX5_hold 5 = .ok (.ifCond .eq 11, 3) := by decide +kernel
theorem dX5_hold_8 : decode cX5_hold 8 = .ok (.aload_n 0, 1) := by decide +kernel
theorem dX5_hold_9 : decode cX5_hold 9 = .ok (.iload_n 2, 1) := by decide +kernel
theorem dX5_hold_10 : decode cX5_hold 10 = .ok (.invokevirtual 41, 3) := by decide +kernel
theorem dX5_hold_13 : decode cX5_hold 13 = .ok (.ifCond .ne 5, 3) := by decide +kernel
theorem dX5_hold_16 : decode cX5_hold 16 = .ok (.iconst (-1), 1) := by decide +kernel
theorem dX5_hold_17 : decode cX5_hold 17 = .ok (.ireturn, 1) := by decide +kernel
theorem dX5_hold_18 : decode cX5_hold 18 = .ok (.iload_n 3, 1) := by decide +kernel
theorem dX5_hold_19 : decode cX5_hold 19 = .ok (.invokestatic 45, 3) := by decide +kernel
theorem dX5_hold_22 : decode cX5_hold 22 = .ok (.ifCond .eq 11, 3) := by decide +kernel
theorem dX5_hold_25 : decode cX5_hold 25 = .ok (.iload 4, 2) := by decide +kernel
theorem dX5_hold_27 : decode cX5_hold 27 = .ok (.invokestatic 48, 3) := by decide +kernel
theorem dX5_hold_30 : decode cX5_hold 30 = .ok (.ifCond .ne 6, 3) := by decide +kernel
theorem dX5_hold_33 : decode cX5_hold 33 = .ok (.bipush (-2), 2) := by decide +kernel
theorem dX5_hold_35 : decode cX5_hold 35 = .ok (.ireturn, 1) := by decide +kernel
theorem dX5_hold_36 : decode cX5_hold 36 = .ok (.iload_n 1, 1) := by decide +kernel
theorem dX5_hold_37 : decode cX5_hold 37 = .ok (.iload_n 2, 1) := by decide +kernel
theorem dX5_hold_38 : decode cX5_hold 38 = .ok (.if_icmp .eq 19, 3) := by decide +kernel
theorem dX5_hold_41 : decode cX5_hold 41 = .ok (.iload_n 3, 1) := by decide +kernel
theorem dX5_hold_42 : decode cX5_hold 42 = .ok (.ifCond .le 18, 3) := by decide +kernel
theorem dX5_hold_45 : decode cX5_hold 45 = .ok (.aload_n 0, 1) := by decide +kernel
theorem dX5_hold_46 : decode cX5_hold 46 = .ok (.getfield 10, 3) := by decide +kernel
theorem dX5_hold_49 : decode cX5_hold 49 = .ok (.iload_n 1, 1) := by decide +kernel
theorem dX5_hold_50 : decode cX5_hold 50 = .ok (.iload_n 2, 1) := by decide +kernel
theorem dX5_hold_51 : decode cX5_hold 51 = .ok (.invokevirtual 51, 3) := by decide +kernel
theorem dX5_hold_54 : decode cX5_hold 54 = .ok (.ifCond .ne 6, 3) := by decide +kernel
theorem dX5_hold_57 : decode cX5_hold 57 = .ok (.bipush (-3), 2) := by decide +kernel
theorem dX5_hold_59 : decode cX5_hold 59 = .ok (.ireturn, 1) := by decide +kernel
theorem dX5_hold_60 : decode cX5_hold 60 = .ok (.aload_n 0, 1) := by decide +kernel
theorem dX5_hold_61 : decode cX5_hold 61 = .ok (.getfield 10, 3) := by decide +kernel
theorem dX5_hold_64 : decode cX5_hold 64 = .ok (.iload_n 1, 1) := by decide +kernel
theorem dX5_hold_65 : decode cX5_hold 65 = .ok (.iload_n 2, 1) := by decide +kernel
theorem dX5_hold_66 : decode cX5_hold 66 = .ok (.iload_n 3, 1) := by decide +kernel
theorem dX5_hold_67 : decode cX5_hold 67 = .ok (.iload 4, 2) := by decide +kernel
theorem dX5_hold_69 : decode cX5_hold 69 = .ok (.invokevirtual 55, 3) := by decide +kernel
theorem dX5_hold_72 : decode cX5_hold 72 = .ok (.ireturn, 1) := by decide +kernel
set_option maxRecDepth 20000 in
theorem ggX5_holds_X5_isUnit : GoodIn wsX5_holds wsX5_isUnit := goodIn_r _ [6, 7, 25, 26, 27, 28, 29] (by decide +kernel) (by decide +kernel)
set_option maxRecDepth 20000 in
theorem gX5_holds_X5_isUnit : GoodIn wsX5_holds (wsV RX5 41 RX5 yX5_isUnit wsX5_isUnit) := goodIn_app (goodIn_of _ (by decide +kernel)) ggX5_holds_X5_isUnit
set_option maxRecDepth 20000 in
theorem ggX5_holds_X5_isDay : GoodIn wsX5_holds wsX5_isDay := goodIn_r _ [10] (by decide +kernel) (by decide +kernel)
set_option maxRecDepth 20000 in
theorem gX5_holds_X5_isDay : GoodIn wsX5_holds (va_wsS RX5 48 yX5_isDay wsX5_isDay) := goodIn_app (goodIn_of _ (by decide +kernel)) ggX5_holds_X5_isDay
set_option maxRecDepth 20000 in
theorem ggX5_holds_X1_heldOn : GoodIn wsX5_holds wsX1_heldOn := goodIn_r _ [15, 16, 17, 18, 19, 20, 21, 14, 22, 23, 24, 30, 31, 32, 33, 34, 35, 36, 37, 38, 39, 40] (by decide +kernel) (by decide +kernel)
set_option maxRecDepth 20000 in
theorem gX5_holds_X1_heldOn : GoodIn wsX5_holds (wsV RX5 59 RX1 yX1_heldOn wsX1_heldOn) := goodIn_app (goodIn_of _ (by decide +kernel)) ggX5_holds_X1_heldOn
theorem dX5_holds_0 : decode cX5_holds 0 = .ok (.aload_n 0, 1) := by decide +kernel
theorem dX5_holds_1 : decode cX5_holds 1 = .ok (.iload_n 1, 1) := by decide +kernel
theorem dX5_holds_2 : decode cX5_holds 2 = .ok (.invokevirtual 41, 3) := by decide +kernel
theorem dX5_holds_5 : decode cX5_holds 5 = .ok (.ifCond .eq 11, 3) := by decide +kernel
theorem dX5_holds_8 : decode cX5_holds 8 = .ok (.aload_n 0, 1) := by decide +kernel
theorem dX5_holds_9 : decode cX5_holds 9 = .ok (.iload_n 2, 1) := by decide +kernel
theorem dX5_holds_10 : decode cX5_holds 10 = .ok (.invokevirtual 41, 3) := by decide +kernel
theorem dX5_holds_13 : decode cX5_holds 13 = .ok (.ifCond .ne 5, 3) := by decide +kernel
theorem dX5_holds_16 : decode cX5_holds 16 = .ok (.iconst (-1), 1) := by decide +kernel
theorem dX5_holds_17 : decode cX5_holds 17 = .ok (.ireturn, 1) := by decide +kernel
theorem dX5_holds_18 : decode cX5_holds 18 = .ok (.iload_n 3, 1) := by decide +kernel
theorem dX5_holds_19 : decode cX5_holds 19 = .ok (.invokestatic 48, 3) := by decide +kernel
theorem dX5_holds_22 : decode cX5_holds 22 = .ok (.ifCond .eq 16, 3) := by decide +kernel
theorem dX5_holds_25 : decode cX5_holds 25 = .ok (.aload_n 0, 1) := by decide +kernel
theorem dX5_holds_26 : decode cX5_holds 26 = .ok (.getfield 10, 3) := by decide +kernel
theorem dX5_holds_29 : decode cX5_holds 29 = .ok (.iload_n 1, 1) := by decide +kernel
theorem dX5_holds_30 : decode cX5_holds 30 = .ok (.iload_n 2, 1) := by decide +kernel
theorem dX5_holds_31 : decode cX5_holds 31 = .ok (.iload_n 3, 1) := by decide +kernel
theorem dX5_holds_32 : decode cX5_holds 32 = .ok (.invokevirtual 59, 3) := by decide +kernel
theorem dX5_holds_35 : decode cX5_holds 35 = .ok (.goto 5, 3) := by decide +kernel
theorem dX5_holds_38 : decode cX5_holds 38 = .ok (.bipush (-2), 2) := by decide +kernel
theorem dX5_holds_40 : decode cX5_holds 40 = .ok (.ireturn, 1) := by decide +kernel
set_option maxRecDepth 20000 in
theorem ggX5_share_X5_isUnit : GoodIn wsX5_share wsX5_isUnit := goodIn_r _ [8, 9, 57, 58, 59, 60, 61] (by decide +kernel) (by decide +kernel)
set_option maxRecDepth 20000 in
theorem gX5_share_X5_isUnit : GoodIn wsX5_share (wsV RX5 41 RX5 yX5_isUnit wsX5_isUnit) := goodIn_app (goodIn_of _ (by decide +kernel)) ggX5_share_X5_isUnit
set_option maxRecDepth 20000 in
theorem ggX5_share_X5_isDay : GoodIn wsX5_share wsX5_isDay := goodIn_r _ [12] (by decide +kernel) (by decide +kernel)
set_option maxRecDepth 20000 in
theorem gX5_share_X5_isDay : GoodIn wsX5_share (va_wsS RX5 48 yX5_isDay wsX5_isDay) := goodIn_app (goodIn_of _ (by decide +kernel)) ggX5_share_X5_isDay
set_option maxRecDepth 20000 in
theorem ggX5_share_X1_shareOn : GoodIn wsX5_share wsX1_shareOn := goodIn_r _ [17, 18, 19, 20, 16, 21, 22, 23, 24, 25, 26, 27, 28, 29, 30, 31, 32, 33, 34, 35, 36, 37, 38, 39, 40, 41, 42, 43, 44, 45, 46, 47, 48, 49, 50, 51, 52, 53, 54, 55, 56, 62, 63, 64, 65, 66, 67, 68, 69, 70, 71, 72] (by decide +kernel) (by decide +kernel)
set_option maxRecDepth 20000 in
theorem gX5_share_X1_shareOn : GoodIn wsX5_share (wsV RX5 65 RX1 yX1_shareOn wsX1_shareOn) := goodIn_app (goodIn_of _ (by decide +kernel)) ggX5_share_X1_shareOn
theorem dX5_share_0 : decode cX5_share 0 = .ok (.aload_n 0, 1) := by decide +kernel
theorem dX5_share_1 : decode cX5_share 1 = .ok (.iload_n 1, 1) := by decide +kernel
theorem dX5_share_2 : decode cX5_share 2 = .ok (.invokevirtual 41, 3) := by decide +kernel
theorem dX5_share_5 : decode cX5_share 5 = .ok (.ifCond .ne 7, 3) := by decide +kernel
theorem dX5_share_8 : decode cX5_share 8 = .ok (.ldc2_w 63, 3) := by decide +kernel
theorem dX5_share_11 : decode cX5_share 11 = .ok (.lreturn, 1) := by decide +kernel
theorem dX5_share_12 : decode cX5_share 12 = .ok (.iload_n 2, 1) := by decide +kernel
theorem dX5_share_13 : decode cX5_share 13 = .ok (.invokestatic 48, 3) := by decide +kernel
theorem dX5_share_16 : decode cX5_share 16 = .ok (.ifCond .eq 15, 3) := by decide +kernel
theorem dX5_share_19 : decode cX5_share 19 = .ok (.aload_n 0, 1) := by decide +kernel
theorem dX5_share_20 : decode cX5_share 20 = .ok (.getfield 10, 3) := by decide +kernel
theorem dX5_share_23 : decode cX5_share 23 = .ok (.iload_n 1, 1) := by decide +kernel
theorem dX5_share_24 : decode cX5_share 24 = .ok (.iload_n 2, 1) := by decide +kernel
theorem dX5_share_25 : decode cX5_share 25 = .ok (.invokevirtual 65, 3) := by decide +kernel
theorem dX5_share_28 : decode cX5_share 28 = .ok (.goto 6, 3) := by decide +kernel
theorem dX5_share_31 : decode cX5_share 31 = .ok (.ldc2_w 69, 3) := by decide +kernel
theorem dX5_share_34 : decode cX5_share 34 = .ok (.lreturn, 1) := by decide +kernel
set_option maxRecDepth 20000 in
theorem ggX5_days_X5_isUnit : GoodIn wsX5_days wsX5_isUnit := goodIn_r _ [8, 9, 61, 62, 63, 64, 65] (by decide +kernel) (by decide +kernel)
set_option maxRecDepth 20000 in
theorem gX5_days_X5_isUnit : GoodIn wsX5_days (wsV RX5 41 RX5 yX5_isUnit wsX5_isUnit) := goodIn_app (goodIn_of _ (by decide +kernel)) ggX5_days_X5_isUnit
set_option maxRecDepth 20000 in
theorem ggX5_days_X5_isDay : GoodIn wsX5_days wsX5_isDay := goodIn_r _ [12] (by decide +kernel) (by decide +kernel)
set_option maxRecDepth 20000 in
theorem gX5_days_X5_isDay : GoodIn wsX5_days (va_wsS RX5 48 yX5_isDay wsX5_isDay) := goodIn_app (goodIn_of _ (by decide +kernel)) ggX5_days_X5_isDay
set_option maxRecDepth 20000 in
theorem ggX5_days_X1_sharesSummed : GoodIn wsX5_days wsX1_sharesSummed := goodIn_r _ [17, 18, 19, 20, 21, 22, 23, 24, 25, 26, 16, 27, 28, 29, 30, 31, 32, 33, 34, 35, 36, 37, 38, 39, 40, 41, 42, 43, 44, 45, 46, 47, 48, 49, 50, 51, 52, 53, 54, 55, 56, 57, 58, 59, 60, 66, 67, 68, 69, 70, 71, 72, 73, 74, 75, 76] (by decide +kernel) (by decide +kernel)
set_option maxRecDepth 20000 in
theorem gX5_days_X1_sharesSummed : GoodIn wsX5_days (wsV RX5 71 RX1 yX1_sharesSummed wsX1_sharesSummed) := goodIn_app (goodIn_of _ (by decide +kernel)) ggX5_days_X1_sharesSummed
theorem dX5_days_0 : decode cX5_days 0 = .ok (.aload_n 0, 1) := by decide +kernel
theorem dX5_days_1 : decode cX5_days 1 = .ok (.iload_n 1, 1) := by decide +kernel
theorem dX5_days_2 : decode cX5_days 2 = .ok (.invokevirtual 41, 3) := by decide +kernel
end
section
theorem dX5_days_5 : decode cX5_days 5 = .ok (.ifCond .ne 7, 3) := by decide +kernel
theorem dX5_days_8 : decode cX5_days 8 = .ok (.ldc2_w 63, 3) := by decide +kernel
theorem dX5_days_11 : decode cX5_days 11 = .ok (.lreturn, 1) := by decide +kernel
theorem dX5_days_12 : decode cX5_days 12 = .ok (.iload_n 2, 1) := by decide +kernel
theorem dX5_days_13 : decode cX5_days 13 = .ok (.invokestatic 48, 3) := by decide +kernel
theorem dX5_days_16 : decode cX5_days 16 = .ok (.ifCond .eq 15, 3) := by decide +kernel
theorem dX5_days_19 : decode cX5_days 19 = .ok (.iload_n 3, 1) := by decide +kernel
theorem dX5_days_20 : decode cX5_days 20 = .ok (.invokestatic 48, 3) := by decide +kernel
theorem dX5_days_23 : decode cX5_days 23 = .ok (.ifCond .eq 8, 3) := by decide +kernel
theorem dX5_days_26 : decode cX5_days 26 = .ok (.iload_n 3, 1) := by decide +kernel
theorem dX5_days_27 : decode cX5_days 27 = .ok (.iload_n 2, 1) := by decide +kernel
theorem dX5_days_28 : decode cX5_days 28 = .ok (.if_icmp .ge 7, 3) := by decide +kernel
theorem dX5_days_31 : decode cX5_days 31 = .ok (.ldc2_w 69, 3) := by decide +kernel
theorem dX5_days_34 : decode cX5_days 34 = .ok (.lreturn, 1) := by decide +kernel
theorem dX5_days_35 : decode cX5_days 35 = .ok (.aload_n 0, 1) := by decide +kernel
theorem dX5_days_36 : decode cX5_days 36 = .ok (.getfield 10, 3) := by decide +kernel
theorem dX5_days_39 : decode cX5_days 39 = .ok (.iload_n 1, 1) := by decide +kernel
theorem dX5_days_40 : decode cX5_days 40 = .ok (.iload_n 2, 1) := by decide +kernel
theorem dX5_days_41 : decode cX5_days 41 = .ok (.iload_n 3, 1) := by decide +kernel
theorem dX5_days_42 : decode cX5_days 42 = .ok (.invokevirtual 71, 3) := by decide +kernel
theorem dX5_days_45 : decode cX5_days 45 = .ok (.lreturn, 1) := by decide +kernel
set_option maxRecDepth 20000 in
theorem ggX5_row_X5_isUnit : GoodIn wsX5_row wsX5_isUnit := goodIn_r _ [7, 8, 26, 27, 28, 29, 30] (by decide +kernel) (by decide +kernel)
set_option maxRecDepth 20000 in
theorem gX5_row_X5_isUnit : GoodIn wsX5_row (wsV RX5 41 RX5 yX5_isUnit wsX5_isUnit) := goodIn_app (goodIn_of _ (by decide +kernel)) ggX5_row_X5_isUnit
set_option maxRecDepth 20000 in
theorem ggX5_row_X5_isKind : GoodIn wsX5_row wsX5_isKind := goodIn_r _ [11] (by decide +kernel) (by decide +kernel)
set_option maxRecDepth 20000 in
theorem gX5_row_X5_isKind : GoodIn wsX5_row (va_wsS RX5 75 yX5_isKind wsX5_isKind) := goodIn_app (goodIn_of _ (by decide +kernel)) ggX5_row_X5_isKind
set_option maxRecDepth 20000 in
theorem ggX5_row_X5_isDay : GoodIn wsX5_row wsX5_isDay := goodIn_r _ [14] (by decide +kernel) (by decide +kernel)
set_option maxRecDepth 20000 in
theorem gX5_row_X5_isDay : GoodIn wsX5_row (va_wsS RX5 48 yX5_isDay wsX5_isDay) := goodIn_app (goodIn_of _ (by decide +kernel)) ggX5_row_X5_isDay
set_option maxRecDepth 20000 in
theorem ggX5_row_X2_add : GoodIn wsX5_row wsX2_add := goodIn_r _ [19, 20, 21, 22, 23, 24, 25, 31, 32, 33, 34, 35, 36, 37] (by decide +kernel) (by decide +kernel)
set_option maxRecDepth 20000 in
theorem gX5_row_X2_add : GoodIn wsX5_row (wsV RX5 79 RX2 yX2_add wsX2_add) := goodIn_app (goodIn_of _ (by decide +kernel)) ggX5_row_X2_add
theorem dX5_row_0 : decode cX5_row 0 = .ok (.aload_n 0, 1) := by decide +kernel
theorem dX5_row_1 : decode cX5_row 1 = .ok (.iload_n 1, 1) := by decide +kernel
theorem dX5_row_2 : decode cX5_row 2 = .ok (.invokevirtual 41, 3) := by decide +kernel
theorem dX5_row_5 : decode cX5_row 5 = .ok (.ifCond .eq 19, 3) := by decide +kernel
theorem dX5_row_8 : decode cX5_row 8 = .ok (.iload 5, 2) := by decide +kernel
theorem dX5_row_10 : decode cX5_row 10 = .ok (.bipush (-9), 2) := by decide +kernel
theorem dX5_row_12 : decode cX5_row 12 = .ok (.if_icmp .eq 14, 3) := by decide +kernel
theorem dX5_row_15 : decode cX5_row 15 = .ok (.aload_n 0, 1) := by decide +kernel
theorem dX5_row_16 : decode cX5_row 16 = .ok (.iload 5, 2) := by decide +kernel
theorem dX5_row_18 : decode cX5_row 18 = .ok (.invokevirtual 41, 3) := by decide +kernel
theorem dX5_row_21 : decode cX5_row 21 = .ok (.ifCond .ne 5, 3) := by decide +kernel
theorem dX5_row_24 : decode cX5_row 24 = .ok (.iconst (-1), 1) := by decide +kernel
theorem dX5_row_25 : decode cX5_row 25 = .ok (.ireturn, 1) := by decide +kernel
theorem dX5_row_26 : decode cX5_row 26 = .ok (.iload_n 2, 1) := by decide +kernel
theorem dX5_row_27 : decode cX5_row 27 = .ok (.invokestatic 75, 3) := by decide +kernel
theorem dX5_row_30 : decode cX5_row 30 = .ok (.ifCond .eq 22, 3) := by decide +kernel
theorem dX5_row_33 : decode cX5_row 33 = .ok (.iload_n 3, 1) := by decide +kernel
theorem dX5_row_34 : decode cX5_row 34 = .ok (.iconst 1, 1) := by decide +kernel
theorem dX5_row_35 : decode cX5_row 35 = .ok (.if_icmp .lt 17, 3) := by decide +kernel
theorem dX5_row_38 : decode cX5_row 38 = .ok (.iload_n 3, 1) := by decide +kernel
theorem dX5_row_39 : decode cX5_row 39 = .ok (.ldc 78, 2) := by decide +kernel
theorem dX5_row_41 : decode cX5_row 41 = .ok (.if_icmp .gt 11, 3) := by decide +kernel
theorem dX5_row_44 : decode cX5_row 44 = .ok (.iload 4, 2) := by decide +kernel
theorem dX5_row_46 : decode cX5_row 46 = .ok (.invokestatic 48, 3) := by decide +kernel
theorem dX5_row_49 : decode cX5_row 49 = .ok (.ifCond .ne 6, 3) := by decide +kernel
theorem dX5_row_52 : decode cX5_row 52 = .ok (.bipush (-2), 2) := by decide +kernel
theorem dX5_row_54 : decode cX5_row 54 = .ok (.ireturn, 1) := by decide +kernel
theorem dX5_row_55 : decode cX5_row 55 = .ok (.iload 5, 2) := by decide +kernel
theorem dX5_row_57 : decode cX5_row 57 = .ok (.iload_n 1, 1) := by decide +kernel
theorem dX5_row_58 : decode cX5_row 58 = .ok (.if_icmp .ne 6, 3) := by decide +kernel
theorem dX5_row_61 : decode cX5_row 61 = .ok (.bipush (-3), 2) := by decide +kernel
theorem dX5_row_63 : decode cX5_row 63 = .ok (.ireturn, 1) := by decide +kernel
theorem dX5_row_64 : decode cX5_row 64 = .ok (.aload_n 0, 1) := by decide +kernel
theorem dX5_row_65 : decode cX5_row 65 = .ok (.getfield 19, 3) := by decide +kernel
theorem dX5_row_68 : decode cX5_row 68 = .ok (.iload_n 1, 1) := by decide +kernel
theorem dX5_row_69 : decode cX5_row 69 = .ok (.iload_n 2, 1) := by decide +kernel
theorem dX5_row_70 : decode cX5_row 70 = .ok (.iload_n 3, 1) := by decide +kernel
theorem dX5_row_71 : decode cX5_row 71 = .ok (.iload 4, 2) := by decide +kernel
theorem dX5_row_73 : decode cX5_row 73 = .ok (.iload 5, 2) := by decide +kernel
theorem dX5_row_75 : decode cX5_row 75 = .ok (.invokevirtual 79, 3) := by decide +kernel
theorem dX5_row_78 : decode cX5_row 78 = .ok (.ireturn, 1) := by decide +kernel
set_option maxRecDepth 20000 in
theorem ggX5_told_X5_isRow : GoodIn wsX5_told wsX5_isRow := goodIn_r _ [12, 1, 13, 63, 64, 65, 66, 67, 68, 69, 70, 71, 72, 73, 74] (by decide +kernel) (by decide +kernel)
set_option maxRecDepth 20000 in
theorem gX5_told_X5_isRow : GoodIn wsX5_told (wsV RX5 83 RX5 yX5_isRow wsX5_isRow) := goodIn_app (goodIn_of _ (by decide +kernel)) ggX5_told_X5_isRow
set_option maxRecDepth 20000 in
theorem ggX5_told_X5_isDouble : GoodIn wsX5_told wsX5_isDouble := goodIn_r _ [17, 1, 6, 18, 2, 19, 20, 21, 22, 23, 24, 25, 26, 27, 28, 29, 30, 31, 32, 33, 34, 35, 36, 37, 38, 39, 40, 41, 42, 43, 44, 45, 46, 47, 48, 49, 50, 51, 52, 53, 54, 55, 56, 57, 58, 59, 60, 61, 62, 63, 64, 65, 66, 67, 68, 69, 70, 71, 72, 73, 74, 75, 76, 77, 78, 79, 80, 81, 82, 83, 84, 85] (by decide +kernel) (by decide +kernel)
set_option maxRecDepth 20000 in
theorem gX5_told_X5_isDouble : GoodIn wsX5_told (wsV RX5 102 RX5 yX5_isDouble wsX5_isDouble) := goodIn_app (goodIn_of _ (by decide +kernel)) ggX5_told_X5_isDouble
theorem dX5_told_0 : decode cX5_told 0 = .ok (.aload_n 0, 1) := by decide +kernel
theorem dX5_told_1 : decode cX5_told 1 = .ok (.iload_n 1, 1) := by decide +kernel
theorem dX5_told_2 : decode cX5_told 2 = .ok (.invokevirtual 83, 3) := by decide +kernel
theorem dX5_told_5 : decode cX5_told 5 = .ok (.ifCond .ne 5, 3) := by decide +kernel
theorem dX5_told_8 : decode cX5_told 8 = .ok (.iconst (-1), 1) := by decide +kernel
theorem dX5_told_9 : decode cX5_told 9 = .ok (.ireturn, 1) := by decide +kernel
theorem dX5_told_10 : decode cX5_told 10 = .ok (.iload_n 2, 1) := by decide +kernel
theorem dX5_told_11 : decode cX5_told 11 = .ok (.tableswitch 124 0 6 #[41, 51, 61, 71, 81, 91, 114], 41) := by decide +kernel
theorem dX5_told_52 : decode cX5_told 52 = .ok (.aload_n 0, 1) := by decide +kernel
theorem dX5_told_53 : decode cX5_told 53 = .ok (.getfield 19, 3) := by decide +kernel
theorem dX5_told_56 : decode cX5_told 56 = .ok (.getfield 86, 3) := by decide +kernel
theorem dX5_told_59 : decode cX5_told 59 = .ok (.iload_n 1, 1) := by decide +kernel
theorem dX5_told_60 : decode cX5_told 60 = .ok (.iaload, 1) := by decide +kernel
theorem dX5_told_61 : decode cX5_told 61 = .ok (.ireturn, 1) := by decide +kernel
theorem dX5_told_62 : decode cX5_told 62 = .ok (.aload_n 0, 1) := by decide +kernel
theorem dX5_told_63 : decode cX5_told 63 = .ok (.getfield 19, 3) := by decide +kernel
theorem dX5_told_66 : decode cX5_told 66 = .ok (.getfield 90, 3) := by decide +kernel
theorem dX5_told_69 : decode cX5_told 69 = .ok (.iload_n 1, 1) := by decide +kernel
theorem dX5_told_70 : decode cX5_told 70 = .ok (.iaload, 1) := by decide +kernel
theorem dX5_told_71 : decode cX5_told 71 = .ok (.ireturn, 1) := by decide +kernel
theorem dX5_told_72 : decode cX5_told 72 = .ok (.aload_n 0, 1) := by decide +kernel
theorem dX5_told_73 : decode cX5_told 73 = .ok (.getfield 19, 3) := by decide +kernel
theorem dX5_told_76 : decode cX5_told 76 = .ok (.getfield 93, 3) := by decide +kernel
theorem dX5_told_79 : decode cX5_told 79 = .ok (.iload_n 1, 1) := by decide +kernel
theorem dX5_told_80 : decode cX5_told 80 = .ok (.iaload, 1) := by decide +kernel
theorem dX5_told_81 : decode cX5_told 81 = .ok (.ireturn, 1) := by decide +kernel
theorem dX5_told_82 : decode cX5_told 82 = .ok (.aload_n 0, 1) := by decide +kernel
theorem dX5_told_83 : decode cX5_told 83 = .ok (.getfield 19, 3) := by decide +kernel
theorem dX5_told_86 : decode cX5_told 86 = .ok (.getfield 96, 3) := by decide +kernel
theorem dX5_told_89 : decode cX5_told 89 = .ok (.iload_n 1, 1) := by decide +kernel
theorem dX5_told_90 : decode cX5_told 90 = .ok (.iaload, 1) := by decide +kernel
theorem dX5_told_91 : decode cX5_told 91 = .ok (.ireturn, 1) := by decide +kernel
theorem dX5_told_92 : decode cX5_told 92 = .ok (.aload_n 0, 1) := by decide +kernel
theorem dX5_told_93 : decode cX5_told 93 = .ok (.getfield 19, 3) := by decide +kernel
theorem dX5_told_96 : decode cX5_told 96 = .ok (.getfield 99, 3) := by decide +kernel
theorem dX5_told_99 : decode cX5_told 99 = .ok (.iload_n 1, 1) := by decide +kernel
theorem dX5_told_100 : decode cX5_told 100 = .ok (.iaload, 1) := by decide +kernel
theorem dX5_told_101 : decode cX5_told 101 = .ok (.ireturn, 1) := by decide +kernel
theorem dX5_told_102 : decode cX5_told 102 = .ok (.aload_n 0, 1) := by decide +kernel
theorem dX5_told_103 : decode cX5_told 103 = .ok (.iload_n 1, 1) := by decide +kernel
theorem dX5_told_104 : decode cX5_told 104 = .ok (.aload_n 0, 1) := by decide +kernel
theorem dX5_told_105 : decode cX5_told 105 = .ok (.getfield 19, 3) := by decide +kernel
theorem dX5_told_108 : decode cX5_told 108 = .ok (.getfield 96, 3) := by decide +kernel
theorem dX5_told_111 : decode cX5_told 111 = .ok (.iload_n 1, 1) := by decide +kernel
theorem dX5_told_112 : decode cX5_told 112 = .ok (.iaload, 1) := by decide +kernel
theorem dX5_told_113 : decode cX5_told 113 = .ok (.invokevirtual 102, 3) := by decide +kernel
theorem dX5_told_116 : decode cX5_told 116 = .ok (.ifCond .eq 7, 3) := by decide +kernel
theorem dX5_told_119 : decode cX5_told 119 = .ok (.iconst 1, 1) := by decide +kernel
theorem dX5_told_120 : decode cX5_told 120 = .ok (.goto 4, 3) := by decide +kernel
theorem dX5_told_123 : decode cX5_told 123 = .ok (.iconst 0, 1) := by decide +kernel
theorem dX5_told_124 : decode cX5_told 124 = .ok (.ireturn, 1) := by decide +kernel
theorem dX5_told_125 : decode cX5_told 125 = .ok (.aload_n 0, 1) := by decide +kernel
theorem dX5_told_126 : decode cX5_told 126 = .ok (.getfield 19, 3) := by decide +kernel
theorem dX5_told_129 : decode cX5_told 129 = .ok (.getfield 105, 3) := by decide +kernel
theorem dX5_told_132 : decode cX5_told 132 = .ok (.iload_n 1, 1) := by decide +kernel
theorem dX5_told_133 : decode cX5_told 133 = .ok (.iaload, 1) := by decide +kernel
theorem dX5_told_134 : decode cX5_told 134 = .ok (.ireturn, 1) := by decide +kernel
theorem dX5_told_135 : decode cX5_told 135 = .ok (.bipush (-2), 2) := by decide +kernel
theorem dX5_told_137 : decode cX5_told 137 = .ok (.ireturn, 1) := by decide +kernel
set_option maxRecDepth 20000 in
theorem ggX5_factor_X5_isKind : GoodIn wsX5_factor wsX5_isKind := goodIn_r _ [5] (by decide +kernel) (by decide +kernel)
set_option maxRecDepth 20000 in
theorem gX5_factor_X5_isKind : GoodIn wsX5_factor (va_wsS RX5 75 yX5_isKind wsX5_isKind) := goodIn_app (goodIn_of _ (by decide +kernel)) ggX5_factor_X5_isKind
set_option maxRecDepth 20000 in
theorem ggX5_factor_X5_isYear : GoodIn wsX5_factor wsX5_isYear := goodIn_r _ [8] (by decide +kernel) (by decide +kernel)
set_option maxRecDepth 20000 in
theorem gX5_factor_X5_isYear : GoodIn wsX5_factor (va_wsS RX5 108 yX5_isYear wsX5_isYear) := goodIn_app (goodIn_of _ (by decide +kernel)) ggX5_factor_X5_isYear
set_option maxRecDepth 20000 in
theorem ggX5_factor_X0_add : GoodIn wsX5_factor wsX0_add := goodIn_r _ [13, 14, 15, 16, 17, 18, 24, 25, 26, 27, 28] (by decide +kernel) (by decide +kernel)
set_option maxRecDepth 20000 in
theorem gX5_factor_X0_add : GoodIn wsX5_factor (wsV RX5 111 RX0 yX0_add wsX0_add) := goodIn_app (goodIn_of _ (by decide +kernel)) ggX5_factor_X0_add
theorem dX5_factor_0 : decode cX5_factor 0 = .ok (.iload_n 1, 1) := by decide +kernel
theorem dX5_factor_1 : decode cX5_factor 1 = .ok (.invokestatic 75, 3) := by decide +kernel
theorem dX5_factor_4 : decode cX5_factor 4 = .ok (.ifCond .eq 28, 3) := by decide +kernel
theorem dX5_factor_7 : decode cX5_factor 7 = .ok (.iload_n 2, 1) := by decide +kernel
theorem dX5_factor_8 : decode cX5_factor 8 = .ok (.invokestatic 108, 3) := by decide +kernel
theorem dX5_factor_11 : decode cX5_factor 11 = .ok (.ifCond .eq 21, 3) := by decide +kernel
theorem dX5_factor_14 : decode cX5_factor 14 = .ok (.iload_n 3, 1) := by decide +kernel
theorem dX5_factor_15 : decode cX5_factor 15 = .ok (.ifCond .lt 17, 3) := by decide +kernel
theorem dX5_factor_18 : decode cX5_factor 18 = .ok (.iload_n 3, 1) := by decide +kernel
theorem dX5_factor_19 : decode cX5_factor 19 = .ok (.iload 4, 2) := by decide +kernel
theorem dX5_factor_21 : decode cX5_factor 21 = .ok (.if_icmp .gt 11, 3) := by decide +kernel
theorem dX5_factor_24 : decode cX5_factor 24 = .ok (.iload 4, 2) := by decide +kernel
theorem dX5_factor_26 : decode cX5_factor 26 = .ok (.sipush 1000, 3) := by decide +kernel
theorem dX5_factor_29 : decode cX5_factor 29 = .ok (.if_icmp .le 6, 3) := by decide +kernel
theorem dX5_factor_32 : decode cX5_factor 32 = .ok (.bipush (-2), 2) := by decide +kernel
theorem dX5_factor_34 : decode cX5_factor 34 = .ok (.ireturn, 1) := by decide +kernel
theorem dX5_factor_35 : decode cX5_factor 35 = .ok (.aload_n 0, 1) := by decide +kernel
theorem dX5_factor_36 : decode cX5_factor 36 = .ok (.getfield 26, 3) := by decide +kernel
theorem dX5_factor_39 : decode cX5_factor 39 = .ok (.iload_n 1, 1) := by decide +kernel
theorem dX5_factor_40 : decode cX5_factor 40 = .ok (.iload_n 2, 1) := by decide +kernel
theorem dX5_factor_41 : decode cX5_factor 41 = .ok (.iload_n 3, 1) := by decide +kernel
theorem dX5_factor_42 : decode cX5_factor 42 = .ok (.iload 4, 2) := by decide +kernel
theorem dX5_factor_44 : decode cX5_factor 44 = .ok (.invokevirtual 111, 3) := by decide +kernel
theorem dX5_factor_47 : decode cX5_factor 47 = .ok (.ireturn, 1) := by decide +kernel
set_option maxRecDepth 20000 in
theorem ggX5_factorAs_X5_isAsOf : GoodIn wsX5_factorAs wsX5_isAsOf := goodIn_r _ [6, 1, 7, 28, 29, 30, 31, 32, 33, 34, 35, 36, 37] (by decide +kernel) (by decide +kernel)
set_option maxRecDepth 20000 in
theorem gX5_factorAs_X5_isAsOf : GoodIn wsX5_factorAs (wsV RX5 113 RX5 yX5_isAsOf wsX5_isAsOf) := goodIn_app (goodIn_of _ (by decide +kernel)) ggX5_factorAs_X5_isAsOf
set_option maxRecDepth 20000 in
theorem ggX5_factorAs_X5_isKind : GoodIn wsX5_factorAs wsX5_isKind := goodIn_r _ [10] (by decide +kernel) (by decide +kernel)
set_option maxRecDepth 20000 in
theorem gX5_factorAs_X5_isKind : GoodIn wsX5_factorAs (va_wsS RX5 75 yX5_isKind wsX5_isKind) := goodIn_app (goodIn_of _ (by decide +kernel)) ggX5_factorAs_X5_isKind
set_option maxRecDepth 20000 in
theorem ggX5_factorAs_X5_isYear : GoodIn wsX5_factorAs wsX5_isYear := goodIn_r _ [13] (by decide +kernel) (by decide +kernel)
set_option maxRecDepth 20000 in
theorem gX5_factorAs_X5_isYear : GoodIn wsX5_factorAs (va_wsS RX5 108 yX5_isYear wsX5_isYear) := goodIn_app (goodIn_of _ (by decide +kernel)) ggX5_factorAs_X5_isYear
set_option maxRecDepth 20000 in
theorem ggX5_factorAs_X0_versionFor : GoodIn wsX5_factorAs wsX0_versionFor := goodIn_r _ [18, 19, 20, 21, 33, 34, 35, 36, 37] (by decide +kernel) (by decide +kernel)
set_option maxRecDepth 20000 in
theorem gX5_factorAs_X0_versionFor : GoodIn wsX5_factorAs (wsV RX5 116 RX0 yX0_versionFor wsX0_versionFor) := goodIn_app (goodIn_of _ (by decide +kernel)) ggX5_factorAs_X0_versionFor
set_option maxRecDepth 20000 in
theorem ggX5_factorAs_X0_endOf : GoodIn wsX5_factorAs wsX0_endOf := goodIn_r _ [25, 26, 27, 33, 34, 35, 36, 37] (by decide +kernel) (by decide +kernel)
set_option maxRecDepth 20000 in
theorem gX5_factorAs_X0_endOf : GoodIn wsX5_factorAs (wsV RX5 119 RX0 yX0_endOf wsX0_endOf) := goodIn_app (goodIn_of _ (by decide +kernel)) ggX5_factorAs_X0_endOf
theorem dX5_factorAs_0 : decode cX5_factorAs 0 = .ok (.aload_n 0, 1) := by decide +kernel
theorem dX5_factorAs_1 : decode cX5_factorAs 1 = .ok (.iload_n 3, 1) := by decide +kernel
theorem dX5_factorAs_2 : decode cX5_factorAs 2 = .ok (.invokevirtual 113, 3) := by decide +kernel
theorem dX5_factorAs_5 : decode cX5_factorAs 5 = .ok (.ifCond .ne 5, 3) := by decide +kernel
theorem dX5_factorAs_8 : decode cX5_factorAs 8 = .ok (.iconst (-1), 1) := by decide +kernel
theorem dX5_factorAs_9 : decode cX5_factorAs 9 = .ok (.ireturn, 1) := by decide +kernel
theorem dX5_factorAs_10 : decode cX5_factorAs 10 = .ok (.iload_n 1, 1) := by decide +kernel
theorem dX5_factorAs_11 : decode cX5_factorAs 11 = .ok (.invokestatic 75, 3) := by decide +kernel
theorem dX5_factorAs_14 : decode cX5_factorAs 14 = .ok (.ifCond .eq 10, 3) := by decide +kernel
theorem dX5_factorAs_17 : decode cX5_factorAs 17 = .ok (.iload_n 2, 1) := by decide +kernel
theorem dX5_factorAs_18 : decode cX5_factorAs 18 = .ok (.invokestatic 108, 3) := by decide +kernel
theorem dX5_factorAs_21 : decode cX5_factorAs 21 = .ok (.ifCond .ne 6, 3) := by decide +kernel
theorem dX5_factorAs_24 : decode cX5_factorAs 24 = .ok (.bipush (-2), 2) := by decide +kernel
theorem dX5_factorAs_26 : decode cX5_factorAs 26 = .ok (.ireturn, 1) := by decide +kernel
theorem dX5_factorAs_27 : decode cX5_factorAs 27 = .ok (.aload_n 0, 1) := by decide +kernel
theorem dX5_factorAs_28 : decode cX5_factorAs 28 = .ok (.getfield 26, 3) := by decide +kernel
theorem dX5_factorAs_31 : decode cX5_factorAs 31 = .ok (.aload_n 0, 1) := by decide +kernel
theorem dX5_factorAs_32 : decode cX5_factorAs 32 = .ok (.getfield 26, 3) := by decide +kernel
theorem dX5_factorAs_35 : decode cX5_factorAs 35 = .ok (.iload_n 1, 1) := by decide +kernel
theorem dX5_factorAs_36 : decode cX5_factorAs 36 = .ok (.iload_n 2, 1) := by decide +kernel
theorem dX5_factorAs_37 : decode cX5_factorAs 37 = .ok (.iload_n 3, 1) := by decide +kernel
theorem dX5_factorAs_38 : decode cX5_factorAs 38 = .ok (.invokevirtual 116, 3) := by decide +kernel
theorem dX5_factorAs_41 : decode cX5_factorAs 41 = .ok (.iload 4, 2) := by decide +kernel
theorem dX5_factorAs_43 : decode cX5_factorAs 43 = .ok (.invokevirtual 119, 3) := by decide +kernel
theorem dX5_factorAs_46 : decode cX5_factorAs 46 = .ok (.ireturn, 1) := by decide +kernel
set_option maxRecDepth 20000 in
theorem ggX5_tons_X5_isRow : GoodIn wsX5_tons wsX5_isRow := goodIn_r _ [9, 10, 11, 72, 73, 74, 75, 76, 77, 78, 79, 80, 81, 82, 83] (by decide +kernel) (by decide +kernel)
set_option maxRecDepth 20000 in
theorem gX5_tons_X5_isRow : GoodIn wsX5_tons (wsV RX5 83 RX5 yX5_isRow wsX5_isRow) := goodIn_app (goodIn_of _ (by decide +kernel)) ggX5_tons_X5_isRow
set_option maxRecDepth 20000 in
theorem ggX5_tons_X5_isAsOf : GoodIn wsX5_tons wsX5_isAsOf := goodIn_r _ [15, 16, 17, 72, 73, 74, 75, 76, 84, 85, 86, 87, 88] (by decide +kernel) (by decide +kernel)
set_option maxRecDepth 20000 in
theorem gX5_tons_X5_isAsOf : GoodIn wsX5_tons (wsV RX5 113 RX5 yX5_isAsOf wsX5_isAsOf) := goodIn_app (goodIn_of _ (by decide +kernel)) ggX5_tons_X5_isAsOf
set_option maxRecDepth 20000 in
theorem ggX5_tons_X4_init : GoodIn wsX5_tons wsX4_init := goodIn_r _ [20, 21, 22, 23, 24, 25, 26, 27, 68, 69, 70, 71] (by decide +kernel) (by decide +kernel)
set_option maxRecDepth 20000 in
theorem gX5_tons_X4_init : GoodIn wsX5_tons (wsX4_init) := ggX5_tons_X4_init
set_option maxRecDepth 20000 in
theorem ggX5_tons_X5_tonsOf : GoodIn wsX5_tons wsX5_tonsOf := goodIn_r _ [31, 16, 32, 33, 34, 35, 10, 36, 37, 38, 39, 40, 8, 41, 42, 43, 44, 45, 46, 47, 48, 49, 50, 51, 52, 53, 54, 55, 56, 57, 58, 59, 60, 61, 62, 63, 64, 65, 66, 67, 72, 73, 74, 75, 76, 68, 69, 70, 71, 77, 78, 79, 80, 81, 82, 83, 84, 85, 86, 87, 88] (by decide +kernel) (by decide +kernel)
set_option maxRecDepth 20000 in
theorem gX5_tons_X5_tonsOf : GoodIn wsX5_tons (wsV RX5 128 RX5 yX5_tonsOf wsX5_tonsOf) := goodIn_app (goodIn_of _ (by decide +kernel)) ggX5_tons_X5_tonsOf
theorem dX5_tons_0 : decode cX5_tons 0 = .ok (.aload_n 0, 1) := by decide +kernel
theorem dX5_tons_1 : decode cX5_tons 1 = .ok (.iload_n 1, 1) := by decide +kernel
theorem dX5_tons_2 : decode cX5_tons 2 = .ok (.invokevirtual 83, 3) := by decide +kernel
theorem dX5_tons_5 : decode cX5_tons 5 = .ok (.ifCond .eq 11, 3) := by decide +kernel
theorem dX5_tons_8 : decode cX5_tons 8 = .ok (.aload_n 0, 1) := by decide +kernel
theorem dX5_tons_9 : decode cX5_tons 9 = .ok (.iload_n 2, 1) := by decide +kernel
theorem dX5_tons_10 : decode cX5_tons 10 = .ok (.invokevirtual 113, 3) := by decide +kernel
theorem dX5_tons_13 : decode cX5_tons 13 = .ok (.ifCond .ne 7, 3) := by decide +kernel
theorem dX5_tons_16 : decode cX5_tons 16 = .ok (.ldc2_w 63, 3) := by decide +kernel
theorem dX5_tons_19 : decode cX5_tons 19 = .ok (.lreturn, 1) := by decide +kernel
theorem dX5_tons_20 : decode cX5_tons 20 = .ok (.aload_n 0, 1) := by decide +kernel
theorem dX5_tons_21 : decode cX5_tons 21 = .ok (.iload_n 1, 1) := by decide +kernel
theorem dX5_tons_22 : decode cX5_tons 22 = .ok (.new 123, 3) := by decide +kernel
theorem dX5_tons_25 : decode cX5_tons 25 = .ok (.dup, 1) := by decide +kernel
theorem dX5_tons_26 : decode cX5_tons 26 = .ok (.iload_n 2, 1) := by decide +kernel
theorem dX5_tons_27 : decode cX5_tons 27 = .ok (.iload_n 3, 1) := by decide +kernel
theorem dX5_tons_28 : decode cX5_tons 28 = .ok (.iconst 0, 1) := by decide +kernel
theorem dX5_tons_29 : decode cX5_tons 29 = .ok (.iload 4, 2) := by decide +kernel
theorem dX5_tons_31 : decode cX5_tons 31 = .ok (.invokespecial 125, 3) := by decide +kernel
theorem dX5_tons_34 : decode cX5_tons 34 = .ok (.invokevirtual 128, 3) := by decide +kernel
theorem dX5_tons_37 : decode cX5_tons 37 = .ok (.lreturn, 1) := by decide +kernel
set_option maxRecDepth 20000 in
theorem ggX5_changed_X5_isAsOf : GoodIn wsX5_changed wsX5_isAsOf := goodIn_r _ [7, 8, 9, 47, 48, 49, 50, 51, 59, 60, 61, 62, 63] (by decide +kernel) (by decide +kernel)
set_option maxRecDepth 20000 in
theorem gX5_changed_X5_isAsOf : GoodIn wsX5_changed (wsV RX5 113 RX5 yX5_isAsOf wsX5_isAsOf) := goodIn_app (goodIn_of _ (by decide +kernel)) ggX5_changed_X5_isAsOf
set_option maxRecDepth 20000 in
theorem ggX5_changed_X5_isYear : GoodIn wsX5_changed wsX5_isYear := goodIn_r _ [12] (by decide +kernel) (by decide +kernel)
set_option maxRecDepth 20000 in
theorem gX5_changed_X5_isYear : GoodIn wsX5_changed (va_wsS RX5 108 yX5_isYear wsX5_isYear) := goodIn_app (goodIn_of _ (by decide +kernel)) ggX5_changed_X5_isYear
set_option maxRecDepth 20000 in
theorem ggX5_changed_X5_isChanged : GoodIn wsX5_changed wsX5_isChanged := goodIn_r _ [16, 1, 8, 17, 18, 19, 20, 21, 22, 23, 24, 25, 26, 27, 28, 29, 6, 30, 31, 32, 33, 34, 35, 36, 37, 38, 39, 40, 41, 42, 43, 44, 45, 46, 47, 48, 49, 50, 51, 52, 53, 54, 55, 56, 57, 58, 59, 60, 61, 62, 63] (by decide +kernel) (by decide +kernel)
set_option maxRecDepth 20000 in
theorem gX5_changed_X5_isChanged : GoodIn wsX5_changed (wsV RX5 135 RX5 yX5_isChanged wsX5_isChanged) := goodIn_app (goodIn_of _ (by decide +kernel)) ggX5_changed_X5_isChanged
theorem dX5_changed_0 : decode cX5_changed 0 = .ok (.aload_n 0, 1) := by decide +kernel
theorem dX5_changed_1 : decode cX5_changed 1 = .ok (.iload_n 2, 1) := by decide +kernel
theorem dX5_changed_2 : decode cX5_changed 2 = .ok (.invokevirtual 113, 3) := by decide +kernel
theorem dX5_changed_5 : decode cX5_changed 5 = .ok (.ifCond .eq 11, 3) := by decide +kernel
theorem dX5_changed_8 : decode cX5_changed 8 = .ok (.aload_n 0, 1) := by decide +kernel
theorem dX5_changed_9 : decode cX5_changed 9 = .ok (.iload_n 3, 1) := by decide +kernel
theorem dX5_changed_10 : decode cX5_changed 10 = .ok (.invokevirtual 113, 3) := by decide +kernel
theorem dX5_changed_13 : decode cX5_changed 13 = .ok (.ifCond .ne 5, 3) := by decide +kernel
theorem dX5_changed_16 : decode cX5_changed 16 = .ok (.iconst (-1), 1) := by decide +kernel
theorem dX5_changed_17 : decode cX5_changed 17 = .ok (.ireturn, 1) := by decide +kernel
theorem dX5_changed_18 : decode cX5_changed 18 = .ok (.iload_n 1, 1) := by decide +kernel
theorem dX5_changed_19 : decode cX5_changed 19 = .ok (.invokestatic 108, 3) := by decide +kernel
theorem dX5_changed_22 : decode cX5_changed 22 = .ok (.ifCond .ne 6, 3) := by decide +kernel
theorem dX5_changed_25 : decode cX5_changed 25 = .ok (.bipush (-2), 2) := by decide +kernel
theorem dX5_changed_27 : decode cX5_changed 27 = .ok (.ireturn, 1) := by decide +kernel
theorem dX5_changed_28 : decode cX5_changed 28 = .ok (.iconst 0, 1) := by decide +kernel
theorem dX5_changed_29 : decode cX5_changed 29 = .ok (.istore 4, 2) := by decide +kernel
theorem dX5_changed_31 : decode cX5_changed 31 = .ok (.iconst 0, 1) := by decide +kernel
theorem dX5_changed_32 : decode cX5_changed 32 = .ok (.istore 5, 2) := by decide +kernel
theorem dX5_changed_34 : decode cX5_changed 34 = .ok (.iload 5, 2) := by decide +kernel
theorem dX5_changed_36 : decode cX5_changed 36 = .ok (.aload_n 0, 1) := by decide +kernel
theorem dX5_changed_37 : decode cX5_changed 37 = .ok (.getfield 19, 3) := by decide +kernel
theorem dX5_changed_40 : decode cX5_changed 40 = .ok (.getfield 132, 3) := by decide +kernel
theorem dX5_changed_43 : decode cX5_changed 43 = .ok (.if_icmp .ge 24, 3) := by decide +kernel
theorem dX5_changed_46 : decode cX5_changed 46 = .ok (.aload_n 0, 1) := by decide +kernel
theorem dX5_changed_47 : decode cX5_changed 47 = .ok (.iload 5, 2) := by decide +kernel
theorem dX5_changed_49 : decode cX5_changed 49 = .ok (.iload_n 1, 1) := by decide +kernel
theorem dX5_changed_50 : decode cX5_changed 50 = .ok (.iload_n 2, 1) := by decide +kernel
theorem dX5_changed_51 : decode cX5_changed 51 = .ok (.iload_n 3, 1) := by decide +kernel
theorem dX5_changed_52 : decode cX5_changed 52 = .ok (.invokevirtual 135, 3) := by decide +kernel
theorem dX5_changed_55 : decode cX5_changed 55 = .ok (.ifCond .eq 6, 3) := by decide +kernel
theorem dX5_changed_58 : decode cX5_changed 58 = .ok (.iinc 4 1, 3) := by decide +kernel
theorem dX5_changed_61 : decode cX5_changed 61 = .ok (.iinc 5 1, 3) := by decide +kernel
theorem dX5_changed_64 : decode cX5_changed 64 = .ok (.goto (-30), 3) := by decide +kernel
theorem dX5_changed_67 : decode cX5_changed 67 = .ok (.iload 4, 2) := by decide +kernel
theorem dX5_changed_69 : decode cX5_changed 69 = .ok (.ireturn, 1) := by decide +kernel
set_option maxRecDepth 20000 in
theorem ggX5_change_X5_isAsOf : GoodIn wsX5_change wsX5_isAsOf := goodIn_r _ [7, 8, 9, 47, 48, 49, 50, 51, 59, 60, 61, 62, 63] (by decide +kernel) (by decide +kernel)
set_option maxRecDepth 20000 in
theorem gX5_change_X5_isAsOf : GoodIn wsX5_change (wsV RX5 113 RX5 yX5_isAsOf wsX5_isAsOf) := goodIn_app (goodIn_of _ (by decide +kernel)) ggX5_change_X5_isAsOf
set_option maxRecDepth 20000 in
theorem ggX5_change_X5_isYear : GoodIn wsX5_change wsX5_isYear := goodIn_r _ [12] (by decide +kernel) (by decide +kernel)
set_option maxRecDepth 20000 in
theorem gX5_change_X5_isYear : GoodIn wsX5_change (va_wsS RX5 108 yX5_isYear wsX5_isYear) := goodIn_app (goodIn_of _ (by decide +kernel)) ggX5_change_X5_isYear
set_option maxRecDepth 20000 in
theorem ggX5_change_X5_isChanged : GoodIn wsX5_change wsX5_isChanged := goodIn_r _ [16, 1, 8, 17, 18, 19, 20, 21, 22, 23, 24, 25, 26, 27, 28, 29, 6, 30, 31, 32, 33, 34, 35, 36, 37, 38, 39, 40, 41, 42, 43, 44, 45, 46, 47, 48, 49, 50, 51, 52, 53, 54, 55, 56, 57, 58, 59, 60, 61, 62, 63] (by decide +kernel) (by decide +kernel)
set_option maxRecDepth 20000 in
theorem gX5_change_X5_isChanged : GoodIn wsX5_change (wsV RX5 135 RX5 yX5_isChanged wsX5_isChanged) := goodIn_app (goodIn_of _ (by decide +kernel)) ggX5_change_X5_isChanged
theorem dX5_change_0 : decode cX5_change 0 = .ok (.aload_n 0, 1) := by decide +kernel
theorem dX5_change_1 : decode cX5_change 1 = .ok (.iload_n 3, 1) := by decide +kernel
theorem dX5_change_2 : decode cX5_change 2 = .ok (.invokevirtual 113, 3) := by decide +kernel
theorem dX5_change_5 : decode cX5_change 5 = .ok (.ifCond .eq 12, 3) := by decide +kernel
theorem dX5_change_8 : decode cX5_change 8 = .ok (.aload_n 0, 1) := by decide +kernel
theorem dX5_change_9 : decode cX5_change 9 = .ok (.iload 4, 2) := by decide +kernel
theorem dX5_change_11 : decode cX5_change 11 = .ok (.invokevirtual 113, 3) := by decide +kernel
theorem dX5_change_14 : decode cX5_change 14 = .ok (.ifCond .ne 5, 3) := by decide +kernel
theorem dX5_change_17 : decode cX5_change 17 = .ok (.iconst (-1), 1) := by decide +kernel
theorem dX5_change_18 : decode cX5_change 18 = .ok (.ireturn, 1) := by decide +kernel
theorem dX5_change_19 : decode cX5_change 19 = .ok (.iload_n 2, 1) := by decide +kernel
theorem dX5_change_20 : decode cX5_change 20 = .ok (.invokestatic 108, 3) := by decide +kernel
theorem dX5_change_23 : decode cX5_change 23 = .ok (.ifCond .ne 6, 3) := by decide +kernel
theorem dX5_change_26 : decode cX5_change 26 = .ok (.bipush (-2), 2) := by decide +kernel
theorem dX5_change_28 : decode cX5_change 28 = .ok (.ireturn, 1) := by decide +kernel
theorem dX5_change_29 : decode cX5_change 29 = .ok (.iconst 0, 1) := by decide +kernel
theorem dX5_change_30 : decode cX5_change 30 = .ok (.istore 5, 2) := by decide +kernel
theorem dX5_change_32 : decode cX5_change 32 = .ok (.iconst 0, 1) := by decide +kernel
theorem dX5_change_33 : decode cX5_change 33 = .ok (.istore 6, 2) := by decide +kernel
theorem dX5_change_35 : decode cX5_change 35 = .ok (.iload 6, 2) := by decide +kernel
theorem dX5_change_37 : decode cX5_change 37 = .ok (.aload_n 0, 1) := by decide +kernel
theorem dX5_change_38 : decode cX5_change 38 = .ok (.getfield 19, 3) := by decide +kernel
theorem dX5_change_41 : decode cX5_change 41 = .ok (.getfield 132, 3) := by decide +kernel
theorem dX5_change_44 : decode cX5_change 44 = .ok (.if_icmp .ge 34, 3) := by decide +kernel
theorem dX5_change_47 : decode cX5_change 47 = .ok (.aload_n 0, 1) := by decide +kernel
theorem dX5_change_48 : decode cX5_change 48 = .ok (.iload 6, 2) := by decide +kernel
theorem dX5_change_50 : decode cX5_change 50 = .ok (.iload_n 2, 1) := by decide +kernel
theorem dX5_change_51 : decode cX5_change 51 = .ok (.iload_n 3, 1) := by decide +kernel
theorem dX5_change_52 : decode cX5_change 52 = .ok (.iload 4, 2) := by decide +kernel
theorem dX5_change_54 : decode cX5_change 54 = .ok (.invokevirtual 135, 3) := by decide +kernel
theorem dX5_change_57 : decode cX5_change 57 = .ok (.ifCond .eq 15, 3) := by decide +kernel
theorem dX5_change_60 : decode cX5_change 60 = .ok (.iload 5, 2) := by decide +kernel
theorem dX5_change_62 : decode cX5_change 62 = .ok (.iload_n 1, 1) := by decide +kernel
theorem dX5_change_63 : decode cX5_change 63 = .ok (.if_icmp .ne 6, 3) := by decide +kernel
theorem dX5_change_66 : decode cX5_change 66 = .ok (.iload 6, 2) := by decide +kernel
theorem dX5_change_68 : decode cX5_change 68 = .ok (.ireturn, 1) := by decide +kernel
theorem dX5_change_69 : decode cX5_change 69 = .ok (.iinc 5 1, 3) := by decide +kernel
theorem dX5_change_72 : decode cX5_change 72 = .ok (.iinc 6 1, 3) := by decide +kernel
theorem dX5_change_75 : decode cX5_change 75 = .ok (.goto (-40), 3) := by decide +kernel
theorem dX5_change_78 : decode cX5_change 78 = .ok (.bipush (-9), 2) := by decide +kernel
theorem dX5_change_80 : decode cX5_change 80 = .ok (.ireturn, 1) := by decide +kernel
set_option maxRecDepth 20000 in
theorem ggX5_total_X5_isYear : GoodIn wsX5_total wsX5_isYear := goodIn_r _ [9] (by decide +kernel) (by decide +kernel)
set_option maxRecDepth 20000 in
theorem gX5_total_X5_isYear : GoodIn wsX5_total (va_wsS RX5 108 yX5_isYear wsX5_isYear) := goodIn_app (goodIn_of _ (by decide +kernel)) ggX5_total_X5_isYear
set_option maxRecDepth 20000 in
theorem ggX5_total_X5_isAsOf : GoodIn wsX5_total wsX5_isAsOf := goodIn_r _ [13, 14, 15, 134, 135, 136, 137, 138, 139, 140, 141, 142, 143] (by decide +kernel) (by decide +kernel)
set_option maxRecDepth 20000 in
theorem gX5_total_X5_isAsOf : GoodIn wsX5_total (wsV RX5 113 RX5 yX5_isAsOf wsX5_isAsOf) := goodIn_app (goodIn_of _ (by decide +kernel)) ggX5_total_X5_isAsOf
set_option maxRecDepth 20000 in
theorem ggX5_total_X4_init : GoodIn wsX5_total wsX4_init := goodIn_r _ [18, 19, 20, 21, 22, 23, 24, 25, 130, 131, 132, 133] (by decide +kernel) (by decide +kernel)
set_option maxRecDepth 20000 in
theorem gX5_total_X4_init : GoodIn wsX5_total (wsX4_init) := ggX5_total_X4_init
set_option maxRecDepth 20000 in
theorem ggX5_total_X5_totalOf : GoodIn wsX5_total wsX5_totalOf := goodIn_r _ [29, 30, 31, 32, 33, 34, 35, 36, 37, 38, 39, 40, 41, 42, 43, 44, 45, 46, 47, 48, 49, 50, 51, 52, 53, 54, 55, 56, 57, 58, 59, 60, 61, 62, 63, 64, 65, 66, 67, 68, 69, 70, 71, 72, 73, 74, 75, 76, 77, 78, 79, 80, 81, 82, 83, 84, 85, 86, 87, 88, 89, 90, 91, 92, 93, 8, 94, 95, 96, 97, 98, 99, 14, 100, 101, 102, 103, 104, 105, 106, 107, 108, 109, 110, 111, 112, 113, 114, 115, 116, 117, 118, 119, 120, 121, 122, 123, 124, 125, 126, 127, 128, 129, 134, 135, 136, 137, 138, 144, 145, 146, 147, 148, 149, 150, 130, 131, 132, 133, 151, 152, 153, 154, 155, 156, 157, 158, 159, 160, 161, 139, 140, 141, 142, 143] (by decide +kernel) (by decide +kernel)
set_option maxRecDepth 20000 in
theorem gX5_total_X5_totalOf : GoodIn wsX5_total (wsV RX5 139 RX5 yX5_totalOf wsX5_totalOf) := goodIn_app (goodIn_of _ (by decide +kernel)) ggX5_total_X5_totalOf
theorem dX5_total_0 : decode cX5_total 0 = .ok (.iload_n 1, 1) := by decide +kernel
theorem dX5_total_1 : decode cX5_total 1 = .ok (.invokestatic 108, 3) := by decide +kernel
theorem dX5_total_4 : decode cX5_total 4 = .ok (.ifCond .ne 7, 3) := by decide +kernel
theorem dX5_total_7 : decode cX5_total 7 = .ok (.ldc2_w 69, 3) := by decide +kernel
theorem dX5_total_10 : decode cX5_total 10 = .ok (.lreturn, 1) := by decide +kernel
theorem dX5_total_11 : decode cX5_total 11 = .ok (.aload_n 0, 1) := by decide +kernel
theorem dX5_total_12 : decode cX5_total 12 = .ok (.iload_n 2, 1) := by decide +kernel
theorem dX5_total_13 : decode cX5_total 13 = .ok (.invokevirtual 113, 3) := by decide +kernel
theorem dX5_total_16 : decode cX5_total 16 = .ok (.ifCond .ne 7, 3) := by decide +kernel
theorem dX5_total_19 : decode cX5_total 19 = .ok (.ldc2_w 63, 3) := by decide +kernel
theorem dX5_total_22 : decode cX5_total 22 = .ok (.lreturn, 1) := by decide +kernel
theorem dX5_total_23 : decode cX5_total 23 = .ok (.aload_n 0, 1) := by decide +kernel
theorem dX5_total_24 : decode cX5_total 24 = .ok (.bipush (-9), 2) := by decide +kernel
theorem dX5_total_26 : decode cX5_total 26 = .ok (.iload_n 1, 1) := by decide +kernel
theorem dX5_total_27 : decode cX5_total 27 = .ok (.bipush (-9), 2) := by decide +kernel
theorem dX5_total_29 : decode cX5_total 29 = .ok (.new 123, 3) := by decide +kernel
theorem dX5_total_32 : decode cX5_total 32 = .ok (.dup, 1) := by decide +kernel
theorem dX5_total_33 : decode cX5_total 33 = .ok (.iload_n 2, 1) := by decide +kernel
theorem dX5_total_34 : decode cX5_total 34 = .ok (.iload_n 3, 1) := by decide +kernel
theorem dX5_total_35 : decode cX5_total 35 = .ok (.iload 4, 2) := by decide +kernel
theorem dX5_total_37 : decode cX5_total 37 = .ok (.iload 5, 2) := by decide +kernel
theorem dX5_total_39 : decode cX5_total 39 = .ok (.invokespecial 125, 3) := by decide +kernel
theorem dX5_total_42 : decode cX5_total 42 = .ok (.invokevirtual 139, 3) := by decide +kernel
theorem dX5_total_45 : decode cX5_total 45 = .ok (.lreturn, 1) := by decide +kernel
set_option maxRecDepth 20000 in
theorem ggX5_anew_X5_isYear : GoodIn wsX5_anew wsX5_isYear := goodIn_r _ [9] (by decide +kernel) (by decide +kernel)
set_option maxRecDepth 20000 in
theorem gX5_anew_X5_isYear : GoodIn wsX5_anew (va_wsS RX5 108 yX5_isYear wsX5_isYear) := goodIn_app (goodIn_of _ (by decide +kernel)) ggX5_anew_X5_isYear
set_option maxRecDepth 20000 in
theorem ggX5_anew_X5_isDay : GoodIn wsX5_anew wsX5_isDay := goodIn_r _ [12] (by decide +kernel) (by decide +kernel)
set_option maxRecDepth 20000 in
theorem gX5_anew_X5_isDay : GoodIn wsX5_anew (va_wsS RX5 48 yX5_isDay wsX5_isDay) := goodIn_app (goodIn_of _ (by decide +kernel)) ggX5_anew_X5_isDay
set_option maxRecDepth 20000 in
theorem ggX5_anew_X5_isAsOf : GoodIn wsX5_anew wsX5_isAsOf := goodIn_r _ [16, 17, 18, 137, 138, 139, 140, 141, 142, 143, 144, 145, 146] (by decide +kernel) (by decide +kernel)
set_option maxRecDepth 20000 in
theorem gX5_anew_X5_isAsOf : GoodIn wsX5_anew (wsV RX5 113 RX5 yX5_isAsOf wsX5_isAsOf) := goodIn_app (goodIn_of _ (by decide +kernel)) ggX5_anew_X5_isAsOf
set_option maxRecDepth 20000 in
theorem ggX5_anew_X4_init : GoodIn wsX5_anew wsX4_init := goodIn_r _ [21, 22, 23, 24, 25, 26, 27, 28, 133, 134, 135, 136] (by decide +kernel) (by decide +kernel)
set_option maxRecDepth 20000 in
theorem gX5_anew_X4_init : GoodIn wsX5_anew (wsX4_init) := ggX5_anew_X4_init
set_option maxRecDepth 20000 in
theorem ggX5_anew_X5_totalOf : GoodIn wsX5_anew wsX5_totalOf := goodIn_r _ [32, 33, 34, 35, 36, 37, 38, 39, 40, 41, 42, 43, 44, 45, 46, 47, 48, 49, 50, 51, 52, 53, 54, 55, 56, 57, 58, 59, 60, 61, 62, 63, 64, 65, 66, 67, 68, 69, 70, 71, 72, 73, 74, 75, 76, 77, 78, 79, 80, 81, 82, 83, 84, 85, 86, 87, 88, 89, 90, 91, 92, 93, 94, 95, 96, 8, 97, 98, 99, 100, 101, 102, 17, 103, 104, 105, 106, 107, 108, 109, 110, 111, 112, 113, 114, 115, 116, 117, 118, 119, 120, 121, 122, 123, 124, 125, 126, 127, 128, 129, 130, 131, 132, 137, 138, 139, 140, 141, 147, 148, 149, 150, 151, 152, 153, 133, 134, 135, 136, 154, 155, 156, 157, 158, 159, 160, 161, 162, 163, 164, 142, 143, 144, 145, 146] (by decide +kernel) (by decide +kernel)
set_option maxRecDepth 20000 in
theorem gX5_anew_X5_totalOf : GoodIn wsX5_anew (wsV RX5 139 RX5 yX5_totalOf wsX5_totalOf) := goodIn_app (goodIn_of _ (by decide +kernel)) ggX5_anew_X5_totalOf
theorem dX5_anew_0 : decode cX5_anew 0 = .ok (.iload_n 1, 1) := by decide +kernel
theorem dX5_anew_1 : decode cX5_anew 1 = .ok (.invokestatic 108, 3) := by decide +kernel
theorem dX5_anew_4 : decode cX5_anew 4 = .ok (.ifCond .eq 10, 3) := by decide +kernel
theorem dX5_anew_7 : decode cX5_anew 7 = .ok (.iload_n 2, 1) := by decide +kernel
theorem dX5_anew_8 : decode cX5_anew 8 = .ok (.invokestatic 48, 3) := by decide +kernel
theorem dX5_anew_11 : decode cX5_anew 11 = .ok (.ifCond .ne 7, 3) := by decide +kernel
theorem dX5_anew_14 : decode cX5_anew 14 = .ok (.ldc2_w 69, 3) := by decide +kernel
theorem dX5_anew_17 : decode cX5_anew 17 = .ok (.lreturn, 1) := by decide +kernel
theorem dX5_anew_18 : decode cX5_anew 18 = .ok (.aload_n 0, 1) := by decide +kernel
theorem dX5_anew_19 : decode cX5_anew 19 = .ok (.iload_n 3, 1) := by decide +kernel
theorem dX5_anew_20 : decode cX5_anew 20 = .ok (.invokevirtual 113, 3) := by decide +kernel
theorem dX5_anew_23 : decode cX5_anew 23 = .ok (.ifCond .ne 7, 3) := by decide +kernel
theorem dX5_anew_26 : decode cX5_anew 26 = .ok (.ldc2_w 63, 3) := by decide +kernel
theorem dX5_anew_29 : decode cX5_anew 29 = .ok (.lreturn, 1) := by decide +kernel
theorem dX5_anew_30 : decode cX5_anew 30 = .ok (.aload_n 0, 1) := by decide +kernel
theorem dX5_anew_31 : decode cX5_anew 31 = .ok (.bipush (-9), 2) := by decide +kernel
theorem dX5_anew_33 : decode cX5_anew 33 = .ok (.iload_n 1, 1) := by decide +kernel
theorem dX5_anew_34 : decode cX5_anew 34 = .ok (.iload_n 2, 1) := by decide +kernel
theorem dX5_anew_35 : decode cX5_anew 35 = .ok (.new 123, 3) := by decide +kernel
theorem dX5_anew_38 : decode cX5_anew 38 = .ok (.dup, 1) := by decide +kernel
theorem dX5_anew_39 : decode cX5_anew 39 = .ok (.iload_n 3, 1) := by decide +kernel
theorem dX5_anew_40 : decode cX5_anew 40 = .ok (.iload 4, 2) := by decide +kernel
theorem dX5_anew_42 : decode cX5_anew 42 = .ok (.iload 5, 2) := by decide +kernel
theorem dX5_anew_44 : decode cX5_anew 44 = .ok (.iload 6, 2) := by decide +kernel
theorem dX5_anew_46 : decode cX5_anew 46 = .ok (.invokespecial 125, 3) := by decide +kernel
theorem dX5_anew_49 : decode cX5_anew 49 = .ok (.invokevirtual 139, 3) := by decide +kernel
theorem dX5_anew_52 : decode cX5_anew 52 = .ok (.lreturn, 1) := by decide +kernel
set_option maxRecDepth 20000 in
theorem ggX5_part_X5_isUnit : GoodIn wsX5_part wsX5_isUnit := goodIn_r _ [10, 11, 139, 140, 141, 142, 143] (by decide +kernel) (by decide +kernel)
set_option maxRecDepth 20000 in
theorem gX5_part_X5_isUnit : GoodIn wsX5_part (wsV RX5 41 RX5 yX5_isUnit wsX5_isUnit) := goodIn_app (goodIn_of _ (by decide +kernel)) ggX5_part_X5_isUnit
set_option maxRecDepth 20000 in
theorem ggX5_part_X5_isYear : GoodIn wsX5_part wsX5_isYear := goodIn_r _ [14] (by decide +kernel) (by decide +kernel)
set_option maxRecDepth 20000 in
theorem gX5_part_X5_isYear : GoodIn wsX5_part (va_wsS RX5 108 yX5_isYear wsX5_isYear) := goodIn_app (goodIn_of _ (by decide +kernel)) ggX5_part_X5_isYear
set_option maxRecDepth 20000 in
theorem ggX5_part_X5_isAsOf : GoodIn wsX5_part wsX5_isAsOf := goodIn_r _ [18, 19, 20, 139, 140, 141, 142, 143, 144, 145, 146, 147, 148] (by decide +kernel) (by decide +kernel)
set_option maxRecDepth 20000 in
theorem gX5_part_X5_isAsOf : GoodIn wsX5_part (wsV RX5 113 RX5 yX5_isAsOf wsX5_isAsOf) := goodIn_app (goodIn_of _ (by decide +kernel)) ggX5_part_X5_isAsOf
set_option maxRecDepth 20000 in
theorem ggX5_part_X4_init : GoodIn wsX5_part wsX4_init := goodIn_r _ [23, 24, 25, 26, 27, 28, 29, 30, 135, 136, 137, 138] (by decide +kernel) (by decide +kernel)
set_option maxRecDepth 20000 in
theorem gX5_part_X4_init : GoodIn wsX5_part (wsX4_init) := ggX5_part_X4_init
set_option maxRecDepth 20000 in
theorem ggX5_part_X5_totalOf : GoodIn wsX5_part wsX5_totalOf := goodIn_r _ [34, 35, 36, 37, 38, 39, 40, 41, 42, 43, 44, 45, 46, 47, 48, 49, 50, 51, 52, 53, 54, 55, 56, 57, 58, 59, 60, 61, 62, 63, 64, 65, 66, 67, 68, 69, 70, 71, 72, 73, 74, 75, 76, 77, 78, 79, 80, 81, 82, 83, 84, 85, 86, 87, 88, 89, 90, 91, 92, 93, 94, 95, 96, 97, 98, 9, 99, 100, 101, 102, 103, 104, 19, 105, 106, 107, 108, 109, 110, 111, 112, 113, 114, 115, 116, 117, 118, 119, 120, 121, 122, 123, 124, 125, 126, 127, 128, 129, 130, 131, 132, 133, 134, 139, 140, 141, 142, 143, 149, 150, 151, 152, 153, 154, 155, 135, 136, 137, 138, 156, 157, 158, 159, 160, 161, 162, 163, 164, 165, 166, 144, 145, 146, 147, 148] (by decide +kernel) (by decide +kernel)
set_option maxRecDepth 20000 in
theorem gX5_part_X5_totalOf : GoodIn wsX5_part (wsV RX5 139 RX5 yX5_totalOf wsX5_totalOf) := goodIn_app (goodIn_of _ (by decide +kernel)) ggX5_part_X5_totalOf
theorem dX5_part_0 : decode cX5_part 0 = .ok (.aload_n 0, 1) := by decide +kernel
theorem dX5_part_1 : decode cX5_part 1 = .ok (.iload_n 1, 1) := by decide +kernel
theorem dX5_part_2 : decode cX5_part 2 = .ok (.invokevirtual 41, 3) := by decide +kernel
theorem dX5_part_5 : decode cX5_part 5 = .ok (.ifCond .ne 7, 3) := by decide +kernel
theorem dX5_part_8 : decode cX5_part 8 = .ok (.ldc2_w 63, 3) := by decide +kernel
theorem dX5_part_11 : decode cX5_part 11 = .ok (.lreturn, 1) := by decide +kernel
theorem dX5_part_12 : decode cX5_part 12 = .ok (.iload_n 2, 1) := by decide +kernel
theorem dX5_part_13 : decode cX5_part 13 = .ok (.invokestatic 108, 3) := by decide +kernel
theorem dX5_part_16 : decode cX5_part 16 = .ok (.ifCond .ne 7, 3) := by decide +kernel
theorem dX5_part_19 : decode cX5_part 19 = .ok (.ldc2_w 69, 3) := by decide +kernel
theorem dX5_part_22 : decode cX5_part 22 = .ok (.lreturn, 1) := by decide +kernel
theorem dX5_part_23 : decode cX5_part 23 = .ok (.aload_n 0, 1) := by decide +kernel
theorem dX5_part_24 : decode cX5_part 24 = .ok (.iload_n 3, 1) := by decide +kernel
theorem dX5_part_25 : decode cX5_part 25 = .ok (.invokevirtual 113, 3) := by decide +kernel
theorem dX5_part_28 : decode cX5_part 28 = .ok (.ifCond .ne 7, 3) := by decide +kernel
theorem dX5_part_31 : decode cX5_part 31 = .ok (.ldc2_w 63, 3) := by decide +kernel
theorem dX5_part_34 : decode cX5_part 34 = .ok (.lreturn, 1) := by decide +kernel
theorem dX5_part_35 : decode cX5_part 35 = .ok (.aload_n 0, 1) := by decide +kernel
theorem dX5_part_36 : decode cX5_part 36 = .ok (.iload_n 1, 1) := by decide +kernel
theorem dX5_part_37 : decode cX5_part 37 = .ok (.iload_n 2, 1) := by decide +kernel
theorem dX5_part_38 : decode cX5_part 38 = .ok (.bipush (-9), 2) := by decide +kernel
theorem dX5_part_40 : decode cX5_part 40 = .ok (.new 123, 3) := by decide +kernel
theorem dX5_part_43 : decode cX5_part 43 = .ok (.dup, 1) := by decide +kernel
theorem dX5_part_44 : decode cX5_part 44 = .ok (.iload_n 3, 1) := by decide +kernel
theorem dX5_part_45 : decode cX5_part 45 = .ok (.iload 4, 2) := by decide +kernel
theorem dX5_part_47 : decode cX5_part 47 = .ok (.iload 5, 2) := by decide +kernel
theorem dX5_part_49 : decode cX5_part 49 = .ok (.iload 6, 2) := by decide +kernel
theorem dX5_part_51 : decode cX5_part 51 = .ok (.invokespecial 125, 3) := by decide +kernel
theorem dX5_part_54 : decode cX5_part 54 = .ok (.invokevirtual 139, 3) := by decide +kernel
theorem dX5_part_57 : decode cX5_part 57 = .ok (.lreturn, 1) := by decide +kernel
set_option maxRecDepth 20000 in
theorem ggX5_doubles_X5_isYear : GoodIn wsX5_doubles wsX5_isYear := goodIn_r _ [7] (by decide +kernel) (by decide +kernel)
set_option maxRecDepth 20000 in
theorem gX5_doubles_X5_isYear : GoodIn wsX5_doubles (va_wsS RX5 108 yX5_isYear wsX5_isYear) := goodIn_app (goodIn_of _ (by decide +kernel)) ggX5_doubles_X5_isYear
set_option maxRecDepth 20000 in
theorem ggX5_doubles_X2_isOfYear : GoodIn wsX5_doubles wsX2_isOfYear := goodIn_r _ [12, 13, 14, 15, 11, 16, 17, 74, 75, 76, 77, 78, 79, 80] (by decide +kernel) (by decide +kernel)
set_option maxRecDepth 20000 in
theorem gX5_doubles_X2_isOfYear : GoodIn wsX5_doubles (wsV RX5 143 RX2 yX2_isOfYear wsX2_isOfYear) := goodIn_app (goodIn_of _ (by decide +kernel)) ggX5_doubles_X2_isOfYear
set_option maxRecDepth 20000 in
theorem ggX5_doubles_X5_isDouble : GoodIn wsX5_doubles wsX5_isDouble := goodIn_r _ [21, 1, 22, 23, 24, 25, 26, 27, 28, 29, 30, 31, 32, 33, 34, 35, 36, 37, 38, 39, 40, 41, 42, 43, 44, 45, 46, 47, 48, 49, 50, 51, 52, 53, 54, 55, 56, 57, 58, 59, 60, 61, 62, 63, 64, 65, 66, 67, 68, 69, 70, 71, 72, 73, 74, 75, 76, 77, 78, 79, 80, 81, 82, 83, 84, 85, 86, 87, 88, 89, 90, 91] (by decide +kernel) (by decide +kernel)
set_option maxRecDepth 20000 in
theorem gX5_doubles_X5_isDouble : GoodIn wsX5_doubles (wsV RX5 102 RX5 yX5_isDouble wsX5_isDouble) := goodIn_app (goodIn_of _ (by decide +kernel)) ggX5_doubles_X5_isDouble
theorem dX5_doubles_0 : decode cX5_doubles 0 = .ok (.iload_n 1, 1) := by decide +kernel
theorem dX5_doubles_1 : decode cX5_doubles 1 = .ok (.invokestatic 108, 3) := by decide +kernel
theorem dX5_doubles_4 : decode cX5_doubles 4 = .ok (.ifCond .ne 6, 3) := by decide +kernel
theorem dX5_doubles_7 : decode cX5_doubles 7 = .ok (.bipush (-2), 2) := by decide +kernel
theorem dX5_doubles_9 : decode cX5_doubles 9 = .ok (.ireturn, 1) := by decide +kernel
theorem dX5_doubles_10 : decode cX5_doubles 10 = .ok (.iconst 0, 1) := by decide +kernel
theorem dX5_doubles_11 : decode cX5_doubles 11 = .ok (.istore_n 2, 1) := by decide +kernel
theorem dX5_doubles_12 : decode cX5_doubles 12 = .ok (.iconst 0, 1) := by decide +kernel
theorem dX5_doubles_13 : decode cX5_doubles 13 = .ok (.istore_n 3, 1) := by decide +kernel
theorem dX5_doubles_14 : decode cX5_doubles 14 = .ok (.iload_n 3, 1) := by decide +kernel
theorem dX5_doubles_15 : decode cX5_doubles 15 = .ok (.aload_n 0, 1) := by decide +kernel
theorem dX5_doubles_16 : decode cX5_doubles 16 = .ok (.getfield 19, 3) := by decide +kernel
theorem dX5_doubles_19 : decode cX5_doubles 19 = .ok (.getfield 132, 3) := by decide +kernel
theorem dX5_doubles_22 : decode cX5_doubles 22 = .ok (.if_icmp .ge 41, 3) := by decide +kernel
theorem dX5_doubles_25 : decode cX5_doubles 25 = .ok (.aload_n 0, 1) := by decide +kernel
theorem dX5_doubles_26 : decode cX5_doubles 26 = .ok (.getfield 19, 3) := by decide +kernel
theorem dX5_doubles_29 : decode cX5_doubles 29 = .ok (.iload_n 3, 1) := by decide +kernel
theorem dX5_doubles_30 : decode cX5_doubles 30 = .ok (.iload_n 1, 1) := by decide +kernel
theorem dX5_doubles_31 : decode cX5_doubles 31 = .ok (.invokevirtual 143, 3) := by decide +kernel
theorem dX5_doubles_34 : decode cX5_doubles 34 = .ok (.ifCond .eq 23, 3) := by decide +kernel
theorem dX5_doubles_37 : decode cX5_doubles 37 = .ok (.aload_n 0, 1) := by decide +kernel
theorem dX5_doubles_38 : decode cX5_doubles 38 = .ok (.iload_n 3, 1) := by decide +kernel
theorem dX5_doubles_39 : decode cX5_doubles 39 = .ok (.aload_n 0, 1) := by decide +kernel
theorem dX5_doubles_40 : decode cX5_doubles 40 = .ok (.getfield 19, 3) := by decide +kernel
theorem dX5_doubles_43 : decode cX5_doubles 43 = .ok (.getfield 96, 3) := by decide +kernel
theorem dX5_doubles_46 : decode cX5_doubles 46 = .ok (.iload_n 3, 1) := by decide +kernel
theorem dX5_doubles_47 : decode cX5_doubles 47 = .ok (.iaload, 1) := by decide +kernel
theorem dX5_doubles_48 : decode cX5_doubles 48 = .ok (.invokevirtual 102, 3) := by decide +kernel
theorem dX5_doubles_51 : decode cX5_doubles 51 = .ok (.ifCond .eq 6, 3) := by decide +kernel
theorem dX5_doubles_54 : decode cX5_doubles 54 = .ok (.iinc 2 1, 3) := by decide +kernel
theorem dX5_doubles_57 : decode cX5_doubles 57 = .ok (.iinc 3 1, 3) := by decide +kernel
theorem dX5_doubles_60 : decode cX5_doubles 60 = .ok (.goto (-46), 3) := by decide +kernel
theorem dX5_doubles_63 : decode cX5_doubles 63 = .ok (.iload_n 2, 1) := by decide +kernel
theorem dX5_doubles_64 : decode cX5_doubles 64 = .ok (.ireturn, 1) := by decide +kernel
set_option maxRecDepth 20000 in
theorem ggX5_onPath_X5_isYear : GoodIn wsX5_onPath wsX5_isYear := goodIn_r _ [9] (by decide +kernel) (by decide +kernel)
set_option maxRecDepth 20000 in
theorem gX5_onPath_X5_isYear : GoodIn wsX5_onPath (va_wsS RX5 108 yX5_isYear wsX5_isYear) := goodIn_app (goodIn_of _ (by decide +kernel)) ggX5_onPath_X5_isYear
set_option maxRecDepth 20000 in
theorem ggX5_onPath_X5_isHundredths : GoodIn wsX5_onPath wsX5_isHundredths := goodIn_r _ [12] (by decide +kernel) (by decide +kernel)
set_option maxRecDepth 20000 in
theorem gX5_onPath_X5_isHundredths : GoodIn wsX5_onPath (va_wsS RX5 45 yX5_isHundredths wsX5_isHundredths) := goodIn_app (goodIn_of _ (by decide +kernel)) ggX5_onPath_X5_isHundredths
set_option maxRecDepth 20000 in
theorem ggX5_onPath_X4_init : GoodIn wsX5_onPath wsX4_init := goodIn_r _ [15, 16, 17, 18, 19, 20, 21, 22, 130, 131, 132, 133] (by decide +kernel) (by decide +kernel)
set_option maxRecDepth 20000 in
theorem gX5_onPath_X4_init : GoodIn wsX5_onPath (wsX4_init) := ggX5_onPath_X4_init
set_option maxRecDepth 20000 in
theorem ggX5_onPath_X5_totalOf : GoodIn wsX5_onPath wsX5_totalOf := goodIn_r _ [26, 27, 28, 29, 30, 31, 32, 4, 33, 34, 35, 36, 37, 38, 39, 40, 41, 42, 43, 44, 45, 46, 47, 48, 49, 50, 51, 52, 53, 54, 55, 56, 57, 58, 59, 60, 61, 62, 63, 64, 65, 66, 67, 68, 69, 70, 71, 72, 73, 74, 75, 76, 77, 78, 79, 80, 81, 82, 83, 84, 85, 86, 87, 88, 89, 8, 90, 91, 92, 93, 94, 95, 96, 97, 98, 99, 100, 101, 102, 103, 104, 105, 106, 107, 108, 109, 110, 111, 112, 113, 114, 115, 116, 117, 118, 119, 120, 121, 122, 123, 124, 125, 126, 134, 135, 136, 137, 138, 139, 140, 141, 142, 143, 144, 145, 130, 131, 132, 133, 146, 147, 148, 149, 150, 151, 152, 153, 154, 155, 156, 157, 158, 159, 160, 161] (by decide +kernel) (by decide +kernel)
set_option maxRecDepth 20000 in
theorem gX5_onPath_X5_totalOf : GoodIn wsX5_onPath (wsV RX5 139 RX5 yX5_totalOf wsX5_totalOf) := goodIn_app (goodIn_of _ (by decide +kernel)) ggX5_onPath_X5_totalOf
set_option maxRecDepth 20000 in
theorem ggX5_onPath_X5_cutPart : GoodIn wsX5_onPath wsX5_cutPart := goodIn_r _ [129] (by decide +kernel) (by decide +kernel)
set_option maxRecDepth 20000 in
theorem gX5_onPath_X5_cutPart : GoodIn wsX5_onPath (va_wsS RX5 150 yX5_cutPart wsX5_cutPart) := goodIn_app (goodIn_of _ (by decide +kernel)) ggX5_onPath_X5_cutPart
theorem dX5_onPath_0 : decode cX5_onPath 0 = .ok (.iload_n 1, 1) := by decide +kernel
theorem dX5_onPath_1 : decode cX5_onPath 1 = .ok (.invokestatic 108, 3) := by decide +kernel
theorem dX5_onPath_4 : decode cX5_onPath 4 = .ok (.ifCond .eq 25, 3) := by decide +kernel
theorem dX5_onPath_7 : decode cX5_onPath 7 = .ok (.iload_n 2, 1) := by decide +kernel
theorem dX5_onPath_8 : decode cX5_onPath 8 = .ok (.invokestatic 108, 3) := by decide +kernel
theorem dX5_onPath_11 : decode cX5_onPath 11 = .ok (.ifCond .eq 18, 3) := by decide +kernel
theorem dX5_onPath_14 : decode cX5_onPath 14 = .ok (.iload_n 3, 1) := by decide +kernel
theorem dX5_onPath_15 : decode cX5_onPath 15 = .ok (.invokestatic 108, 3) := by decide +kernel
theorem dX5_onPath_18 : decode cX5_onPath 18 = .ok (.ifCond .eq 11, 3) := by decide +kernel
theorem dX5_onPath_21 : decode cX5_onPath 21 = .ok (.iload 4, 2) := by decide +kernel
theorem dX5_onPath_23 : decode cX5_onPath 23 = .ok (.invokestatic 45, 3) := by decide +kernel
theorem dX5_onPath_26 : decode cX5_onPath 26 = .ok (.ifCond .ne 6, 3) := by decide +kernel
theorem dX5_onPath_29 : decode cX5_onPath 29 = .ok (.bipush (-2), 2) := by decide +kernel
theorem dX5_onPath_31 : decode cX5_onPath 31 = .ok (.ireturn, 1) := by decide +kernel
theorem dX5_onPath_32 : decode cX5_onPath 32 = .ok (.iload_n 3, 1) := by decide +kernel
theorem dX5_onPath_33 : decode cX5_onPath 33 = .ok (.iload_n 2, 1) := by decide +kernel
theorem dX5_onPath_34 : decode cX5_onPath 34 = .ok (.if_icmp .le 13, 3) := by decide +kernel
theorem dX5_onPath_37 : decode cX5_onPath 37 = .ok (.iload_n 1, 1) := by decide +kernel
theorem dX5_onPath_38 : decode cX5_onPath 38 = .ok (.iload_n 2, 1) := by decide +kernel
theorem dX5_onPath_39 : decode cX5_onPath 39 = .ok (.if_icmp .lt 8, 3) := by decide +kernel
theorem dX5_onPath_42 : decode cX5_onPath 42 = .ok (.iload_n 1, 1) := by decide +kernel
theorem dX5_onPath_43 : decode cX5_onPath 43 = .ok (.iload_n 3, 1) := by decide +kernel
theorem dX5_onPath_44 : decode cX5_onPath 44 = .ok (.if_icmp .le 6, 3) := by decide +kernel
theorem dX5_onPath_47 : decode cX5_onPath 47 = .ok (.bipush (-2), 2) := by decide +kernel
theorem dX5_onPath_49 : decode cX5_onPath 49 = .ok (.ireturn, 1) := by decide +kernel
theorem dX5_onPath_50 : decode cX5_onPath 50 = .ok (.aload_n 0, 1) := by decide +kernel
theorem dX5_onPath_51 : decode cX5_onPath 51 = .ok (.bipush (-9), 2) := by decide +kernel
theorem dX5_onPath_53 : decode cX5_onPath 53 = .ok (.iload_n 1, 1) := by decide +kernel
theorem dX5_onPath_54 : decode cX5_onPath 54 = .ok (.bipush (-9), 2) := by decide +kernel
theorem dX5_onPath_56 : decode cX5_onPath 56 = .ok (.new 123, 3) := by decide +kernel
theorem dX5_onPath_59 : decode cX5_onPath 59 = .ok (.dup, 1) := by decide +kernel
theorem dX5_onPath_60 : decode cX5_onPath 60 = .ok (.bipush (-9), 2) := by decide +kernel
theorem dX5_onPath_62 : decode cX5_onPath 62 = .ok (.iconst 1, 1) := by decide +kernel
theorem dX5_onPath_63 : decode cX5_onPath 63 = .ok (.iconst 1, 1) := by decide +kernel
theorem dX5_onPath_64 : decode cX5_onPath 64 = .ok (.iconst 0, 1) := by decide +kernel
theorem dX5_onPath_65 : decode cX5_onPath 65 = .ok (.invokespecial 125, 3) := by decide +kernel
theorem dX5_onPath_68 : decode cX5_onPath 68 = .ok (.invokevirtual 139, 3) := by decide +kernel
theorem dX5_onPath_71 : decode cX5_onPath 71 = .ok (.lstore 5, 2) := by decide +kernel
theorem dX5_onPath_73 : decode cX5_onPath 73 = .ok (.aload_n 0, 1) := by decide +kernel
theorem dX5_onPath_74 : decode cX5_onPath 74 = .ok (.bipush (-9), 2) := by decide +kernel
theorem dX5_onPath_76 : decode cX5_onPath 76 = .ok (.iload_n 2, 1) := by decide +kernel
theorem dX5_onPath_77 : decode cX5_onPath 77 = .ok (.bipush (-9), 2) := by decide +kernel
theorem dX5_onPath_79 : decode cX5_onPath 79 = .ok (.new 123, 3) := by decide +kernel
theorem dX5_onPath_82 : decode cX5_onPath 82 = .ok (.dup, 1) := by decide +kernel
theorem dX5_onPath_83 : decode cX5_onPath 83 = .ok (.bipush (-9), 2) := by decide +kernel
theorem dX5_onPath_85 : decode cX5_onPath 85 = .ok (.iconst 1, 1) := by decide +kernel
theorem dX5_onPath_86 : decode cX5_onPath 86 = .ok (.iconst 1, 1) := by decide +kernel
theorem dX5_onPath_87 : decode cX5_onPath 87 = .ok (.iconst 1, 1) := by decide +kernel
theorem dX5_onPath_88 : decode cX5_onPath 88 = .ok (.invokespecial 125, 3) := by decide +kernel
theorem dX5_onPath_91 : decode cX5_onPath 91 = .ok (.invokevirtual 139, 3) := by decide +kernel
theorem dX5_onPath_94 : decode cX5_onPath 94 = .ok (.lstore 7, 2) := by decide +kernel
theorem dX5_onPath_96 : decode cX5_onPath 96 = .ok (.lload 5, 2) := by decide +kernel
theorem dX5_onPath_98 : decode cX5_onPath 98 = .ok (.ldc2_w 146, 3) := by decide +kernel
theorem dX5_onPath_101 : decode cX5_onPath 101 = .ok (.lcmp, 1) := by decide +kernel
theorem dX5_onPath_102 : decode cX5_onPath 102 = .ok (.ifCond .eq 12, 3) := by decide +kernel
theorem dX5_onPath_105 : decode cX5_onPath 105 = .ok (.lload 7, 2) := by decide +kernel
theorem dX5_onPath_107 : decode cX5_onPath 107 = .ok (.ldc2_w 146, 3) := by decide +kernel
theorem dX5_onPath_110 : decode cX5_onPath 110 = .ok (.lcmp, 1) := by decide +kernel
theorem dX5_onPath_111 : decode cX5_onPath 111 = .ok (.ifCond .ne 6, 3) := by decide +kernel
theorem dX5_onPath_114 : decode cX5_onPath 114 = .ok (.bipush (-9), 2) := by decide +kernel
theorem dX5_onPath_116 : decode cX5_onPath 116 = .ok (.ireturn, 1) := by decide +kernel
theorem dX5_onPath_117 : decode cX5_onPath 117 = .ok (.ldc2_w 148, 3) := by decide +kernel
theorem dX5_onPath_120 : decode cX5_onPath 120 = .ok (.iload_n 3, 1) := by decide +kernel
theorem dX5_onPath_121 : decode cX5_onPath 121 = .ok (.iload_n 2, 1) := by decide +kernel
theorem dX5_onPath_122 : decode cX5_onPath 122 = .ok (.isub, 1) := by decide +kernel
theorem dX5_onPath_123 : decode cX5_onPath 123 = .ok (.i2l, 1) := by decide +kernel
theorem dX5_onPath_124 : decode cX5_onPath 124 = .ok (.lmul, 1) := by decide +kernel
theorem dX5_onPath_125 : decode cX5_onPath 125 = .ok (.lstore 9, 2) := by decide +kernel
theorem dX5_onPath_127 : decode cX5_onPath 127 = .ok (.lload 9, 2) := by decide +kernel
theorem dX5_onPath_129 : decode cX5_onPath 129 = .ok (.iload 4, 2) := by decide +kernel
theorem dX5_onPath_131 : decode cX5_onPath 131 = .ok (.i2l, 1) := by decide +kernel
theorem dX5_onPath_132 : decode cX5_onPath 132 = .ok (.iload_n 1, 1) := by decide +kernel
theorem dX5_onPath_133 : decode cX5_onPath 133 = .ok (.iload_n 2, 1) := by decide +kernel
theorem dX5_onPath_134 : decode cX5_onPath 134 = .ok (.isub, 1) := by decide +kernel
theorem dX5_onPath_135 : decode cX5_onPath 135 = .ok (.i2l, 1) := by decide +kernel
theorem dX5_onPath_136 : decode cX5_onPath 136 = .ok (.lmul, 1) := by decide +kernel
theorem dX5_onPath_137 : decode cX5_onPath 137 = .ok (.lsub, 1) := by decide +kernel
theorem dX5_onPath_138 : decode cX5_onPath 138 = .ok (.lstore 11, 2) := by decide +kernel
theorem dX5_onPath_140 : decode cX5_onPath 140 = .ok (.lload 5, 2) := by decide +kernel
theorem dX5_onPath_142 : decode cX5_onPath 142 = .ok (.lload 7, 2) := by decide +kernel
theorem dX5_onPath_144 : decode cX5_onPath 144 = .ok (.lload 11, 2) := by decide +kernel
theorem dX5_onPath_146 : decode cX5_onPath 146 = .ok (.lload 9, 2) := by decide +kernel
theorem dX5_onPath_148 : decode cX5_onPath 148 = .ok (.invokestatic 150, 3) := by decide +kernel
theorem dX5_onPath_151 : decode cX5_onPath 151 = .ok (.lcmp, 1) := by decide +kernel
theorem dX5_onPath_152 : decode cX5_onPath 152 = .ok (.ifCond .gt 7, 3) := by decide +kernel
theorem dX5_onPath_155 : decode cX5_onPath 155 = .ok (.iconst 1, 1) := by decide +kernel
theorem dX5_onPath_156 : decode cX5_onPath 156 = .ok (.goto 4, 3) := by decide +kernel
theorem dX5_onPath_159 : decode cX5_onPath 159 = .ok (.iconst 0, 1) := by decide +kernel
theorem dX5_onPath_160 : decode cX5_onPath 160 = .ok (.ireturn, 1) := by decide +kernel
set_option maxRecDepth 20000 in
theorem ggX5_issue_X5_isUnit : GoodIn wsX5_issue wsX5_isUnit := goodIn_r _ [6, 7, 42, 43, 44, 45, 46] (by decide +kernel) (by decide +kernel)
set_option maxRecDepth 20000 in
theorem gX5_issue_X5_isUnit : GoodIn wsX5_issue (wsV RX5 41 RX5 yX5_isUnit wsX5_isUnit) := goodIn_app (goodIn_of _ (by decide +kernel)) ggX5_issue_X5_isUnit
set_option maxRecDepth 20000 in
theorem ggX5_issue_X3_add : GoodIn wsX5_issue wsX3_add := goodIn_r _ [12, 13, 14, 15, 16, 17, 18, 19, 11, 20, 21, 22, 23, 24, 25, 26, 27, 28, 29, 30, 31, 32, 33, 34, 35, 36, 37, 38, 39, 40, 41, 47, 48, 49, 50, 51] (by decide +kernel) (by decide +kernel)
set_option maxRecDepth 20000 in
theorem gX5_issue_X3_add : GoodIn wsX5_issue (wsV RX5 154 RX3 yX3_add wsX3_add) := goodIn_app (goodIn_of _ (by decide +kernel)) ggX5_issue_X3_add
theorem dX5_issue_0 : decode cX5_issue 0 = .ok (.aload_n 0, 1) := by decide +kernel
theorem dX5_issue_1 : decode cX5_issue 1 = .ok (.iload_n 1, 1) := by decide +kernel
theorem dX5_issue_2 : decode cX5_issue 2 = .ok (.invokevirtual 41, 3) := by decide +kernel
theorem dX5_issue_5 : decode cX5_issue 5 = .ok (.ifCond .ne 5, 3) := by decide +kernel
theorem dX5_issue_8 : decode cX5_issue 8 = .ok (.iconst (-1), 1) := by decide +kernel
theorem dX5_issue_9 : decode cX5_issue 9 = .ok (.ireturn, 1) := by decide +kernel
theorem dX5_issue_10 : decode cX5_issue 10 = .ok (.iload_n 2, 1) := by decide +kernel
theorem dX5_issue_11 : decode cX5_issue 11 = .ok (.iconst 1, 1) := by decide +kernel
theorem dX5_issue_12 : decode cX5_issue 12 = .ok (.if_icmp .lt 10, 3) := by decide +kernel
theorem dX5_issue_15 : decode cX5_issue 15 = .ok (.iload_n 2, 1) := by decide +kernel
theorem dX5_issue_16 : decode cX5_issue 16 = .ok (.sipush 20000, 3) := by decide +kernel
theorem dX5_issue_19 : decode cX5_issue 19 = .ok (.if_icmp .le 6, 3) := by decide +kernel
theorem dX5_issue_22 : decode cX5_issue 22 = .ok (.bipush (-2), 2) := by decide +kernel
theorem dX5_issue_24 : decode cX5_issue 24 = .ok (.ireturn, 1) := by decide +kernel
theorem dX5_issue_25 : decode cX5_issue 25 = .ok (.aload_n 0, 1) := by decide +kernel
theorem dX5_issue_26 : decode cX5_issue 26 = .ok (.getfield 33, 3) := by decide +kernel
theorem dX5_issue_29 : decode cX5_issue 29 = .ok (.iload_n 1, 1) := by decide +kernel
theorem dX5_issue_30 : decode cX5_issue 30 = .ok (.iload_n 2, 1) := by decide +kernel
theorem dX5_issue_31 : decode cX5_issue 31 = .ok (.invokevirtual 154, 3) := by decide +kernel
theorem dX5_issue_34 : decode cX5_issue 34 = .ok (.ireturn, 1) := by decide +kernel
set_option maxRecDepth 20000 in
theorem ggX5_move_X5_isUnit : GoodIn wsX5_move wsX5_isUnit := goodIn_r _ [6, 7, 78, 79, 80, 81, 82] (by decide +kernel) (by decide +kernel)
set_option maxRecDepth 20000 in
theorem gX5_move_X5_isUnit : GoodIn wsX5_move (wsV RX5 41 RX5 yX5_isUnit wsX5_isUnit) := goodIn_app (goodIn_of _ (by decide +kernel)) ggX5_move_X5_isUnit
set_option maxRecDepth 20000 in
theorem ggX5_move_X3_areIssued : GoodIn wsX5_move wsX3_areIssued := goodIn_r _ [12, 13, 83, 84, 85, 86, 87] (by decide +kernel) (by decide +kernel)
set_option maxRecDepth 20000 in
theorem gX5_move_X3_areIssued : GoodIn wsX5_move (wsV RX5 157 RX3 yX3_areIssued wsX3_areIssued) := goodIn_app (goodIn_of _ (by decide +kernel)) ggX5_move_X3_areIssued
set_option maxRecDepth 20000 in
theorem ggX5_move_X3_usedAmong : GoodIn wsX5_move wsX3_usedAmong := goodIn_r _ [17, 18, 19, 20, 21, 22, 11, 23, 24, 25, 26, 27, 28, 29, 30, 31, 32, 33, 34, 35, 13, 83, 84, 85, 86, 87] (by decide +kernel) (by decide +kernel)
set_option maxRecDepth 20000 in
theorem gX5_move_X3_usedAmong : GoodIn wsX5_move (wsV RX5 160 RX3 yX3_usedAmong wsX3_usedAmong) := goodIn_app (goodIn_of _ (by decide +kernel)) ggX5_move_X3_usedAmong
set_option maxRecDepth 20000 in
theorem ggX5_move_X3_ownedAmong : GoodIn wsX5_move wsX3_ownedAmong := goodIn_r _ [39, 18, 40, 20, 21, 22, 11, 23, 24, 25, 26, 27, 28, 29, 30, 31, 32, 33, 34, 35, 13, 83, 84, 85, 86, 87] (by decide +kernel) (by decide +kernel)
set_option maxRecDepth 20000 in
theorem gX5_move_X3_ownedAmong : GoodIn wsX5_move (wsV RX5 163 RX3 yX3_ownedAmong wsX3_ownedAmong) := goodIn_app (goodIn_of _ (by decide +kernel)) ggX5_move_X3_ownedAmong
set_option maxRecDepth 20000 in
theorem ggX5_move_X3_mark : GoodIn wsX5_move wsX3_mark := goodIn_r _ [44, 40, 19, 45, 46, 47, 11, 48, 13, 18, 28, 49, 50, 51, 52, 53, 54, 55, 56, 57, 58, 59, 60, 61, 62, 63, 64, 65, 66, 67, 68, 69, 70, 71, 72, 25, 26, 27, 73, 74, 75, 76, 77, 83, 84, 85, 86, 87] (by decide +kernel) (by decide +kernel)
set_option maxRecDepth 20000 in
theorem gX5_move_X3_mark : GoodIn wsX5_move (wsV RX5 166 RX3 yX3_mark wsX3_mark) := goodIn_app (goodIn_of _ (by decide +kernel)) ggX5_move_X3_mark
theorem dX5_move_0 : decode cX5_move 0 = .ok (.aload_n 0, 1) := by decide +kernel
theorem dX5_move_1 : decode cX5_move 1 = .ok (.iload_n 3, 1) := by decide +kernel
theorem dX5_move_2 : decode cX5_move 2 = .ok (.invokevirtual 41, 3) := by decide +kernel
theorem dX5_move_5 : decode cX5_move 5 = .ok (.ifCond .ne 5, 3) := by decide +kernel
theorem dX5_move_8 : decode cX5_move 8 = .ok (.iconst (-1), 1) := by decide +kernel
theorem dX5_move_9 : decode cX5_move 9 = .ok (.ireturn, 1) := by decide +kernel
theorem dX5_move_10 : decode cX5_move 10 = .ok (.iload_n 2, 1) := by decide +kernel
theorem dX5_move_11 : decode cX5_move 11 = .ok (.iconst 1, 1) := by decide +kernel
theorem dX5_move_12 : decode cX5_move 12 = .ok (.if_icmp .ge 6, 3) := by decide +kernel
theorem dX5_move_15 : decode cX5_move 15 = .ok (.bipush (-2), 2) := by decide +kernel
theorem dX5_move_17 : decode cX5_move 17 = .ok (.ireturn, 1) := by decide +kernel
theorem dX5_move_18 : decode cX5_move 18 = .ok (.aload_n 0, 1) := by decide +kernel
theorem dX5_move_19 : decode cX5_move 19 = .ok (.getfield 33, 3) := by decide +kernel
theorem dX5_move_22 : decode cX5_move 22 = .ok (.iload_n 1, 1) := by decide +kernel
theorem dX5_move_23 : decode cX5_move 23 = .ok (.iload_n 2, 1) := by decide +kernel
theorem dX5_move_24 : decode cX5_move 24 = .ok (.invokevirtual 157, 3) := by decide +kernel
theorem dX5_move_27 : decode cX5_move 27 = .ok (.ifCond .ne 5, 3) := by decide +kernel
theorem dX5_move_30 : decode cX5_move 30 = .ok (.iconst (-1), 1) := by decide +kernel
theorem dX5_move_31 : decode cX5_move 31 = .ok (.ireturn, 1) := by decide +kernel
theorem dX5_move_32 : decode cX5_move 32 = .ok (.aload_n 0, 1) := by decide +kernel
theorem dX5_move_33 : decode cX5_move 33 = .ok (.getfield 33, 3) := by decide +kernel
theorem dX5_move_36 : decode cX5_move 36 = .ok (.iload_n 1, 1) := by decide +kernel
theorem dX5_move_37 : decode cX5_move 37 = .ok (.iload_n 2, 1) := by decide +kernel
theorem dX5_move_38 : decode cX5_move 38 = .ok (.invokevirtual 160, 3) := by decide +kernel
theorem dX5_move_41 : decode cX5_move 41 = .ok (.ifCond .le 6, 3) := by decide +kernel
theorem dX5_move_44 : decode cX5_move 44 = .ok (.bipush (-3), 2) := by decide +kernel
theorem dX5_move_46 : decode cX5_move 46 = .ok (.ireturn, 1) := by decide +kernel
theorem dX5_move_47 : decode cX5_move 47 = .ok (.iload_n 2, 1) := by decide +kernel
theorem dX5_move_48 : decode cX5_move 48 = .ok (.aload_n 0, 1) := by decide +kernel
theorem dX5_move_49 : decode cX5_move 49 = .ok (.getfield 33, 3) := by decide +kernel
theorem dX5_move_52 : decode cX5_move 52 = .ok (.iload_n 1, 1) := by decide +kernel
theorem dX5_move_53 : decode cX5_move 53 = .ok (.iload_n 2, 1) := by decide +kernel
theorem dX5_move_54 : decode cX5_move 54 = .ok (.iload_n 3, 1) := by decide +kernel
theorem dX5_move_55 : decode cX5_move 55 = .ok (.invokevirtual 163, 3) := by decide +kernel
theorem dX5_move_58 : decode cX5_move 58 = .ok (.isub, 1) := by decide +kernel
theorem dX5_move_59 : decode cX5_move 59 = .ok (.istore 4, 2) := by decide +kernel
theorem dX5_move_61 : decode cX5_move 61 = .ok (.aload_n 0, 1) := by decide +kernel
theorem dX5_move_62 : decode cX5_move 62 = .ok (.getfield 33, 3) := by decide +kernel
theorem dX5_move_65 : decode cX5_move 65 = .ok (.iload_n 1, 1) := by decide +kernel
theorem dX5_move_66 : decode cX5_move 66 = .ok (.iload_n 2, 1) := by decide +kernel
theorem dX5_move_67 : decode cX5_move 67 = .ok (.iload_n 3, 1) := by decide +kernel
theorem dX5_move_68 : decode cX5_move 68 = .ok (.bipush (-9), 2) := by decide +kernel
theorem dX5_move_70 : decode cX5_move 70 = .ok (.invokevirtual 166, 3) := by decide +kernel
theorem dX5_move_73 : decode cX5_move 73 = .ok (.iload 4, 2) := by decide +kernel
theorem dX5_move_75 : decode cX5_move 75 = .ok (.ireturn, 1) := by decide +kernel
set_option maxRecDepth 20000 in
theorem ggX5_use_X5_isRow : GoodIn wsX5_use wsX5_isRow := goodIn_r _ [10, 2, 11, 89, 90, 91, 92, 93, 94, 95, 96, 97, 98, 99, 100] (by decide +kernel) (by decide +kernel)
set_option maxRecDepth 20000 in
theorem gX5_use_X5_isRow : GoodIn wsX5_use (wsV RX5 83 RX5 yX5_isRow wsX5_isRow) := goodIn_app (goodIn_of _ (by decide +kernel)) ggX5_use_X5_isRow
set_option maxRecDepth 20000 in
theorem ggX5_use_X3_areIssued : GoodIn wsX5_use wsX3_areIssued := goodIn_r _ [16, 17, 101, 102, 103, 104, 105] (by decide +kernel) (by decide +kernel)
set_option maxRecDepth 20000 in
theorem gX5_use_X3_areIssued : GoodIn wsX5_use (wsV RX5 157 RX3 yX3_areIssued wsX3_areIssued) := goodIn_app (goodIn_of _ (by decide +kernel)) ggX5_use_X3_areIssued
set_option maxRecDepth 20000 in
theorem ggX5_use_X3_usedAmong : GoodIn wsX5_use wsX3_usedAmong := goodIn_r _ [21, 22, 23, 24, 25, 26, 15, 27, 28, 29, 30, 31, 32, 33, 34, 35, 36, 37, 38, 39, 17, 101, 102, 103, 104, 105] (by decide +kernel) (by decide +kernel)
set_option maxRecDepth 20000 in
theorem gX5_use_X3_usedAmong : GoodIn wsX5_use (wsV RX5 160 RX3 yX3_usedAmong wsX3_usedAmong) := goodIn_app (goodIn_of _ (by decide +kernel)) ggX5_use_X3_usedAmong
set_option maxRecDepth 20000 in
theorem ggX5_use_X3_ownedAmong : GoodIn wsX5_use wsX3_ownedAmong := goodIn_r _ [43, 22, 44, 24, 25, 26, 15, 27, 28, 29, 30, 31, 32, 33, 34, 35, 36, 37, 38, 39, 17, 101, 102, 103, 104, 105] (by decide +kernel) (by decide +kernel)
set_option maxRecDepth 20000 in
theorem gX5_use_X3_ownedAmong : GoodIn wsX5_use (wsV RX5 163 RX3 yX3_ownedAmong wsX3_ownedAmong) := goodIn_app (goodIn_of _ (by decide +kernel)) ggX5_use_X3_ownedAmong
set_option maxRecDepth 20000 in
theorem ggX5_use_X2_uncovered : GoodIn wsX5_use wsX2_uncovered := goodIn_r _ [49, 50, 51, 94, 95, 96, 97, 98, 99, 100] (by decide +kernel) (by decide +kernel)
set_option maxRecDepth 20000 in
theorem gX5_use_X2_uncovered : GoodIn wsX5_use (wsV RX5 170 RX2 yX2_uncovered wsX2_uncovered) := goodIn_app (goodIn_of _ (by decide +kernel)) ggX5_use_X2_uncovered
set_option maxRecDepth 20000 in
theorem ggX5_use_X3_mark : GoodIn wsX5_use wsX3_mark := goodIn_r _ [55, 44, 23, 56, 57, 58, 15, 59, 17, 22, 32, 60, 61, 62, 63, 64, 65, 66, 67, 68, 69, 70, 71, 72, 73, 74, 75, 76, 77, 78, 79, 80, 81, 82, 83, 29, 30, 31, 84, 85, 86, 87, 88, 101, 102, 103, 104, 105] (by decide +kernel) (by decide +kernel)
set_option maxRecDepth 20000 in
theorem gX5_use_X3_mark : GoodIn wsX5_use (wsV RX5 166 RX3 yX3_mark wsX3_mark) := goodIn_app (goodIn_of _ (by decide +kernel)) ggX5_use_X3_mark
theorem dX5_use_0 : decode cX5_use 0 = .ok (.aload_n 0, 1) := by decide +kernel
theorem dX5_use_1 : decode cX5_use 1 = .ok (.iload_n 3, 1) := by decide +kernel
theorem dX5_use_2 : decode cX5_use 2 = .ok (.invokevirtual 83, 3) := by decide +kernel
theorem dX5_use_5 : decode cX5_use 5 = .ok (.ifCond .ne 5, 3) := by decide +kernel
theorem dX5_use_8 : decode cX5_use 8 = .ok (.iconst (-1), 1) := by decide +kernel
theorem dX5_use_9 : decode cX5_use 9 = .ok (.ireturn, 1) := by decide +kernel
theorem dX5_use_10 : decode cX5_use 10 = .ok (.iload_n 2, 1) := by decide +kernel
theorem dX5_use_11 : decode cX5_use 11 = .ok (.iconst 1, 1) := by decide +kernel
theorem dX5_use_12 : decode cX5_use 12 = .ok (.if_icmp .ge 6, 3) := by decide +kernel
theorem dX5_use_15 : decode cX5_use 15 = .ok (.bipush (-2), 2) := by decide +kernel
theorem dX5_use_17 : decode cX5_use 17 = .ok (.ireturn, 1) := by decide +kernel
theorem dX5_use_18 : decode cX5_use 18 = .ok (.aload_n 0, 1) := by decide +kernel
theorem dX5_use_19 : decode cX5_use 19 = .ok (.getfield 33, 3) := by decide +kernel
theorem dX5_use_22 : decode cX5_use 22 = .ok (.iload_n 1, 1) := by decide +kernel
theorem dX5_use_23 : decode cX5_use 23 = .ok (.iload_n 2, 1) := by decide +kernel
theorem dX5_use_24 : decode cX5_use 24 = .ok (.invokevirtual 157, 3) := by decide +kernel
theorem dX5_use_27 : decode cX5_use 27 = .ok (.ifCond .ne 5, 3) := by decide +kernel
theorem dX5_use_30 : decode cX5_use 30 = .ok (.iconst (-1), 1) := by decide +kernel
theorem dX5_use_31 : decode cX5_use 31 = .ok (.ireturn, 1) := by decide +kernel
theorem dX5_use_32 : decode cX5_use 32 = .ok (.aload_n 0, 1) := by decide +kernel
theorem dX5_use_33 : decode cX5_use 33 = .ok (.getfield 19, 3) := by decide +kernel
theorem dX5_use_36 : decode cX5_use 36 = .ok (.getfield 86, 3) := by decide +kernel
theorem dX5_use_39 : decode cX5_use 39 = .ok (.iload_n 3, 1) := by decide +kernel
theorem dX5_use_40 : decode cX5_use 40 = .ok (.iaload, 1) := by decide +kernel
theorem dX5_use_41 : decode cX5_use 41 = .ok (.istore 4, 2) := by decide +kernel
theorem dX5_use_43 : decode cX5_use 43 = .ok (.aload_n 0, 1) := by decide +kernel
theorem dX5_use_44 : decode cX5_use 44 = .ok (.getfield 33, 3) := by decide +kernel
theorem dX5_use_47 : decode cX5_use 47 = .ok (.iload_n 1, 1) := by decide +kernel
theorem dX5_use_48 : decode cX5_use 48 = .ok (.iload_n 2, 1) := by decide +kernel
theorem dX5_use_49 : decode cX5_use 49 = .ok (.invokevirtual 160, 3) := by decide +kernel
theorem dX5_use_52 : decode cX5_use 52 = .ok (.ifCond .gt 31, 3) := by decide +kernel
theorem dX5_use_55 : decode cX5_use 55 = .ok (.aload_n 0, 1) := by decide +kernel
theorem dX5_use_56 : decode cX5_use 56 = .ok (.getfield 19, 3) := by decide +kernel
theorem dX5_use_59 : decode cX5_use 59 = .ok (.getfield 90, 3) := by decide +kernel
theorem dX5_use_62 : decode cX5_use 62 = .ok (.iload_n 3, 1) := by decide +kernel
theorem dX5_use_63 : decode cX5_use 63 = .ok (.iaload, 1) := by decide +kernel
theorem dX5_use_64 : decode cX5_use 64 = .ok (.iconst 1, 1) := by decide +kernel
theorem dX5_use_65 : decode cX5_use 65 = .ok (.if_icmp .ne 18, 3) := by decide +kernel
theorem dX5_use_68 : decode cX5_use 68 = .ok (.aload_n 0, 1) := by decide +kernel
theorem dX5_use_69 : decode cX5_use 69 = .ok (.getfield 33, 3) := by decide +kernel
theorem dX5_use_72 : decode cX5_use 72 = .ok (.iload_n 1, 1) := by decide +kernel
theorem dX5_use_73 : decode cX5_use 73 = .ok (.iload_n 2, 1) := by decide +kernel
theorem dX5_use_74 : decode cX5_use 74 = .ok (.iload 4, 2) := by decide +kernel
theorem dX5_use_76 : decode cX5_use 76 = .ok (.invokevirtual 163, 3) := by decide +kernel
theorem dX5_use_79 : decode cX5_use 79 = .ok (.iload_n 2, 1) := by decide +kernel
theorem dX5_use_80 : decode cX5_use 80 = .ok (.if_icmp .ge 6, 3) := by decide +kernel
theorem dX5_use_83 : decode cX5_use 83 = .ok (.bipush (-3), 2) := by decide +kernel
theorem dX5_use_85 : decode cX5_use 85 = .ok (.ireturn, 1) := by decide +kernel
theorem dX5_use_86 : decode cX5_use 86 = .ok (.iload_n 2, 1) := by decide +kernel
theorem dX5_use_87 : decode cX5_use 87 = .ok (.aload_n 0, 1) := by decide +kernel
theorem dX5_use_88 : decode cX5_use 88 = .ok (.getfield 19, 3) := by decide +kernel
theorem dX5_use_91 : decode cX5_use 91 = .ok (.iload_n 3, 1) := by decide +kernel
theorem dX5_use_92 : decode cX5_use 92 = .ok (.invokevirtual 170, 3) := by decide +kernel
theorem dX5_use_95 : decode cX5_use 95 = .ok (.if_icmp .le 6, 3) := by decide +kernel
theorem dX5_use_98 : decode cX5_use 98 = .ok (.bipush (-4), 2) := by decide +kernel
theorem dX5_use_100 : decode cX5_use 100 = .ok (.ireturn, 1) := by decide +kernel
theorem dX5_use_101 : decode cX5_use 101 = .ok (.aload_n 0, 1) := by decide +kernel
theorem dX5_use_102 : decode cX5_use 102 = .ok (.getfield 33, 3) := by decide +kernel
theorem dX5_use_105 : decode cX5_use 105 = .ok (.iload_n 1, 1) := by decide +kernel
theorem dX5_use_106 : decode cX5_use 106 = .ok (.iload_n 2, 1) := by decide +kernel
theorem dX5_use_107 : decode cX5_use 107 = .ok (.iload 4, 2) := by decide +kernel
theorem dX5_use_109 : decode cX5_use 109 = .ok (.iload_n 3, 1) := by decide +kernel
theorem dX5_use_110 : decode cX5_use 110 = .ok (.invokevirtual 166, 3) := by decide +kernel
theorem dX5_use_113 : decode cX5_use 113 = .ok (.aload_n 0, 1) := by decide +kernel
theorem dX5_use_114 : decode cX5_use 114 = .ok (.getfield 19, 3) := by decide +kernel
theorem dX5_use_117 : decode cX5_use 117 = .ok (.getfield 105, 3) := by decide +kernel
theorem dX5_use_120 : decode cX5_use 120 = .ok (.iload_n 3, 1) := by decide +kernel
theorem dX5_use_121 : decode cX5_use 121 = .ok (.dup2, 1) := by decide +kernel
theorem dX5_use_122 : decode cX5_use 122 = .ok (.iaload, 1) := by decide +kernel
theorem dX5_use_123 : decode cX5_use 123 = .ok (.iload_n 2, 1) := by decide +kernel
theorem dX5_use_124 : decode cX5_use 124 = .ok (.iadd, 1) := by decide +kernel
theorem dX5_use_125 : decode cX5_use 125 = .ok (.iastore, 1) := by decide +kernel
theorem dX5_use_126 : decode cX5_use 126 = .ok (.aload_n 0, 1) := by decide +kernel
theorem dX5_use_127 : decode cX5_use 127 = .ok (.getfield 19, 3) := by decide +kernel
theorem dX5_use_130 : decode cX5_use 130 = .ok (.getfield 105, 3) := by decide +kernel
theorem dX5_use_133 : decode cX5_use 133 = .ok (.iload_n 3, 1) := by decide +kernel
theorem dX5_use_134 : decode cX5_use 134 = .ok (.iaload, 1) := by decide +kernel
theorem dX5_use_135 : decode cX5_use 135 = .ok (.ireturn, 1) := by decide +kernel
set_option maxRecDepth 20000 in
theorem ggX5_owner_X3_areIssued : GoodIn wsX5_owner wsX3_areIssued := goodIn_r _ [7, 8, 20, 21, 22, 23, 24] (by decide +kernel) (by decide +kernel)
set_option maxRecDepth 20000 in
theorem gX5_owner_X3_areIssued : GoodIn wsX5_owner (wsV RX5 157 RX3 yX3_areIssued wsX3_areIssued) := goodIn_app (goodIn_of _ (by decide +kernel)) ggX5_owner_X3_areIssued
set_option maxRecDepth 20000 in
theorem ggX5_owner_X3_runWith : GoodIn wsX5_owner wsX3_runWith := goodIn_r _ [12, 13, 14, 20, 21, 22, 23, 24] (by decide +kernel) (by decide +kernel)
set_option maxRecDepth 20000 in
theorem gX5_owner_X3_runWith : GoodIn wsX5_owner (wsV RX5 177 RX3 yX3_runWith wsX3_runWith) := goodIn_app (goodIn_of _ (by decide +kernel)) ggX5_owner_X3_runWith
theorem dX5_owner_0 : decode cX5_owner 0 = .ok (.aload_n 0, 1) := by decide +kernel
theorem dX5_owner_1 : decode cX5_owner 1 = .ok (.getfield 33, 3) := by decide +kernel
theorem dX5_owner_4 : decode cX5_owner 4 = .ok (.iload_n 1, 1) := by decide +kernel
theorem dX5_owner_5 : decode cX5_owner 5 = .ok (.iconst 1, 1) := by decide +kernel
theorem dX5_owner_6 : decode cX5_owner 6 = .ok (.invokevirtual 157, 3) := by decide +kernel
theorem dX5_owner_9 : decode cX5_owner 9 = .ok (.ifCond .eq 22, 3) := by decide +kernel
theorem dX5_owner_12 : decode cX5_owner 12 = .ok (.aload_n 0, 1) := by decide +kernel
theorem dX5_owner_13 : decode cX5_owner 13 = .ok (.getfield 33, 3) := by decide +kernel
theorem dX5_owner_16 : decode cX5_owner 16 = .ok (.getfield 174, 3) := by decide +kernel
theorem dX5_owner_19 : decode cX5_owner 19 = .ok (.aload_n 0, 1) := by decide +kernel
theorem dX5_owner_20 : decode cX5_owner 20 = .ok (.getfield 33, 3) := by decide +kernel
theorem dX5_owner_23 : decode cX5_owner 23 = .ok (.iload_n 1, 1) := by decide +kernel
theorem dX5_owner_24 : decode cX5_owner 24 = .ok (.invokevirtual 177, 3) := by decide +kernel
theorem dX5_owner_27 : decode cX5_owner 27 = .ok (.iaload, 1) := by decide +kernel
theorem dX5_owner_28 : decode cX5_owner 28 = .ok (.goto 4, 3) := by decide +kernel
theorem dX5_owner_31 : decode cX5_owner 31 = .ok (.iconst (-1), 1) := by decide +kernel
theorem dX5_owner_32 : decode cX5_owner 32 = .ok (.ireturn, 1) := by decide +kernel
set_option maxRecDepth 20000 in
theorem ggX5_usedFor_X3_areIssued : GoodIn wsX5_usedFor wsX3_areIssued := goodIn_r _ [7, 8, 20, 21, 22, 23, 24] (by decide +kernel) (by decide +kernel)
set_option maxRecDepth 20000 in
theorem gX5_usedFor_X3_areIssued : GoodIn wsX5_usedFor (wsV RX5 157 RX3 yX3_areIssued wsX3_areIssued) := goodIn_app (goodIn_of _ (by decide +kernel)) ggX5_usedFor_X3_areIssued
set_option maxRecDepth 20000 in
theorem ggX5_usedFor_X3_runWith : GoodIn wsX5_usedFor wsX3_runWith := goodIn_r _ [12, 13, 14, 20, 21, 22, 23, 24] (by decide +kernel) (by decide +kernel)
set_option maxRecDepth 20000 in
theorem gX5_usedFor_X3_runWith : GoodIn wsX5_usedFor (wsV RX5 177 RX3 yX3_runWith wsX3_runWith) := goodIn_app (goodIn_of _ (by decide +kernel)) ggX5_usedFor_X3_runWith
theorem dX5_usedFor_0 : decode cX5_usedFor 0 = .ok (.aload_n 0, 1) := by decide +kernel
theorem dX5_usedFor_1 : decode cX5_usedFor 1 = .ok (.getfield 33, 3) := by decide +kernel
theorem dX5_usedFor_4 : decode cX5_usedFor 4 = .ok (.iload_n 1, 1) := by decide +kernel
theorem dX5_usedFor_5 : decode cX5_usedFor 5 = .ok (.iconst 1, 1) := by decide +kernel
theorem dX5_usedFor_6 : decode cX5_usedFor 6 = .ok (.invokevirtual 157, 3) := by decide +kernel
theorem dX5_usedFor_9 : decode cX5_usedFor 9 = .ok (.ifCond .eq 22, 3) := by decide +kernel
theorem dX5_usedFor_12 : decode cX5_usedFor 12 = .ok (.aload_n 0, 1) := by decide +kernel
theorem dX5_usedFor_13 : decode cX5_usedFor 13 = .ok (.getfield 33, 3) := by decide +kernel
theorem dX5_usedFor_16 : decode cX5_usedFor 16 = .ok (.getfield 180, 3) := by decide +kernel
theorem dX5_usedFor_19 : decode cX5_usedFor 19 = .ok (.aload_n 0, 1) := by decide +kernel
theorem dX5_usedFor_20 : decode cX5_usedFor 20 = .ok (.getfield 33, 3) := by decide +kernel
theorem dX5_usedFor_23 : decode cX5_usedFor 23 = .ok (.iload_n 1, 1) := by decide +kernel
theorem dX5_usedFor_24 : decode cX5_usedFor 24 = .ok (.invokevirtual 177, 3) := by decide +kernel
theorem dX5_usedFor_27 : decode cX5_usedFor 27 = .ok (.iaload, 1) := by decide +kernel
theorem dX5_usedFor_28 : decode cX5_usedFor 28 = .ok (.goto 4, 3) := by decide +kernel
theorem dX5_usedFor_31 : decode cX5_usedFor 31 = .ok (.iconst (-1), 1) := by decide +kernel
theorem dX5_usedFor_32 : decode cX5_usedFor 32 = .ok (.ireturn, 1) := by decide +kernel
set_option maxRecDepth 20000 in
theorem ggX5_free_X5_isUnit : GoodIn wsX5_free wsX5_isUnit := goodIn_r _ [6, 7, 26, 27, 28, 29, 30] (by decide +kernel) (by decide +kernel)
set_option maxRecDepth 20000 in
theorem gX5_free_X5_isUnit : GoodIn wsX5_free (wsV RX5 41 RX5 yX5_isUnit wsX5_isUnit) := goodIn_app (goodIn_of _ (by decide +kernel)) ggX5_free_X5_isUnit
set_option maxRecDepth 20000 in
theorem ggX5_free_X3_unusedOf : GoodIn wsX5_free wsX3_unusedOf := goodIn_r _ [12, 13, 14, 15, 16, 17, 18, 11, 19, 20, 21, 22, 23, 24, 25, 31, 32, 33, 34, 35] (by decide +kernel) (by decide +kernel)
set_option maxRecDepth 20000 in
theorem gX5_free_X3_unusedOf : GoodIn wsX5_free (wsV RX5 183 RX3 yX3_unusedOf wsX3_unusedOf) := goodIn_app (goodIn_of _ (by decide +kernel)) ggX5_free_X3_unusedOf
theorem dX5_free_0 : decode cX5_free 0 = .ok (.aload_n 0, 1) := by decide +kernel
theorem dX5_free_1 : decode cX5_free 1 = .ok (.iload_n 1, 1) := by decide +kernel
theorem dX5_free_2 : decode cX5_free 2 = .ok (.invokevirtual 41, 3) := by decide +kernel
theorem dX5_free_5 : decode cX5_free 5 = .ok (.ifCond .eq 14, 3) := by decide +kernel
theorem dX5_free_8 : decode cX5_free 8 = .ok (.aload_n 0, 1) := by decide +kernel
theorem dX5_free_9 : decode cX5_free 9 = .ok (.getfield 33, 3) := by decide +kernel
theorem dX5_free_12 : decode cX5_free 12 = .ok (.iload_n 1, 1) := by decide +kernel
theorem dX5_free_13 : decode cX5_free 13 = .ok (.invokevirtual 183, 3) := by decide +kernel
theorem dX5_free_16 : decode cX5_free 16 = .ok (.goto 4, 3) := by decide +kernel
theorem dX5_free_19 : decode cX5_free 19 = .ok (.iconst (-1), 1) := by decide +kernel
theorem dX5_free_20 : decode cX5_free 20 = .ok (.ireturn, 1) := by decide +kernel
theorem dX5_runs_0 : decode cX5_runs 0 = .ok (.aload_n 0, 1) := by decide +kernel
theorem dX5_runs_1 : decode cX5_runs 1 = .ok (.getfield 33, 3) := by decide +kernel
theorem dX5_runs_4 : decode cX5_runs 4 = .ok (.getfield 186, 3) := by decide +kernel
theorem dX5_runs_7 : decode cX5_runs 7 = .ok (.ireturn, 1) := by decide +kernel
set_option maxRecDepth 20000 in
theorem ggX5_run_X3_lengthOf : GoodIn wsX5_run wsX3_lengthOf := goodIn_r _ [10, 11, 12, 13, 14, 9, 15, 16, 17, 23, 24, 25, 26, 27] (by decide +kernel) (by decide +kernel)
set_option maxRecDepth 20000 in
theorem gX5_run_X3_lengthOf : GoodIn wsX5_run (wsV RX5 190 RX3 yX3_lengthOf wsX3_lengthOf) := goodIn_app (goodIn_of _ (by decide +kernel)) ggX5_run_X3_lengthOf
theorem dX5_run_0 : decode cX5_run 0 = .ok (.iload_n 1, 1) := by decide +kernel
theorem dX5_run_1 : decode cX5_run 1 = .ok (.ifCond .lt 14, 3) := by decide +kernel
theorem dX5_run_4 : decode cX5_run 4 = .ok (.iload_n 1, 1) := by decide +kernel
theorem dX5_run_5 : decode cX5_run 5 = .ok (.aload_n 0, 1) := by decide +kernel
theorem dX5_run_6 : decode cX5_run 6 = .ok (.getfield 33, 3) := by decide +kernel
theorem dX5_run_9 : decode cX5_run 9 = .ok (.getfield 186, 3) := by decide +kernel
theorem dX5_run_12 : decode cX5_run 12 = .ok (.if_icmp .lt 5, 3) := by decide +kernel
theorem dX5_run_15 : decode cX5_run 15 = .ok (.iconst (-1), 1) := by decide +kernel
theorem dX5_run_16 : decode cX5_run 16 = .ok (.ireturn, 1) := by decide +kernel
theorem dX5_run_17 : decode cX5_run 17 = .ok (.iload_n 2, 1) := by decide +kernel
theorem dX5_run_18 : decode cX5_run 18 = .ok (.tableswitch 69 0 3 #[30, 40, 49, 59], 30) := by decide +kernel
theorem dX5_run_48 : decode cX5_run 48 = .ok (.aload_n 0, 1) := by decide +kernel
theorem dX5_run_49 : decode cX5_run 49 = .ok (.getfield 33, 3) := by decide +kernel
theorem dX5_run_52 : decode cX5_run 52 = .ok (.getfield 187, 3) := by decide +kernel
theorem dX5_run_55 : decode cX5_run 55 = .ok (.iload_n 1, 1) := by decide +kernel
theorem dX5_run_56 : decode cX5_run 56 = .ok (.iaload, 1) := by decide +kernel
theorem dX5_run_57 : decode cX5_run 57 = .ok (.ireturn, 1) := by decide +kernel
theorem dX5_run_58 : decode cX5_run 58 = .ok (.aload_n 0, 1) := by decide +kernel
theorem dX5_run_59 : decode cX5_run 59 = .ok (.getfield 33, 3) := by decide +kernel
theorem dX5_run_62 : decode cX5_run 62 = .ok (.iload_n 1, 1) := by decide +kernel
theorem dX5_run_63 : decode cX5_run 63 = .ok (.invokevirtual 190, 3) := by decide +kernel
theorem dX5_run_66 : decode cX5_run 66 = .ok (.ireturn, 1) := by decide +kernel
theorem dX5_run_67 : decode cX5_run 67 = .ok (.aload_n 0, 1) := by decide +kernel
theorem dX5_run_68 : decode cX5_run 68 = .ok (.getfield 33, 3) := by decide +kernel
theorem dX5_run_71 : decode cX5_run 71 = .ok (.getfield 174, 3) := by decide +kernel
theorem dX5_run_74 : decode cX5_run 74 = .ok (.iload_n 1, 1) := by decide +kernel
theorem dX5_run_75 : decode cX5_run 75 = .ok (.iaload, 1) := by decide +kernel
theorem dX5_run_76 : decode cX5_run 76 = .ok (.ireturn, 1) := by decide +kernel
theorem dX5_run_77 : decode cX5_run 77 = .ok (.aload_n 0, 1) := by decide +kernel
theorem dX5_run_78 : decode cX5_run 78 = .ok (.getfield 33, 3) := by decide +kernel
theorem dX5_run_81 : decode cX5_run 81 = .ok (.getfield 180, 3) := by decide +kernel
theorem dX5_run_84 : decode cX5_run 84 = .ok (.iload_n 1, 1) := by decide +kernel
theorem dX5_run_85 : decode cX5_run 85 = .ok (.iaload, 1) := by decide +kernel
theorem dX5_run_86 : decode cX5_run 86 = .ok (.ireturn, 1) := by decide +kernel
theorem dX5_run_87 : decode cX5_run 87 = .ok (.bipush (-2), 2) := by decide +kernel
theorem dX5_run_89 : decode cX5_run 89 = .ok (.ireturn, 1) := by decide +kernel
theorem dX5_count_0 : decode cX5_count 0 = .ok (.iload_n 1, 1) := by decide +kernel
theorem dX5_count_1 : decode cX5_count 1 = .ok (.tableswitch 72 0 4 #[35, 40, 48, 56, 64], 35) := by decide +kernel
theorem dX5_count_36 : decode cX5_count 36 = .ok (.aload_n 0, 1) := by decide +kernel
theorem dX5_count_37 : decode cX5_count 37 = .ok (.getfield 37, 3) := by decide +kernel
theorem dX5_count_40 : decode cX5_count 40 = .ok (.ireturn, 1) := by decide +kernel
theorem dX5_count_41 : decode cX5_count 41 = .ok (.aload_n 0, 1) := by decide +kernel
theorem dX5_count_42 : decode cX5_count 42 = .ok (.getfield 19, 3) := by decide +kernel
theorem dX5_count_45 : decode cX5_count 45 = .ok (.getfield 132, 3) := by decide +kernel
theorem dX5_count_48 : decode cX5_count 48 = .ok (.ireturn, 1) := by decide +kernel
theorem dX5_count_49 : decode cX5_count 49 = .ok (.aload_n 0, 1) := by decide +kernel
theorem dX5_count_50 : decode cX5_count 50 = .ok (.getfield 26, 3) := by decide +kernel
theorem dX5_count_53 : decode cX5_count 53 = .ok (.getfield 193, 3) := by decide +kernel
theorem dX5_count_56 : decode cX5_count 56 = .ok (.ireturn, 1) := by decide +kernel
theorem dX5_count_57 : decode cX5_count 57 = .ok (.aload_n 0, 1) := by decide +kernel
theorem dX5_count_58 : decode cX5_count 58 = .ok (.getfield 33, 3) := by decide +kernel
theorem dX5_count_61 : decode cX5_count 61 = .ok (.getfield 194, 3) := by decide +kernel
theorem dX5_count_64 : decode cX5_count 64 = .ok (.ireturn, 1) := by decide +kernel
theorem dX5_count_65 : decode cX5_count 65 = .ok (.aload_n 0, 1) := by decide +kernel
theorem dX5_count_66 : decode cX5_count 66 = .ok (.getfield 10, 3) := by decide +kernel
theorem dX5_count_69 : decode cX5_count 69 = .ok (.getfield 197, 3) := by decide +kernel
theorem dX5_count_72 : decode cX5_count 72 = .ok (.ireturn, 1) := by decide +kernel
theorem dX5_count_73 : decode cX5_count 73 = .ok (.bipush (-2), 2) := by decide +kernel
theorem dX5_count_75 : decode cX5_count 75 = .ok (.ireturn, 1) := by decide +kernel
theorem dX5_isUnit_0 : decode cX5_isUnit 0 = .ok (.iload_n 1, 1) := by decide +kernel
theorem dX5_isUnit_1 : decode cX5_isUnit 1 = .ok (.ifCond .lt 15, 3) := by decide +kernel
theorem dX5_isUnit_4 : decode cX5_isUnit 4 = .ok (.iload_n 1, 1) := by decide +kernel
theorem dX5_isUnit_5 : decode cX5_isUnit 5 = .ok (.aload_n 0, 1) := by decide +kernel
theorem dX5_isUnit_6 : decode cX5_isUnit 6 = .ok (.getfield 37, 3) := by decide +kernel
theorem dX5_isUnit_9 : decode cX5_isUnit 9 = .ok (.if_icmp .ge 7, 3) := by decide +kernel
theorem dX5_isUnit_12 : decode cX5_isUnit 12 = .ok (.iconst 1, 1) := by decide +kernel
theorem dX5_isUnit_13 : decode cX5_isUnit 13 = .ok (.goto 4, 3) := by decide +kernel
theorem dX5_isUnit_16 : decode cX5_isUnit 16 = .ok (.iconst 0, 1) := by decide +kernel
theorem dX5_isUnit_17 : decode cX5_isUnit 17 = .ok (.ireturn, 1) := by decide +kernel
theorem dX5_isRow_0 : decode cX5_isRow 0 = .ok (.iload_n 1, 1) := by decide +kernel
theorem dX5_isRow_1 : decode cX5_isRow 1 = .ok (.ifCond .lt 18, 3) := by decide +kernel
theorem dX5_isRow_4 : decode cX5_isRow 4 = .ok (.iload_n 1, 1) := by decide +kernel
theorem dX5_isRow_5 : decode cX5_isRow 5 = .ok (.aload_n 0, 1) := by decide +kernel
theorem dX5_isRow_6 : decode cX5_isRow 6 = .ok (.getfield 19, 3) := by decide +kernel
theorem dX5_isRow_9 : decode cX5_isRow 9 = .ok (.getfield 132, 3) := by decide +kernel
theorem dX5_isRow_12 : decode cX5_isRow 12 = .ok (.if_icmp .ge 7, 3) := by decide +kernel
theorem dX5_isRow_15 : decode cX5_isRow 15 = .ok (.iconst 1, 1) := by decide +kernel
theorem dX5_isRow_16 : decode cX5_isRow 16 = .ok (.goto 4, 3) := by decide +kernel
theorem dX5_isRow_19 : decode cX5_isRow 19 = .ok (.iconst 0, 1) := by decide +kernel
theorem dX5_isRow_20 : decode cX5_isRow 20 = .ok (.ireturn, 1) := by decide +kernel
theorem dX5_isAsOf_0 : decode cX5_isAsOf 0 = .ok (.iload_n 1, 1) := by decide +kernel
theorem dX5_isAsOf_1 : decode cX5_isAsOf 1 = .ok (.bipush (-9), 2) := by decide +kernel
theorem dX5_isAsOf_3 : decode cX5_isAsOf 3 = .ok (.if_icmp .eq 18, 3) := by decide +kernel
theorem dX5_isAsOf_6 : decode cX5_isAsOf 6 = .ok (.iload_n 1, 1) := by decide +kernel
theorem dX5_isAsOf_7 : decode cX5_isAsOf 7 = .ok (.ifCond .lt 18, 3) := by decide +kernel
theorem dX5_isAsOf_10 : decode cX5_isAsOf 10 = .ok (.iload_n 1, 1) := by decide +kernel
theorem dX5_isAsOf_11 : decode cX5_isAsOf 11 = .ok (.aload_n 0, 1) := by decide +kernel
theorem dX5_isAsOf_12 : decode cX5_isAsOf 12 = .ok (.getfield 26, 3) := by decide +kernel
theorem dX5_isAsOf_15 : decode cX5_isAsOf 15 = .ok (.getfield 193, 3) := by decide +kernel
theorem dX5_isAsOf_18 : decode cX5_isAsOf 18 = .ok (.if_icmp .ge 7, 3) := by decide +kernel
theorem dX5_isAsOf_21 : decode cX5_isAsOf 21 = .ok (.iconst 1, 1) := by decide +kernel
theorem dX5_isAsOf_22 : decode cX5_isAsOf 22 = .ok (.goto 4, 3) := by decide +kernel
theorem dX5_isAsOf_25 : decode cX5_isAsOf 25 = .ok (.iconst 0, 1) := by decide +kernel
theorem dX5_isAsOf_26 : decode cX5_isAsOf 26 = .ok (.ireturn, 1) := by decide +kernel
theorem dX5_isHundredths_0 : decode cX5_isHundredths 0 = .ok (.iload_n 0, 1) := by decide +kernel
theorem dX5_isHundredths_1 : decode cX5_isHundredths 1 = .ok (.ifCond .lt 13, 3) := by decide +kernel
theorem dX5_isHundredths_4 : decode cX5_isHundredths 4 = .ok (.iload_n 0, 1) := by decide +kernel
theorem dX5_isHundredths_5 : decode cX5_isHundredths 5 = .ok (.bipush 100, 2) := by decide +kernel
theorem dX5_isHundredths_7 : decode cX5_isHundredths 7 = .ok (.if_icmp .gt 7, 3) := by decide +kernel
theorem dX5_isHundredths_10 : decode cX5_isHundredths 10 = .ok (.iconst 1, 1) := by decide +kernel
theorem dX5_isHundredths_11 : decode cX5_isHundredths 11 = .ok (.goto 4, 3) := by decide +kernel
theorem dX5_isHundredths_14 : decode cX5_isHundredths 14 = .ok (.iconst 0, 1) := by decide +kernel
theorem dX5_isHundredths_15 : decode cX5_isHundredths 15 = .ok (.ireturn, 1) := by decide +kernel
theorem dX5_isDay_0 : decode cX5_isDay 0 = .ok (.iload_n 0, 1) := by decide +kernel
theorem dX5_isDay_1 : decode cX5_isDay 1 = .ok (.ifCond .lt 14, 3) := by decide +kernel
theorem dX5_isDay_4 : decode cX5_isDay 4 = .ok (.iload_n 0, 1) := by decide +kernel
theorem dX5_isDay_5 : decode cX5_isDay 5 = .ok (.sipush 3650, 3) := by decide +kernel
theorem dX5_isDay_8 : decode cX5_isDay 8 = .ok (.if_icmp .ge 7, 3) := by decide +kernel
theorem dX5_isDay_11 : decode cX5_isDay 11 = .ok (.iconst 1, 1) := by decide +kernel
theorem dX5_isDay_12 : decode cX5_isDay 12 = .ok (.goto 4, 3) := by decide +kernel
theorem dX5_isDay_15 : decode cX5_isDay 15 = .ok (.iconst 0, 1) := by decide +kernel
theorem dX5_isDay_16 : decode cX5_isDay 16 = .ok (.ireturn, 1) := by decide +kernel
theorem dX5_isYear_0 : decode cX5_isYear 0 = .ok (.iload_n 0, 1) := by decide +kernel
theorem dX5_isYear_1 : decode cX5_isYear 1 = .ok (.ifCond .lt 13, 3) := by decide +kernel
theorem dX5_isYear_4 : decode cX5_isYear 4 = .ok (.iload_n 0, 1) := by decide +kernel
theorem dX5_isYear_5 : decode cX5_isYear 5 = .ok (.bipush 10, 2) := by decide +kernel
theorem dX5_isYear_7 : decode cX5_isYear 7 = .ok (.if_icmp .ge 7, 3) := by decide +kernel
theorem dX5_isYear_10 : decode cX5_isYear 10 = .ok (.iconst 1, 1) := by decide +kernel
theorem dX5_isYear_11 : decode cX5_isYear 11 = .ok (.goto 4, 3) := by decide +kernel
theorem dX5_isYear_14 : decode cX5_isYear 14 = .ok (.iconst 0, 1) := by decide +kernel
theorem dX5_isYear_15 : decode cX5_isYear 15 = .ok (.ireturn, 1) := by decide +kernel
theorem dX5_isKind_0 : decode cX5_isKind 0 = .ok (.iload_n 0, 1) := by decide +kernel
theorem dX5_isKind_1 : decode cX5_isKind 1 = .ok (.ifCond .lt 12, 3) := by decide +kernel
theorem dX5_isKind_4 : decode cX5_isKind 4 = .ok (.iload_n 0, 1) := by decide +kernel
theorem dX5_isKind_5 : decode cX5_isKind 5 = .ok (.iconst 4, 1) := by decide +kernel
theorem dX5_isKind_6 : decode cX5_isKind 6 = .ok (.if_icmp .ge 7, 3) := by decide +kernel
theorem dX5_isKind_9 : decode cX5_isKind 9 = .ok (.iconst 1, 1) := by decide +kernel
theorem dX5_isKind_10 : decode cX5_isKind 10 = .ok (.goto 4, 3) := by decide +kernel
theorem dX5_isKind_13 : decode cX5_isKind 13 = .ok (.iconst 0, 1) := by decide +kernel
theorem dX5_isKind_14 : decode cX5_isKind 14 = .ok (.ireturn, 1) := by decide +kernel
set_option maxRecDepth 20000 in
theorem ggX5_isDouble_X1_shareOn : GoodIn wsX5_isDouble wsX1_shareOn := goodIn_r _ [9, 10, 11, 12, 8, 13, 14, 15, 16, 17, 18, 19, 20, 21, 22, 23, 24, 25, 26, 27, 28, 29, 30, 31, 32, 33, 34, 35, 36, 37, 38, 39, 40, 41, 42, 43, 44, 45, 46, 47, 48, 61, 62, 63, 64, 65, 66, 67, 68, 69, 70, 71] (by decide +kernel) (by decide +kernel)
set_option maxRecDepth 20000 in
theorem gX5_isDouble_X1_shareOn : GoodIn wsX5_isDouble (wsV RX5 65 RX1 yX1_shareOn wsX1_shareOn) := goodIn_app (goodIn_of _ (by decide +kernel)) ggX5_isDouble_X1_shareOn
theorem dX5_isDouble_0 : decode cX5_isDouble 0 = .ok (.aload_n 0, 1) := by decide +kernel
theorem dX5_isDouble_1 : decode cX5_isDouble 1 = .ok (.getfield 19, 3) := by decide +kernel
theorem dX5_isDouble_4 : decode cX5_isDouble 4 = .ok (.getfield 99, 3) := by decide +kernel
theorem dX5_isDouble_7 : decode cX5_isDouble 7 = .ok (.iload_n 1, 1) := by decide +kernel
theorem dX5_isDouble_8 : decode cX5_isDouble 8 = .ok (.iaload, 1) := by decide +kernel
theorem dX5_isDouble_9 : decode cX5_isDouble 9 = .ok (.istore_n 3, 1) := by decide +kernel
theorem dX5_isDouble_10 : decode cX5_isDouble 10 = .ok (.iload_n 3, 1) := by decide +kernel
theorem dX5_isDouble_11 : decode cX5_isDouble 11 = .ok (.bipush (-9), 2) := by decide +kernel
theorem dX5_isDouble_13 : decode cX5_isDouble 13 = .ok (.if_icmp .eq 43, 3) := by decide +kernel
theorem dX5_isDouble_16 : decode cX5_isDouble 16 = .ok (.aload_n 0, 1) := by decide +kernel
theorem dX5_isDouble_17 : decode cX5_isDouble 17 = .ok (.getfield 10, 3) := by decide +kernel
theorem dX5_isDouble_20 : decode cX5_isDouble 20 = .ok (.aload_n 0, 1) := by decide +kernel
theorem dX5_isDouble_21 : decode cX5_isDouble 21 = .ok (.getfield 19, 3) := by decide +kernel
theorem dX5_isDouble_24 : decode cX5_isDouble 24 = .ok (.getfield 86, 3) := by decide +kernel
theorem dX5_isDouble_27 : decode cX5_isDouble 27 = .ok (.iload_n 1, 1) := by decide +kernel
theorem dX5_isDouble_28 : decode cX5_isDouble 28 = .ok (.iaload, 1) := by decide +kernel
theorem dX5_isDouble_29 : decode cX5_isDouble 29 = .ok (.iload_n 2, 1) := by decide +kernel
theorem dX5_isDouble_30 : decode cX5_isDouble 30 = .ok (.invokevirtual 65, 3) := by decide +kernel
theorem dX5_isDouble_33 : decode cX5_isDouble 33 = .ok (.lconst 0, 1) := by decide +kernel
theorem dX5_isDouble_34 : decode cX5_isDouble 34 = .ok (.lcmp, 1) := by decide +kernel
theorem dX5_isDouble_35 : decode cX5_isDouble 35 = .ok (.ifCond .le 21, 3) := by decide +kernel
theorem dX5_isDouble_38 : decode cX5_isDouble 38 = .ok (.aload_n 0, 1) := by decide +kernel
theorem dX5_isDouble_39 : decode cX5_isDouble 39 = .ok (.getfield 10, 3) := by decide +kernel
theorem dX5_isDouble_42 : decode cX5_isDouble 42 = .ok (.iload_n 3, 1) := by decide +kernel
theorem dX5_isDouble_43 : decode cX5_isDouble 43 = .ok (.iload_n 2, 1) := by decide +kernel
theorem dX5_isDouble_44 : decode cX5_isDouble 44 = .ok (.invokevirtual 65, 3) := by decide +kernel
theorem dX5_isDouble_47 : decode cX5_isDouble 47 = .ok (.lconst 0, 1) := by decide +kernel
theorem dX5_isDouble_48 : decode cX5_isDouble 48 = .ok (.lcmp, 1) := by decide +kernel
theorem dX5_isDouble_49 : decode cX5_isDouble 49 = .ok (.ifCond .le 7, 3) := by decide +kernel
theorem dX5_isDouble_52 : decode cX5_isDouble 52 = .ok (.iconst 1, 1) := by decide +kernel
theorem dX5_isDouble_53 : decode cX5_isDouble 53 = .ok (.goto 4, 3) := by decide +kernel
theorem dX5_isDouble_56 : decode cX5_isDouble 56 = .ok (.iconst 0, 1) := by decide +kernel
theorem dX5_isDouble_57 : decode cX5_isDouble 57 = .ok (.ireturn, 1) := by decide +kernel
set_option maxRecDepth 20000 in
theorem ggX5_versionOf_X2_yearOf : GoodIn wsX5_versionOf wsX2_yearOf := goodIn_r _ [8, 9, 23, 24, 25, 26, 27, 28, 29] (by decide +kernel) (by decide +kernel)
set_option maxRecDepth 20000 in
theorem gX5_versionOf_X2_yearOf : GoodIn wsX5_versionOf (wsV RX5 198 RX2 yX2_yearOf wsX2_yearOf) := goodIn_app (goodIn_of _ (by decide +kernel)) ggX5_versionOf_X2_yearOf
set_option maxRecDepth 20000 in
theorem ggX5_versionOf_X0_versionFor : GoodIn wsX5_versionOf wsX0_versionFor := goodIn_r _ [14, 15, 16, 17, 30, 31, 32, 33, 34] (by decide +kernel) (by decide +kernel)
set_option maxRecDepth 20000 in
theorem gX5_versionOf_X0_versionFor : GoodIn wsX5_versionOf (wsV RX5 116 RX0 yX0_versionFor wsX0_versionFor) := goodIn_app (goodIn_of _ (by decide +kernel)) ggX5_versionOf_X0_versionFor
theorem dX5_versionOf_0 : decode cX5_versionOf 0 = .ok (.aload_n 0, 1) := by decide +kernel
theorem dX5_versionOf_1 : decode cX5_versionOf 1 = .ok (.getfield 26, 3) := by decide +kernel
theorem dX5_versionOf_4 : decode cX5_versionOf 4 = .ok (.aload_n 0, 1) := by decide +kernel
theorem dX5_versionOf_5 : decode cX5_versionOf 5 = .ok (.getfield 19, 3) := by decide +kernel
theorem dX5_versionOf_8 : decode cX5_versionOf 8 = .ok (.getfield 90, 3) := by decide +kernel
theorem dX5_versionOf_11 : decode cX5_versionOf 11 = .ok (.iload_n 1, 1) := by decide +kernel
theorem dX5_versionOf_12 : decode cX5_versionOf 12 = .ok (.iaload, 1) := by decide +kernel
theorem dX5_versionOf_13 : decode cX5_versionOf 13 = .ok (.aload_n 0, 1) := by decide +kernel
theorem dX5_versionOf_14 : decode cX5_versionOf 14 = .ok (.getfield 19, 3) := by decide +kernel
theorem dX5_versionOf_17 : decode cX5_versionOf 17 = .ok (.iload_n 1, 1) := by decide +kernel
theorem dX5_versionOf_18 : decode cX5_versionOf 18 = .ok (.invokevirtual 198, 3) := by decide +kernel
theorem dX5_versionOf_21 : decode cX5_versionOf 21 = .ok (.iload_n 2, 1) := by decide +kernel
theorem dX5_versionOf_22 : decode cX5_versionOf 22 = .ok (.invokevirtual 116, 3) := by decide +kernel
theorem dX5_versionOf_25 : decode cX5_versionOf 25 = .ok (.ireturn, 1) := by decide +kernel
set_option maxRecDepth 20000 in
theorem ggX5_tonsOf_X5_versionOf : GoodIn wsX5_tonsOf wsX5_versionOf := goodIn_r _ [13, 1, 6, 7, 14, 15, 16, 17, 18, 19, 20, 21, 22, 23, 24, 25, 26, 27, 40, 41, 42, 43, 44, 49, 50, 51, 52, 53, 54, 55, 56, 57, 58, 59, 60] (by decide +kernel) (by decide +kernel)
set_option maxRecDepth 20000 in
theorem gX5_tonsOf_X5_versionOf : GoodIn wsX5_tonsOf (wsV RX5 204 RX5 yX5_versionOf wsX5_versionOf) := goodIn_app (goodIn_of _ (by decide +kernel)) ggX5_tonsOf_X5_versionOf
set_option maxRecDepth 20000 in
theorem ggX5_tonsOf_X0_endOf : GoodIn wsX5_tonsOf wsX0_endOf := goodIn_r _ [31, 32, 33, 56, 57, 58, 59, 60] (by decide +kernel) (by decide +kernel)
set_option maxRecDepth 20000 in
theorem gX5_tonsOf_X0_endOf : GoodIn wsX5_tonsOf (wsV RX5 119 RX0 yX0_endOf wsX0_endOf) := goodIn_app (goodIn_of _ (by decide +kernel)) ggX5_tonsOf_X0_endOf
set_option maxRecDepth 20000 in
theorem ggX5_tonsOf_X2_uncovered : GoodIn wsX5_tonsOf wsX2_uncovered := goodIn_r _ [37, 38, 39, 49, 50, 51, 52, 53, 54, 55] (by decide +kernel) (by decide +kernel)
set_option maxRecDepth 20000 in
theorem gX5_tonsOf_X2_uncovered : GoodIn wsX5_tonsOf (wsV RX5 170 RX2 yX2_uncovered wsX2_uncovered) := goodIn_app (goodIn_of _ (by decide +kernel)) ggX5_tonsOf_X2_uncovered
theorem dX5_tonsOf_0 : decode cX5_tonsOf 0 = .ok (.aload_n 0, 1) := by decide +kernel
theorem dX5_tonsOf_1 : decode cX5_tonsOf 1 = .ok (.getfield 26, 3) := by decide +kernel
theorem dX5_tonsOf_4 : decode cX5_tonsOf 4 = .ok (.aload_n 0, 1) := by decide +kernel
theorem dX5_tonsOf_5 : decode cX5_tonsOf 5 = .ok (.iload_n 1, 1) := by decide +kernel
theorem dX5_tonsOf_6 : decode cX5_tonsOf 6 = .ok (.aload_n 2, 1) := by decide +kernel
theorem dX5_tonsOf_7 : decode cX5_tonsOf 7 = .ok (.getfield 201, 3) := by decide +kernel
theorem dX5_tonsOf_10 : decode cX5_tonsOf 10 = .ok (.invokevirtual 204, 3) := by decide +kernel
theorem dX5_tonsOf_13 : decode cX5_tonsOf 13 = .ok (.aload_n 2, 1) := by decide +kernel
theorem dX5_tonsOf_14 : decode cX5_tonsOf 14 = .ok (.getfield 207, 3) := by decide +kernel
theorem dX5_tonsOf_17 : decode cX5_tonsOf 17 = .ok (.invokevirtual 119, 3) := by decide +kernel
theorem dX5_tonsOf_20 : decode cX5_tonsOf 20 = .ok (.istore_n 3, 1) := by decide +kernel
theorem dX5_tonsOf_21 : decode cX5_tonsOf 21 = .ok (.iload_n 3, 1) := by decide +kernel
theorem dX5_tonsOf_22 : decode cX5_tonsOf 22 = .ok (.bipush (-9), 2) := by decide +kernel
theorem dX5_tonsOf_24 : decode cX5_tonsOf 24 = .ok (.if_icmp .ne 7, 3) := by decide +kernel
theorem dX5_tonsOf_27 : decode cX5_tonsOf 27 = .ok (.ldc2_w 146, 3) := by decide +kernel
theorem dX5_tonsOf_30 : decode cX5_tonsOf 30 = .ok (.lreturn, 1) := by decide +kernel
theorem dX5_tonsOf_31 : decode cX5_tonsOf 31 = .ok (.aload_n 2, 1) := by decide +kernel
theorem dX5_tonsOf_32 : decode cX5_tonsOf 32 = .ok (.getfield 211, 3) := by decide +kernel
theorem dX5_tonsOf_35 : decode cX5_tonsOf 35 = .ok (.ifCond .eq 20, 3) := by decide +kernel
theorem dX5_tonsOf_38 : decode cX5_tonsOf 38 = .ok (.aload_n 0, 1) := by decide +kernel
theorem dX5_tonsOf_39 : decode cX5_tonsOf 39 = .ok (.getfield 19, 3) := by decide +kernel
theorem dX5_tonsOf_42 : decode cX5_tonsOf 42 = .ok (.getfield 90, 3) := by decide +kernel
theorem dX5_tonsOf_45 : decode cX5_tonsOf 45 = .ok (.iload_n 1, 1) := by decide +kernel
theorem dX5_tonsOf_46 : decode cX5_tonsOf 46 = .ok (.iaload, 1) := by decide +kernel
theorem dX5_tonsOf_47 : decode cX5_tonsOf 47 = .ok (.iconst 1, 1) := by decide +kernel
theorem dX5_tonsOf_48 : decode cX5_tonsOf 48 = .ok (.if_icmp .ne 7, 3) := by decide +kernel
theorem dX5_tonsOf_51 : decode cX5_tonsOf 51 = .ok (.iconst 1, 1) := by decide +kernel
theorem dX5_tonsOf_52 : decode cX5_tonsOf 52 = .ok (.goto 4, 3) := by decide +kernel
theorem dX5_tonsOf_55 : decode cX5_tonsOf 55 = .ok (.iconst 0, 1) := by decide +kernel
theorem dX5_tonsOf_56 : decode cX5_tonsOf 56 = .ok (.istore 4, 2) := by decide +kernel
theorem dX5_tonsOf_58 : decode cX5_tonsOf 58 = .ok (.iload 4, 2) := by decide +kernel
theorem dX5_tonsOf_60 : decode cX5_tonsOf 60 = .ok (.ifCond .eq 14, 3) := by decide +kernel
theorem dX5_tonsOf_63 : decode cX5_tonsOf 63 = .ok (.aload_n 0, 1) := by decide +kernel
theorem dX5_tonsOf_64 : decode cX5_tonsOf 64 = .ok (.getfield 19, 3) := by decide +kernel
theorem dX5_tonsOf_67 : decode cX5_tonsOf 67 = .ok (.iload_n 1, 1) := by decide +kernel
theorem dX5_tonsOf_68 : decode cX5_tonsOf 68 = .ok (.invokevirtual 170, 3) := by decide +kernel
theorem dX5_tonsOf_71 : decode cX5_tonsOf 71 = .ok (.goto 12, 3) := by decide +kernel
theorem dX5_tonsOf_74 : decode cX5_tonsOf 74 = .ok (.aload_n 0, 1) := by decide +kernel
theorem dX5_tonsOf_75 : decode cX5_tonsOf 75 = .ok (.getfield 19, 3) := by decide +kernel
theorem dX5_tonsOf_78 : decode cX5_tonsOf 78 = .ok (.getfield 93, 3) := by decide +kernel
theorem dX5_tonsOf_81 : decode cX5_tonsOf 81 = .ok (.iload_n 1, 1) := by decide +kernel
theorem dX5_tonsOf_82 : decode cX5_tonsOf 82 = .ok (.iaload, 1) := by decide +kernel
theorem dX5_tonsOf_83 : decode cX5_tonsOf 83 = .ok (.istore 5, 2) := by decide +kernel
theorem dX5_tonsOf_85 : decode cX5_tonsOf 85 = .ok (.iload 5, 2) := by decide +kernel
theorem dX5_tonsOf_87 : decode cX5_tonsOf 87 = .ok (.i2l, 1) := by decide +kernel
theorem dX5_tonsOf_88 : decode cX5_tonsOf 88 = .ok (.iload_n 3, 1) := by decide +kernel
theorem dX5_tonsOf_89 : decode cX5_tonsOf 89 = .ok (.i2l, 1) := by decide +kernel
theorem dX5_tonsOf_90 : decode cX5_tonsOf 90 = .ok (.lmul, 1) := by decide +kernel
theorem dX5_tonsOf_91 : decode cX5_tonsOf 91 = .ok (.lreturn, 1) := by decide +kernel
set_option maxRecDepth 20000 in
theorem ggX5_isChanged_X2_isOfYear : GoodIn wsX5_isChanged wsX2_isOfYear := goodIn_r _ [7, 8, 9, 10, 6, 11, 12, 39, 40, 41, 42, 43, 44, 45] (by decide +kernel) (by decide +kernel)
set_option maxRecDepth 20000 in
theorem gX5_isChanged_X2_isOfYear : GoodIn wsX5_isChanged (wsV RX5 143 RX2 yX2_isOfYear wsX2_isOfYear) := goodIn_app (goodIn_of _ (by decide +kernel)) ggX5_isChanged_X2_isOfYear
set_option maxRecDepth 20000 in
theorem ggX5_isChanged_X5_versionOf : GoodIn wsX5_isChanged wsX5_versionOf := goodIn_r _ [17, 2, 1, 18, 19, 9, 10, 6, 11, 12, 20, 21, 22, 23, 24, 25, 26, 27, 34, 35, 36, 37, 38, 39, 40, 41, 42, 43, 44, 45, 46, 47, 48, 49, 50] (by decide +kernel) (by decide +kernel)
set_option maxRecDepth 20000 in
theorem gX5_isChanged_X5_versionOf : GoodIn wsX5_isChanged (wsV RX5 204 RX5 yX5_versionOf wsX5_versionOf) := goodIn_app (goodIn_of _ (by decide +kernel)) ggX5_isChanged_X5_versionOf
set_option maxRecDepth 20000 in
theorem ggX5_isChanged_X0_endOf : GoodIn wsX5_isChanged wsX0_endOf := goodIn_r _ [31, 32, 33, 46, 47, 48, 49, 50] (by decide +kernel) (by decide +kernel)
set_option maxRecDepth 20000 in
theorem gX5_isChanged_X0_endOf : GoodIn wsX5_isChanged (wsV RX5 119 RX0 yX0_endOf wsX0_endOf) := goodIn_app (goodIn_of _ (by decide +kernel)) ggX5_isChanged_X0_endOf
theorem dX5_isChanged_0 : decode cX5_isChanged 0 = .ok (.aload_n 0, 1) := by decide +kernel
theorem dX5_isChanged_1 : decode cX5_isChanged 1 = .ok (.getfield 19, 3) := by decide +kernel
theorem dX5_isChanged_4 : decode cX5_isChanged 4 = .ok (.iload_n 1, 1) := by decide +kernel
theorem dX5_isChanged_5 : decode cX5_isChanged 5 = .ok (.iload_n 2, 1) := by decide +kernel
theorem dX5_isChanged_6 : decode cX5_isChanged 6 = .ok (.invokevirtual 143, 3) := by decide +kernel
theorem dX5_isChanged_9 : decode cX5_isChanged 9 = .ok (.ifCond .ne 5, 3) := by decide +kernel
theorem dX5_isChanged_12 : decode cX5_isChanged 12 = .ok (.iconst 0, 1) := by decide +kernel
theorem dX5_isChanged_13 : decode cX5_isChanged 13 = .ok (.ireturn, 1) := by decide +kernel
theorem dX5_isChanged_14 : decode cX5_isChanged 14 = .ok (.aload_n 0, 1) := by decide +kernel
theorem dX5_isChanged_15 : decode cX5_isChanged 15 = .ok (.iload_n 1, 1) := by decide +kernel
theorem dX5_isChanged_16 : decode cX5_isChanged 16 = .ok (.iload_n 3, 1) := by decide +kernel
theorem dX5_isChanged_17 : decode cX5_isChanged 17 = .ok (.invokevirtual 204, 3) := by decide +kernel
theorem dX5_isChanged_20 : decode cX5_isChanged 20 = .ok (.istore 5, 2) := by decide +kernel
theorem dX5_isChanged_22 : decode cX5_isChanged 22 = .ok (.aload_n 0, 1) := by decide +kernel
theorem dX5_isChanged_23 : decode cX5_isChanged 23 = .ok (.iload_n 1, 1) := by decide +kernel
theorem dX5_isChanged_24 : decode cX5_isChanged 24 = .ok (.iload 4, 2) := by decide +kernel
theorem dX5_isChanged_26 : decode cX5_isChanged 26 = .ok (.invokevirtual 204, 3) := by decide +kernel
theorem dX5_isChanged_29 : decode cX5_isChanged 29 = .ok (.istore 6, 2) := by decide +kernel
theorem dX5_isChanged_31 : decode cX5_isChanged 31 = .ok (.aload_n 0, 1) := by decide +kernel
theorem dX5_isChanged_32 : decode cX5_isChanged 32 = .ok (.getfield 26, 3) := by decide +kernel
theorem dX5_isChanged_35 : decode cX5_isChanged 35 = .ok (.iload 5, 2) := by decide +kernel
theorem dX5_isChanged_37 : decode cX5_isChanged 37 = .ok (.iconst 0, 1) := by decide +kernel
theorem dX5_isChanged_38 : decode cX5_isChanged 38 = .ok (.invokevirtual 119, 3) := by decide +kernel
theorem dX5_isChanged_41 : decode cX5_isChanged 41 = .ok (.aload_n 0, 1) := by decide +kernel
theorem dX5_isChanged_42 : decode cX5_isChanged 42 = .ok (.getfield 26, 3) := by decide +kernel
theorem dX5_isChanged_45 : decode cX5_isChanged 45 = .ok (.iload 6, 2) := by decide +kernel
theorem dX5_isChanged_47 : decode cX5_isChanged 47 = .ok (.iconst 0, 1) := by decide +kernel
theorem dX5_isChanged_48 : decode cX5_isChanged 48 = .ok (.invokevirtual 119, 3) := by decide +kernel
theorem dX5_isChanged_51 : decode cX5_isChanged 51 = .ok (.if_icmp .ne 26, 3) := by decide +kernel
theorem dX5_isChanged_54 : decode cX5_isChanged 54 = .ok (.aload_n 0, 1) := by decide +kernel
theorem dX5_isChanged_55 : decode cX5_isChanged 55 = .ok (.getfield 26, 3) := by decide +kernel
theorem dX5_isChanged_58 : decode cX5_isChanged 58 = .ok (.iload 5, 2) := by decide +kernel
theorem dX5_isChanged_60 : decode cX5_isChanged 60 = .ok (.iconst 1, 1) := by decide +kernel
theorem dX5_isChanged_61 : decode cX5_isChanged 61 = .ok (.invokevirtual 119, 3) := by decide +kernel
theorem dX5_isChanged_64 : decode cX5_isChanged 64 = .ok (.aload_n 0, 1) := by decide +kernel
theorem dX5_isChanged_65 : decode cX5_isChanged 65 = .ok (.getfield 26, 3) := by decide +kernel
theorem dX5_isChanged_68 : decode cX5_isChanged 68 = .ok (.iload 6, 2) := by decide +kernel
theorem dX5_isChanged_70 : decode cX5_isChanged 70 = .ok (.iconst 1, 1) := by decide +kernel
theorem dX5_isChanged_71 : decode cX5_isChanged 71 = .ok (.invokevirtual 119, 3) := by decide +kernel
theorem dX5_isChanged_74 : decode cX5_isChanged 74 = .ok (.if_icmp .eq 7, 3) := by decide +kernel
theorem dX5_isChanged_77 : decode cX5_isChanged 77 = .ok (.iconst 1, 1) := by decide +kernel
theorem dX5_isChanged_78 : decode cX5_isChanged 78 = .ok (.goto 4, 3) := by decide +kernel
theorem dX5_isChanged_81 : decode cX5_isChanged 81 = .ok (.iconst 0, 1) := by decide +kernel
theorem dX5_isChanged_82 : decode cX5_isChanged 82 = .ok (.ireturn, 1) := by decide +kernel
set_option maxRecDepth 20000 in
theorem ggX5_totalOf_X2_isOfYear : GoodIn wsX5_totalOf wsX2_isOfYear := goodIn_r _ [12, 13, 14, 15, 11, 16, 17, 108, 109, 110, 111, 112, 113, 114] (by decide +kernel) (by decide +kernel)
set_option maxRecDepth 20000 in
theorem gX5_totalOf_X2_isOfYear : GoodIn wsX5_totalOf (wsV RX5 143 RX2 yX2_isOfYear wsX2_isOfYear) := goodIn_app (goodIn_of _ (by decide +kernel)) ggX5_totalOf_X2_isOfYear
set_option maxRecDepth 20000 in
theorem ggX5_totalOf_X1_shareOn : GoodIn wsX5_totalOf wsX1_shareOn := goodIn_r _ [22, 23, 24, 25, 21, 26, 27, 28, 29, 30, 31, 32, 33, 34, 35, 36, 37, 38, 39, 40, 41, 42, 43, 44, 45, 46, 47, 48, 49, 50, 51, 52, 53, 54, 55, 56, 57, 58, 59, 60, 61, 119, 120, 121, 122, 123, 124, 125, 126, 127, 128, 129] (by decide +kernel) (by decide +kernel)
set_option maxRecDepth 20000 in
theorem gX5_totalOf_X1_shareOn : GoodIn wsX5_totalOf (wsV RX5 65 RX1 yX1_shareOn wsX1_shareOn) := goodIn_app (goodIn_of _ (by decide +kernel)) ggX5_totalOf_X1_shareOn
set_option maxRecDepth 20000 in
theorem ggX5_totalOf_X5_isDouble : GoodIn wsX5_totalOf wsX5_isDouble := goodIn_r _ [66, 1, 67, 5, 3, 18, 19, 20, 21, 22, 23, 24, 25, 26, 27, 28, 29, 30, 31, 32, 33, 34, 35, 36, 37, 38, 39, 40, 41, 42, 43, 44, 45, 46, 47, 48, 49, 50, 51, 52, 53, 54, 55, 56, 57, 58, 59, 60, 61, 103, 104, 105, 106, 107, 108, 109, 110, 111, 112, 113, 114, 119, 120, 121, 122, 123, 124, 125, 126, 127, 128, 129] (by decide +kernel) (by decide +kernel)
set_option maxRecDepth 20000 in
theorem gX5_totalOf_X5_isDouble : GoodIn wsX5_totalOf (wsV RX5 102 RX5 yX5_isDouble wsX5_isDouble) := goodIn_app (goodIn_of _ (by decide +kernel)) ggX5_totalOf_X5_isDouble
set_option maxRecDepth 20000 in
theorem ggX5_totalOf_X5_tonsOf : GoodIn wsX5_totalOf wsX5_tonsOf := goodIn_r _ [71, 72, 73, 74, 7, 75, 1, 76, 77, 78, 79, 80, 65, 81, 82, 14, 15, 11, 16, 17, 83, 84, 85, 86, 87, 88, 89, 90, 91, 92, 93, 94, 95, 96, 97, 98, 99, 100, 101, 102, 103, 104, 105, 106, 107, 115, 116, 117, 118, 108, 109, 110, 111, 112, 113, 114, 130, 131, 132, 133, 134] (by decide +kernel) (by decide +kernel)
set_option maxRecDepth 20000 in
theorem gX5_totalOf_X5_tonsOf : GoodIn wsX5_totalOf (wsV RX5 128 RX5 yX5_tonsOf wsX5_tonsOf) := goodIn_app (goodIn_of _ (by decide +kernel)) ggX5_totalOf_X5_tonsOf
theorem dX5_totalOf_0 : decode cX5_totalOf 0 = .ok (.lconst 0, 1) := by decide +kernel
theorem dX5_totalOf_1 : decode cX5_totalOf 1 = .ok (.lstore 5, 2) := by decide +kernel
theorem dX5_totalOf_3 : decode cX5_totalOf 3 = .ok (.iconst 0, 1) := by decide +kernel
theorem dX5_totalOf_4 : decode cX5_totalOf 4 = .ok (.istore 7, 2) := by decide +kernel
theorem dX5_totalOf_6 : decode cX5_totalOf 6 = .ok (.iload 7, 2) := by decide +kernel
theorem dX5_totalOf_8 : decode cX5_totalOf 8 = .ok (.aload_n 0, 1) := by decide +kernel
theorem dX5_totalOf_9 : decode cX5_totalOf 9 = .ok (.getfield 19, 3) := by decide +kernel
theorem dX5_totalOf_12 : decode cX5_totalOf 12 = .ok (.getfield 132, 3) := by decide +kernel
theorem dX5_totalOf_15 : decode cX5_totalOf 15 = .ok (.if_icmp .ge 150, 3) := by decide +kernel
theorem dX5_totalOf_18 : decode cX5_totalOf 18 = .ok (.aload_n 0, 1) := by decide +kernel
theorem dX5_totalOf_19 : decode cX5_totalOf 19 = .ok (.getfield 19, 3) := by decide +kernel
theorem dX5_totalOf_22 : decode cX5_totalOf 22 = .ok (.iload 7, 2) := by decide +kernel
theorem dX5_totalOf_24 : decode cX5_totalOf 24 = .ok (.iload_n 2, 1) := by decide +kernel
theorem dX5_totalOf_25 : decode cX5_totalOf 25 = .ok (.invokevirtual 143, 3) := by decide +kernel
theorem dX5_totalOf_28 : decode cX5_totalOf 28 = .ok (.ifCond .eq 131, 3) := by decide +kernel
theorem dX5_totalOf_31 : decode cX5_totalOf 31 = .ok (.iload_n 1, 1) := by decide +kernel
theorem dX5_totalOf_32 : decode cX5_totalOf 32 = .ok (.bipush (-9), 2) := by decide +kernel
theorem dX5_totalOf_34 : decode cX5_totalOf 34 = .ok (.if_icmp .eq 20, 3) := by decide +kernel
theorem dX5_totalOf_37 : decode cX5_totalOf 37 = .ok (.aload_n 0, 1) := by decide +kernel
theorem dX5_totalOf_38 : decode cX5_totalOf 38 = .ok (.getfield 19, 3) := by decide +kernel
theorem dX5_totalOf_41 : decode cX5_totalOf 41 = .ok (.getfield 86, 3) := by decide +kernel
theorem dX5_totalOf_44 : decode cX5_totalOf 44 = .ok (.iload 7, 2) := by decide +kernel
theorem dX5_totalOf_46 : decode cX5_totalOf 46 = .ok (.iaload, 1) := by decide +kernel
theorem dX5_totalOf_47 : decode cX5_totalOf 47 = .ok (.iload_n 1, 1) := by decide +kernel
theorem dX5_totalOf_48 : decode cX5_totalOf 48 = .ok (.if_icmp .eq 6, 3) := by decide +kernel
theorem dX5_totalOf_51 : decode cX5_totalOf 51 = .ok (.goto 108, 3) := by decide +kernel
theorem dX5_totalOf_54 : decode cX5_totalOf 54 = .ok (.iload_n 3, 1) := by decide +kernel
theorem dX5_totalOf_55 : decode cX5_totalOf 55 = .ok (.bipush (-9), 2) := by decide +kernel
theorem dX5_totalOf_57 : decode cX5_totalOf 57 = .ok (.if_icmp .ne 16, 3) := by decide +kernel
theorem dX5_totalOf_60 : decode cX5_totalOf 60 = .ok (.aload_n 0, 1) := by decide +kernel
theorem dX5_totalOf_61 : decode cX5_totalOf 61 = .ok (.getfield 19, 3) := by decide +kernel
theorem dX5_totalOf_64 : decode cX5_totalOf 64 = .ok (.getfield 96, 3) := by decide +kernel
theorem dX5_totalOf_67 : decode cX5_totalOf 67 = .ok (.iload 7, 2) := by decide +kernel
theorem dX5_totalOf_69 : decode cX5_totalOf 69 = .ok (.iaload, 1) := by decide +kernel
theorem dX5_totalOf_70 : decode cX5_totalOf 70 = .ok (.goto 4, 3) := by decide +kernel
theorem dX5_totalOf_73 : decode cX5_totalOf 73 = .ok (.iload_n 3, 1) := by decide +kernel
theorem dX5_totalOf_74 : decode cX5_totalOf 74 = .ok (.istore 8, 2) := by decide +kernel
theorem dX5_totalOf_76 : decode cX5_totalOf 76 = .ok (.aload_n 0, 1) := by decide +kernel
theorem dX5_totalOf_77 : decode cX5_totalOf 77 = .ok (.getfield 10, 3) := by decide +kernel
theorem dX5_totalOf_80 : decode cX5_totalOf 80 = .ok (.aload_n 0, 1) := by decide +kernel
theorem dX5_totalOf_81 : decode cX5_totalOf 81 = .ok (.getfield 19, 3) := by decide +kernel
theorem dX5_totalOf_84 : decode cX5_totalOf 84 = .ok (.getfield 86, 3) := by decide +kernel
theorem dX5_totalOf_87 : decode cX5_totalOf 87 = .ok (.iload 7, 2) := by decide +kernel
theorem dX5_totalOf_89 : decode cX5_totalOf 89 = .ok (.iaload, 1) := by decide +kernel
theorem dX5_totalOf_90 : decode cX5_totalOf 90 = .ok (.iload 8, 2) := by decide +kernel
theorem dX5_totalOf_92 : decode cX5_totalOf 92 = .ok (.invokevirtual 65, 3) := by decide +kernel
theorem dX5_totalOf_95 : decode cX5_totalOf 95 = .ok (.lstore 9, 2) := by decide +kernel
theorem dX5_totalOf_97 : decode cX5_totalOf 97 = .ok (.lload 9, 2) := by decide +kernel
theorem dX5_totalOf_99 : decode cX5_totalOf 99 = .ok (.lconst 0, 1) := by decide +kernel
theorem dX5_totalOf_100 : decode cX5_totalOf 100 = .ok (.lcmp, 1) := by decide +kernel
theorem dX5_totalOf_101 : decode cX5_totalOf 101 = .ok (.ifCond .eq 58, 3) := by decide +kernel
theorem dX5_totalOf_104 : decode cX5_totalOf 104 = .ok (.aload 4, 2) := by decide +kernel
theorem dX5_totalOf_106 : decode cX5_totalOf 106 = .ok (.getfield 214, 3) := by decide +kernel
theorem dX5_totalOf_109 : decode cX5_totalOf 109 = .ok (.ifCond .eq 17, 3) := by decide +kernel
theorem dX5_totalOf_112 : decode cX5_totalOf 112 = .ok (.aload_n 0, 1) := by decide +kernel
theorem dX5_totalOf_113 : decode cX5_totalOf 113 = .ok (.iload 7, 2) := by decide +kernel
theorem dX5_totalOf_115 : decode cX5_totalOf 115 = .ok (.iload 8, 2) := by decide +kernel
theorem dX5_totalOf_117 : decode cX5_totalOf 117 = .ok (.invokevirtual 102, 3) := by decide +kernel
theorem dX5_totalOf_120 : decode cX5_totalOf 120 = .ok (.ifCond .eq 6, 3) := by decide +kernel
theorem dX5_totalOf_123 : decode cX5_totalOf 123 = .ok (.goto 36, 3) := by decide +kernel
theorem dX5_totalOf_126 : decode cX5_totalOf 126 = .ok (.aload_n 0, 1) := by decide +kernel
theorem dX5_totalOf_127 : decode cX5_totalOf 127 = .ok (.iload 7, 2) := by decide +kernel
theorem dX5_totalOf_129 : decode cX5_totalOf 129 = .ok (.aload 4, 2) := by decide +kernel
theorem dX5_totalOf_131 : decode cX5_totalOf 131 = .ok (.invokevirtual 128, 3) := by decide +kernel
theorem dX5_totalOf_134 : decode cX5_totalOf 134 = .ok (.lstore 11, 2) := by decide +kernel
theorem dX5_totalOf_136 : decode cX5_totalOf 136 = .ok (.lload 11, 2) := by decide +kernel
theorem dX5_totalOf_138 : decode cX5_totalOf 138 = .ok (.ldc2_w 146, 3) := by decide +kernel
theorem dX5_totalOf_141 : decode cX5_totalOf 141 = .ok (.lcmp, 1) := by decide +kernel
theorem dX5_totalOf_142 : decode cX5_totalOf 142 = .ok (.ifCond .ne 7, 3) := by decide +kernel
theorem dX5_totalOf_145 : decode cX5_totalOf 145 = .ok (.ldc2_w 146, 3) := by decide +kernel
theorem dX5_totalOf_148 : decode cX5_totalOf 148 = .ok (.lreturn, 1) := by decide +kernel
theorem dX5_totalOf_149 : decode cX5_totalOf 149 = .ok (.lload 5, 2) := by decide +kernel
theorem dX5_totalOf_151 : decode cX5_totalOf 151 = .ok (.lload 11, 2) := by decide +kernel
theorem dX5_totalOf_153 : decode cX5_totalOf 153 = .ok (.lload 9, 2) := by decide +kernel
theorem dX5_totalOf_155 : decode cX5_totalOf 155 = .ok (.lmul, 1) := by decide +kernel
theorem dX5_totalOf_156 : decode cX5_totalOf 156 = .ok (.ladd, 1) := by decide +kernel
theorem dX5_totalOf_157 : decode cX5_totalOf 157 = .ok (.lstore 5, 2) := by decide +kernel
theorem dX5_totalOf_159 : decode cX5_totalOf 159 = .ok (.iinc 7 1, 3) := by decide +kernel
theorem dX5_totalOf_162 : decode cX5_totalOf 162 = .ok (.goto (-156), 3) := by decide +kernel
theorem dX5_totalOf_165 : decode cX5_totalOf 165 = .ok (.lload 5, 2) := by decide +kernel
theorem dX5_totalOf_167 : decode cX5_totalOf 167 = .ok (.lreturn, 1) := by decide +kernel
theorem dX5_cutPart_0 : decode cX5_cutPart 0 = .ok (.lload 4, 2) := by decide +kernel
theorem dX5_cutPart_2 : decode cX5_cutPart 2 = .ok (.lconst 0, 1) := by decide +kernel
theorem dX5_cutPart_3 : decode cX5_cutPart 3 = .ok (.lcmp, 1) := by decide +kernel
theorem dX5_cutPart_4 : decode cX5_cutPart 4 = .ok (.ifCond .gt 5, 3) := by decide +kernel
theorem dX5_cutPart_7 : decode cX5_cutPart 7 = .ok (.lconst 0, 1) := by decide +kernel
theorem dX5_cutPart_8 : decode cX5_cutPart 8 = .ok (.lreturn, 1) := by decide +kernel
theorem dX5_cutPart_9 : decode cX5_cutPart 9 = .ok (.lload_n 0, 1) := by decide +kernel
theorem dX5_cutPart_10 : decode cX5_cutPart 10 = .ok (.lload 4, 2) := by decide +kernel
theorem dX5_cutPart_12 : decode cX5_cutPart 12 = .ok (.ldiv, 1) := by decide +kernel
theorem dX5_cutPart_13 : decode cX5_cutPart 13 = .ok (.lload_n 2, 1) := by decide +kernel
theorem dX5_cutPart_14 : decode cX5_cutPart 14 = .ok (.lmul, 1) := by decide +kernel
theorem dX5_cutPart_15 : decode cX5_cutPart 15 = .ok (.lload_n 0, 1) := by decide +kernel
theorem dX5_cutPart_16 : decode cX5_cutPart 16 = .ok (.lload 4, 2) := by decide +kernel
theorem dX5_cutPart_18 : decode cX5_cutPart 18 = .ok (.lrem, 1) := by decide +kernel
theorem dX5_cutPart_19 : decode cX5_cutPart 19 = .ok (.lload_n 2, 1) := by decide +kernel
theorem dX5_cutPart_20 : decode cX5_cutPart 20 = .ok (.lmul, 1) := by decide +kernel
theorem dX5_cutPart_21 : decode cX5_cutPart 21 = .ok (.lload 4, 2) := by decide +kernel
theorem dX5_cutPart_23 : decode cX5_cutPart 23 = .ok (.ldiv, 1) := by decide +kernel
theorem dX5_cutPart_24 : decode cX5_cutPart 24 = .ok (.ladd, 1) := by decide +kernel
theorem dX5_cutPart_25 : decode cX5_cutPart 25 = .ok (.lreturn, 1) := by decide +kernel
theorem dX6_init_0 : decode cX6_init 0 = .ok (.aload_n 0, 1) := by decide +kernel
theorem dX6_init_1 : decode cX6_init 1 = .ok (.invokespecial 1, 3) := by decide +kernel
theorem dX6_init_4 : decode cX6_init 4 = .ok (.aload_n 0, 1) := by decide +kernel
theorem dX6_init_5 : decode cX6_init 5 = .ok (.iconst 1, 1) := by decide +kernel
theorem dX6_init_6 : decode cX6_init 6 = .ok (.putfield 7, 3) := by decide +kernel
theorem dX6_init_9 : decode cX6_init 9 = .ok (.aload_n 0, 1) := by decide +kernel
theorem dX6_init_10 : decode cX6_init 10 = .ok (.bipush 100, 2) := by decide +kernel
theorem dX6_init_12 : decode cX6_init 12 = .ok (.newarray .int, 2) := by decide +kernel
theorem dX6_init_14 : decode cX6_init 14 = .ok (.putfield 13, 3) := by decide +kernel
theorem dX6_init_17 : decode cX6_init 17 = .ok (.aload_n 0, 1) := by decide +kernel
theorem dX6_init_18 : decode cX6_init 18 = .ok (.bipush 100, 2) := by decide +kernel
theorem dX6_init_20 : decode cX6_init 20 = .ok (.newarray .int, 2) := by decide +kernel
theorem dX6_init_22 : decode cX6_init 22 = .ok (.putfield 17, 3) := by decide +kernel
theorem dX6_init_25 : decode cX6_init 25 = .ok (.aload_n 0, 1) := by decide +kernel
theorem dX6_init_26 : decode cX6_init 26 = .ok (.bipush 100, 2) := by decide +kernel
theorem dX6_init_28 : decode cX6_init 28 = .ok (.newarray .int, 2) := by decide +kernel
theorem dX6_init_30 : decode cX6_init 30 = .ok (.putfield 20, 3) := by decide +kernel
theorem dX6_init_33 : decode cX6_init 33 = .ok (.aload_n 0, 1) := by decide +kernel
theorem dX6_init_34 : decode cX6_init 34 = .ok (.bipush 100, 2) := by decide +kernel
theorem dX6_init_36 : decode cX6_init 36 = .ok (.newarray .int, 2) := by decide +kernel
theorem dX6_init_38 : decode cX6_init 38 = .ok (.putfield 23, 3) := by decide +kernel
theorem dX6_init_41 : decode cX6_init 41 = .ok (.aload_n 0, 1) := by decide +kernel
theorem dX6_init_42 : decode cX6_init 42 = .ok (.sipush 200, 3) := by decide +kernel
theorem dX6_init_45 : decode cX6_init 45 = .ok (.newarray .int, 2) := by decide +kernel
theorem dX6_init_47 : decode cX6_init 47 = .ok (.putfield 26, 3) := by decide +kernel
theorem dX6_init_50 : decode cX6_init 50 = .ok (.aload_n 0, 1) := by decide +kernel
theorem dX6_init_51 : decode cX6_init 51 = .ok (.sipush 200, 3) := by decide +kernel
theorem dX6_init_54 : decode cX6_init 54 = .ok (.newarray .int, 2) := by decide +kernel
theorem dX6_init_56 : decode cX6_init 56 = .ok (.putfield 29, 3) := by decide +kernel
theorem dX6_init_59 : decode cX6_init 59 = .ok (.aload_n 0, 1) := by decide +kernel
theorem dX6_init_60 : decode cX6_init 60 = .ok (.sipush 200, 3) := by decide +kernel
theorem dX6_init_63 : decode cX6_init 63 = .ok (.newarray .int, 2) := by decide +kernel
theorem dX6_init_65 : decode cX6_init 65 = .ok (.putfield 32, 3) := by decide +kernel
theorem dX6_init_68 : decode cX6_init 68 = .ok (.aload_n 0, 1) := by decide +kernel
theorem dX6_init_69 : decode cX6_init 69 = .ok (.sipush 200, 3) := by decide +kernel
theorem dX6_init_72 : decode cX6_init 72 = .ok (.newarray .int, 2) := by decide +kernel
theorem dX6_init_74 : decode cX6_init 74 = .ok (.putfield 35, 3) := by decide +kernel
theorem dX6_init_77 : decode cX6_init 77 = .ok (.aload_n 0, 1) := by decide +kernel
theorem dX6_init_78 : decode cX6_init 78 = .ok (.sipush 200, 3) := by decide +kernel
theorem dX6_init_81 : decode cX6_init 81 = .ok (.newarray .int, 2) := by decide +kernel
theorem dX6_init_83 : decode cX6_init 83 = .ok (.putfield 38, 3) := by decide +kernel
theorem dX6_init_86 : decode cX6_init 86 = .ok (.aload_n 0, 1) := by decide +kernel
theorem dX6_init_87 : decode cX6_init 87 = .ok (.sipush 200, 3) := by decide +kernel
theorem dX6_init_90 : decode cX6_init 90 = .ok (.newarray .int, 2) := by decide +kernel
theorem dX6_init_92 : decode cX6_init 92 = .ok (.putfield 41, 3) := by decide +kernel
theorem dX6_init_95 : decode cX6_init 95 = .ok (.aload_n 0, 1) := by decide +kernel
theorem dX6_init_96 : decode cX6_init 96 = .ok (.bipush 80, 2) := by decide +kernel
theorem dX6_init_98 : decode cX6_init 98 = .ok (.newarray .int, 2) := by decide +kernel
theorem dX6_init_100 : decode cX6_init 100 = .ok (.putfield 44, 3) := by decide +kernel
theorem dX6_init_103 : decode cX6_init 103 = .ok (.aload_n 0, 1) := by decide +kernel
theorem dX6_init_104 : decode cX6_init 104 = .ok (.bipush 80, 2) := by decide +kernel
theorem dX6_init_106 : decode cX6_init 106 = .ok (.newarray .int, 2) := by decide +kernel
theorem dX6_init_108 : decode cX6_init 108 = .ok (.putfield 47, 3) := by decide +kernel
theorem dX6_init_111 : decode cX6_init 111 = .ok (.aload_n 0, 1) := by decide +kernel
theorem dX6_init_112 : decode cX6_init 112 = .ok (.bipush 80, 2) := by decide +kernel
theorem dX6_init_114 : decode cX6_init 114 = .ok (.newarray .int, 2) := by decide +kernel
theorem dX6_init_116 : decode cX6_init 116 = .ok (.putfield 50, 3) := by decide +kernel
theorem dX6_init_119 : decode cX6_init 119 = .ok (.aload_n 0, 1) := by decide +kernel
theorem dX6_init_120 : decode cX6_init 120 = .ok (.bipush 80, 2) := by decide +kernel
theorem dX6_init_122 : decode cX6_init 122 = .ok (.newarray .int, 2) := by decide +kernel
theorem dX6_init_124 : decode cX6_init 124 = .ok (.putfield 53, 3) := by decide +kernel
theorem dX6_init_127 : decode cX6_init 127 = .ok (.aload_n 0, 1) := by decide +kernel
theorem dX6_init_128 : decode cX6_init 128 = .ok (.sipush 20001, 3) := by decide +kernel
theorem dX6_init_131 : decode cX6_init 131 = .ok (.newarray .int, 2) := by decide +kernel
theorem dX6_init_133 : decode cX6_init 133 = .ok (.putfield 56, 3) := by decide +kernel
theorem dX6_init_136 : decode cX6_init 136 = .ok (.aload_n 0, 1) := by decide +kernel
theorem dX6_init_137 : decode cX6_init 137 = .ok (.sipush 20001, 3) := by decide +kernel
theorem dX6_init_140 : decode cX6_init 140 = .ok (.newarray .int, 2) := by decide +kernel
theorem dX6_init_142 : decode cX6_init 142 = .ok (.putfield 59, 3) := by decide +kernel
theorem dX6_init_145 : decode cX6_init 145 = .ok (.aload_n 0, 1) := by decide +kernel
theorem dX6_init_146 : decode cX6_init 146 = .ok (.bipush 100, 2) := by decide +kernel
theorem dX6_init_148 : decode cX6_init 148 = .ok (.newarray .int, 2) := by decide +kernel
theorem dX6_init_150 : decode cX6_init 150 = .ok (.putfield 62, 3) := by decide +kernel
theorem dX6_init_153 : decode cX6_init 153 = .ok (.aload_n 0, 1) := by decide +kernel
theorem dX6_init_154 : decode cX6_init 154 = .ok (.bipush 10, 2) := by decide +kernel
theorem dX6_init_156 : decode cX6_init 156 = .ok (.newarray .long, 2) := by decide +kernel
theorem dX6_init_158 : decode cX6_init 158 = .ok (.putfield 65, 3) := by decide +kernel
theorem dX6_init_161 : decode cX6_init 161 = .ok (.aload_n 0, 1) := by decide +kernel
theorem dX6_init_162 : decode cX6_init 162 = .ok (.bipush 100, 2) := by decide +kernel
theorem dX6_init_164 : decode cX6_init 164 = .ok (.newarray .boolean, 2) := by decide +kernel
theorem dX6_init_166 : decode cX6_init 166 = .ok (.putfield 69, 3) := by decide +kernel
theorem dX6_init_169 : decode cX6_init 169 = .ok (.aload_n 0, 1) := by decide +kernel
theorem dX6_init_170 : decode cX6_init 170 = .ok (.bipush 10, 2) := by decide +kernel
theorem dX6_init_172 : decode cX6_init 172 = .ok (.newarray .int, 2) := by decide +kernel
theorem dX6_init_174 : decode cX6_init 174 = .ok (.putfield 73, 3) := by decide +kernel
theorem dX6_init_177 : decode cX6_init 177 = .ok (.return_, 1) := by decide +kernel
theorem dX6_in_0 : decode cX6_in 0 = .ok (.lload_n 0, 1) := by decide +kernel
theorem dX6_in_1 : decode cX6_in 1 = .ok (.lload_n 2, 1) := by decide +kernel
theorem dX6_in_2 : decode cX6_in 2 = .ok (.lcmp, 1) := by decide +kernel
theorem dX6_in_3 : decode cX6_in 3 = .ok (.ifCond .lt 14, 3) := by decide +kernel
theorem dX6_in_6 : decode cX6_in 6 = .ok (.lload_n 0, 1) := by decide +kernel
theorem dX6_in_7 : decode cX6_in 7 = .ok (.lload 4, 2) := by decide +kernel
theorem dX6_in_9 : decode cX6_in 9 = .ok (.lcmp, 1) := by decide +kernel
theorem dX6_in_10 : decode cX6_in 10 = .ok (.ifCond .gt 7, 3) := by decide +kernel
theorem dX6_in_13 : decode cX6_in 13 = .ok (.iconst 1, 1) := by decide +kernel
theorem dX6_in_14 : decode cX6_in 14 = .ok (.goto 4, 3) := by decide +kernel
theorem dX6_in_17 : decode cX6_in 17 = .ok (.iconst 0, 1) := by decide +kernel
theorem dX6_in_18 : decode cX6_in 18 = .ok (.ireturn, 1) := by decide +kernel
set_option maxRecDepth 20000 in
theorem ggX6_noUnit_X6_in : GoodIn wsX6_noUnit wsX6_in := goodIn_r _ [5] (by decide +kernel) (by decide +kernel)
set_option maxRecDepth 20000 in
theorem gX6_noUnit_X6_in : GoodIn wsX6_noUnit (va_wsS RX6 79 yX6_in wsX6_in) := goodIn_app (goodIn_of _ (by decide +kernel)) ggX6_noUnit_X6_in
theorem dX6_noUnit_0 : decode cX6_noUnit 0 = .ok (.iload_n 1, 1) := by decide +kernel
theorem dX6_noUnit_1 : decode cX6_noUnit 1 = .ok (.i2l, 1) := by decide +kernel
theorem dX6_noUnit_2 : decode cX6_noUnit 2 = .ok (.lconst 0, 1) := by decide +kernel
theorem dX6_noUnit_3 : decode cX6_noUnit 3 = .ok (.aload_n 0, 1) := by decide +kernel
theorem dX6_noUnit_4 : decode cX6_noUnit 4 = .ok (.getfield 7, 3) := by decide +kernel
theorem dX6_noUnit_7 : decode cX6_noUnit 7 = .ok (.iconst 1, 1) := by decide +kernel
theorem dX6_noUnit_8 : decode cX6_noUnit 8 = .ok (.isub, 1) := by decide +kernel
theorem dX6_noUnit_9 : decode cX6_noUnit 9 = .ok (.i2l, 1) := by decide +kernel
theorem dX6_noUnit_10 : decode cX6_noUnit 10 = .ok (.invokestatic 79, 3) := by decide +kernel
theorem dX6_noUnit_13 : decode cX6_noUnit 13 = .ok (.ifCond .ne 7, 3) := by decide +kernel
theorem dX6_noUnit_16 : decode cX6_noUnit 16 = .ok (.iconst 1, 1) := by decide +kernel
theorem dX6_noUnit_17 : decode cX6_noUnit 17 = .ok (.goto 4, 3) := by decide +kernel
theorem dX6_noUnit_20 : decode cX6_noUnit 20 = .ok (.iconst 0, 1) := by decide +kernel
theorem dX6_noUnit_21 : decode cX6_noUnit 21 = .ok (.ireturn, 1) := by decide +kernel
set_option maxRecDepth 20000 in
theorem ggX6_noDay_X6_in : GoodIn wsX6_noDay wsX6_in := goodIn_r _ [5] (by decide +kernel) (by decide +kernel)
set_option maxRecDepth 20000 in
theorem gX6_noDay_X6_in : GoodIn wsX6_noDay (va_wsS RX6 79 yX6_in wsX6_in) := goodIn_app (goodIn_of _ (by decide +kernel)) ggX6_noDay_X6_in
theorem dX6_noDay_0 : decode cX6_noDay 0 = .ok (.iload_n 0, 1) := by decide +kernel
theorem dX6_noDay_1 : decode cX6_noDay 1 = .ok (.i2l, 1) := by decide +kernel
theorem dX6_noDay_2 : decode cX6_noDay 2 = .ok (.lconst 0, 1) := by decide +kernel
theorem dX6_noDay_3 : decode cX6_noDay 3 = .ok (.ldc2_w 83, 3) := by decide +kernel
theorem dX6_noDay_6 : decode cX6_noDay 6 = .ok (.invokestatic 79, 3) := by decide +kernel
theorem dX6_noDay_9 : decode cX6_noDay 9 = .ok (.ifCond .ne 7, 3) := by decide +kernel
theorem dX6_noDay_12 : decode cX6_noDay 12 = .ok (.iconst 1, 1) := by decide +kernel
theorem dX6_noDay_13 : decode cX6_noDay 13 = .ok (.goto 4, 3) := by decide +kernel
theorem dX6_noDay_16 : decode cX6_noDay 16 = .ok (.iconst 0, 1) := by decide +kernel
theorem dX6_noDay_17 : decode cX6_noDay 17 = .ok (.ireturn, 1) := by decide +kernel
set_option maxRecDepth 20000 in
theorem ggX6_noYear_X6_in : GoodIn wsX6_noYear wsX6_in := goodIn_r _ [5] (by decide +kernel) (by decide +kernel)
set_option maxRecDepth 20000 in
theorem gX6_noYear_X6_in : GoodIn wsX6_noYear (va_wsS RX6 79 yX6_in wsX6_in) := goodIn_app (goodIn_of _ (by decide +kernel)) ggX6_noYear_X6_in
theorem dX6_noYear_0 : decode cX6_noYear 0 = .ok (.iload_n 0, 1) := by decide +kernel
theorem dX6_noYear_1 : decode cX6_noYear 1 = .ok (.i2l, 1) := by decide +kernel
theorem dX6_noYear_2 : decode cX6_noYear 2 = .ok (.lconst 0, 1) := by decide +kernel
theorem dX6_noYear_3 : decode cX6_noYear 3 = .ok (.ldc2_w 85, 3) := by decide +kernel
theorem dX6_noYear_6 : decode cX6_noYear 6 = .ok (.invokestatic 79, 3) := by decide +kernel
theorem dX6_noYear_9 : decode cX6_noYear 9 = .ok (.ifCond .ne 7, 3) := by decide +kernel
theorem dX6_noYear_12 : decode cX6_noYear 12 = .ok (.iconst 1, 1) := by decide +kernel
theorem dX6_noYear_13 : decode cX6_noYear 13 = .ok (.goto 4, 3) := by decide +kernel
theorem dX6_noYear_16 : decode cX6_noYear 16 = .ok (.iconst 0, 1) := by decide +kernel
theorem dX6_noYear_17 : decode cX6_noYear 17 = .ok (.ireturn, 1) := by decide +kernel
set_option maxRecDepth 20000 in
theorem ggX6_noAs_X6_in : GoodIn wsX6_noAs wsX6_in := goodIn_r _ [5] (by decide +kernel) (by decide +kernel)
set_option maxRecDepth 20000 in
theorem gX6_noAs_X6_in : GoodIn wsX6_noAs (va_wsS RX6 79 yX6_in wsX6_in) := goodIn_app (goodIn_of _ (by decide +kernel)) ggX6_noAs_X6_in
theorem dX6_noAs_0 : decode cX6_noAs 0 = .ok (.iload_n 1, 1) := by decide +kernel
theorem dX6_noAs_1 : decode cX6_noAs 1 = .ok (.bipush (-9), 2) := by decide +kernel
theorem dX6_noAs_3 : decode cX6_noAs 3 = .ok (.if_icmp .eq 23, 3) := by decide +kernel
theorem dX6_noAs_6 : decode cX6_noAs 6 = .ok (.iload_n 1, 1) := by decide +kernel
theorem dX6_noAs_7 : decode cX6_noAs 7 = .ok (.i2l, 1) := by decide +kernel
theorem dX6_noAs_8 : decode cX6_noAs 8 = .ok (.lconst 0, 1) := by decide +kernel
theorem dX6_noAs_9 : decode cX6_noAs 9 = .ok (.aload_n 0, 1) := by decide +kernel
theorem dX6_noAs_10 : decode cX6_noAs 10 = .ok (.getfield 87, 3) := by decide +kernel
theorem dX6_noAs_13 : decode cX6_noAs 13 = .ok (.iconst 1, 1) := by decide +kernel
theorem dX6_noAs_14 : decode cX6_noAs 14 = .ok (.isub, 1) := by decide +kernel
theorem dX6_noAs_15 : decode cX6_noAs 15 = .ok (.i2l, 1) := by decide +kernel
theorem dX6_noAs_16 : decode cX6_noAs 16 = .ok (.invokestatic 79, 3) := by decide +kernel
theorem dX6_noAs_19 : decode cX6_noAs 19 = .ok (.ifCond .ne 7, 3) := by decide +kernel
theorem dX6_noAs_22 : decode cX6_noAs 22 = .ok (.iconst 1, 1) := by decide +kernel
theorem dX6_noAs_23 : decode cX6_noAs 23 = .ok (.goto 4, 3) := by decide +kernel
theorem dX6_noAs_26 : decode cX6_noAs 26 = .ok (.iconst 0, 1) := by decide +kernel
theorem dX6_noAs_27 : decode cX6_noAs 27 = .ok (.ireturn, 1) := by decide +kernel
set_option maxRecDepth 20000 in
theorem ggX6_noRow_X6_in : GoodIn wsX6_noRow wsX6_in := goodIn_r _ [5] (by decide +kernel) (by decide +kernel)
set_option maxRecDepth 20000 in
theorem gX6_noRow_X6_in : GoodIn wsX6_noRow (va_wsS RX6 79 yX6_in wsX6_in) := goodIn_app (goodIn_of _ (by decide +kernel)) ggX6_noRow_X6_in
theorem dX6_noRow_0 : decode cX6_noRow 0 = .ok (.iload_n 1, 1) := by decide +kernel
theorem dX6_noRow_1 : decode cX6_noRow 1 = .ok (.i2l, 1) := by decide +kernel
theorem dX6_noRow_2 : decode cX6_noRow 2 = .ok (.lconst 0, 1) := by decide +kernel
theorem dX6_noRow_3 : decode cX6_noRow 3 = .ok (.aload_n 0, 1) := by decide +kernel
theorem dX6_noRow_4 : decode cX6_noRow 4 = .ok (.getfield 90, 3) := by decide +kernel
theorem dX6_noRow_7 : decode cX6_noRow 7 = .ok (.iconst 1, 1) := by decide +kernel
theorem dX6_noRow_8 : decode cX6_noRow 8 = .ok (.isub, 1) := by decide +kernel
theorem dX6_noRow_9 : decode cX6_noRow 9 = .ok (.i2l, 1) := by decide +kernel
theorem dX6_noRow_10 : decode cX6_noRow 10 = .ok (.invokestatic 79, 3) := by decide +kernel
theorem dX6_noRow_13 : decode cX6_noRow 13 = .ok (.ifCond .ne 7, 3) := by decide +kernel
theorem dX6_noRow_16 : decode cX6_noRow 16 = .ok (.iconst 1, 1) := by decide +kernel
theorem dX6_noRow_17 : decode cX6_noRow 17 = .ok (.goto 4, 3) := by decide +kernel
theorem dX6_noRow_20 : decode cX6_noRow 20 = .ok (.iconst 0, 1) := by decide +kernel
theorem dX6_noRow_21 : decode cX6_noRow 21 = .ok (.ireturn, 1) := by decide +kernel
theorem dX6_unit_0 : decode cX6_unit 0 = .ok (.aload_n 0, 1) := by decide +kernel
theorem dX6_unit_1 : decode cX6_unit 1 = .ok (.iconst 0, 1) := by decide +kernel
theorem dX6_unit_2 : decode cX6_unit 2 = .ok (.putfield 76, 3) := by decide +kernel
theorem dX6_unit_5 : decode cX6_unit 5 = .ok (.aload_n 0, 1) := by decide +kernel
theorem dX6_unit_6 : decode cX6_unit 6 = .ok (.getfield 7, 3) := by decide +kernel
theorem dX6_unit_9 : decode cX6_unit 9 = .ok (.bipush 10, 2) := by decide +kernel
theorem dX6_unit_11 : decode cX6_unit 11 = .ok (.if_icmp .ne 6, 3) := by decide +kernel
theorem dX6_unit_14 : decode cX6_unit 14 = .ok (.bipush (-4), 2) := by decide +kernel
theorem dX6_unit_16 : decode cX6_unit 16 = .ok (.ireturn, 1) := by decide +kernel
theorem dX6_unit_17 : decode cX6_unit 17 = .ok (.aload_n 0, 1) := by decide +kernel
theorem dX6_unit_18 : decode cX6_unit 18 = .ok (.dup, 1) := by decide +kernel
theorem dX6_unit_19 : decode cX6_unit 19 = .ok (.getfield 7, 3) := by decide +kernel
theorem dX6_unit_22 : decode cX6_unit 22 = .ok (.iconst 1, 1) := by decide +kernel
theorem dX6_unit_23 : decode cX6_unit 23 = .ok (.iadd, 1) := by decide +kernel
theorem dX6_unit_24 : decode cX6_unit 24 = .ok (.putfield 7, 3) := by decide +kernel
theorem dX6_unit_27 : decode cX6_unit 27 = .ok (.aload_n 0, 1) := by decide +kernel
theorem dX6_unit_28 : decode cX6_unit 28 = .ok (.getfield 7, 3) := by decide +kernel
theorem dX6_unit_31 : decode cX6_unit 31 = .ok (.iconst 1, 1) := by decide +kernel
theorem dX6_unit_32 : decode cX6_unit 32 = .ok (.isub, 1) := by decide +kernel
theorem dX6_unit_33 : decode cX6_unit 33 = .ok (.ireturn, 1) := by decide +kernel
theorem dX6_lay_0 : decode cX6_lay 0 = .ok (.iconst 0, 1) := by decide +kernel
theorem dX6_lay_1 : decode cX6_lay 1 = .ok (.istore_n 2, 1) := by decide +kernel
theorem dX6_lay_2 : decode cX6_lay 2 = .ok (.iload_n 2, 1) := by decide +kernel
theorem dX6_lay_3 : decode cX6_lay 3 = .ok (.bipush 100, 2) := by decide +kernel
theorem dX6_lay_5 : decode cX6_lay 5 = .ok (.if_icmp .ge 27, 3) := by decide +kernel
theorem dX6_lay_8 : decode cX6_lay 8 = .ok (.aload_n 0, 1) := by decide +kernel
theorem dX6_lay_9 : decode cX6_lay 9 = .ok (.getfield 62, 3) := by decide +kernel
theorem dX6_lay_12 : decode cX6_lay 12 = .ok (.iload_n 2, 1) := by decide +kernel
theorem dX6_lay_13 : decode cX6_lay 13 = .ok (.iconst 0, 1) := by decide +kernel
theorem dX6_lay_14 : decode cX6_lay 14 = .ok (.iastore, 1) := by decide +kernel
theorem dX6_lay_15 : decode cX6_lay 15 = .ok (.aload_n 0, 1) := by decide +kernel
theorem dX6_lay_16 : decode cX6_lay 16 = .ok (.getfield 73, 3) := by decide +kernel
theorem dX6_lay_19 : decode cX6_lay 19 = .ok (.iload_n 2, 1) := by decide +kernel
theorem dX6_lay_20 : decode cX6_lay 20 = .ok (.bipush 10, 2) := by decide +kernel
theorem dX6_lay_22 : decode cX6_lay 22 = .ok (.idiv, 1) := by decide +kernel
theorem dX6_lay_23 : decode cX6_lay 23 = .ok (.bipush (-9), 2) := by decide +kernel
theorem dX6_lay_25 : decode cX6_lay 25 = .ok (.iastore, 1) := by decide +kernel
theorem dX6_lay_26 : decode cX6_lay 26 = .ok (.iinc 2 1, 3) := by decide +kernel
theorem dX6_lay_29 : decode cX6_lay 29 = .ok (.goto (-27), 3) := by decide +kernel
theorem dX6_lay_32 : decode cX6_lay 32 = .ok (.iconst 0, 1) := by decide +kernel
theorem dX6_lay_33 : decode cX6_lay 33 = .ok (.istore_n 2, 1) := by decide +kernel
theorem dX6_lay_34 : decode cX6_lay 34 = .ok (.iload_n 2, 1) := by decide +kernel
theorem dX6_lay_35 : decode cX6_lay 35 = .ok (.bipush 100, 2) := by decide +kernel
theorem dX6_lay_37 : decode cX6_lay 37 = .ok (.if_icmp .ge 16, 3) := by decide +kernel
theorem dX6_lay_40 : decode cX6_lay 40 = .ok (.aload_n 0, 1) := by decide +kernel
theorem dX6_lay_41 : decode cX6_lay 41 = .ok (.getfield 69, 3) := by decide +kernel
theorem dX6_lay_44 : decode cX6_lay 44 = .ok (.iload_n 2, 1) := by decide +kernel
theorem dX6_lay_45 : decode cX6_lay 45 = .ok (.iconst 0, 1) := by decide +kernel
theorem dX6_lay_46 : decode cX6_lay 46 = .ok (.bastore, 1) := by decide +kernel
theorem dX6_lay_47 : decode cX6_lay 47 = .ok (.iinc 2 1, 3) := by decide +kernel
theorem dX6_lay_50 : decode cX6_lay 50 = .ok (.goto (-16), 3) := by decide +kernel
theorem dX6_lay_53 : decode cX6_lay 53 = .ok (.iconst 0, 1) := by decide +kernel
theorem dX6_lay_54 : decode cX6_lay 54 = .ok (.istore_n 2, 1) := by decide +kernel
theorem dX6_lay_55 : decode cX6_lay 55 = .ok (.iload_n 2, 1) := by decide +kernel
theorem dX6_lay_56 : decode cX6_lay 56 = .ok (.aload_n 0, 1) := by decide +kernel
theorem dX6_lay_57 : decode cX6_lay 57 = .ok (.getfield 93, 3) := by decide +kernel
theorem dX6_lay_60 : decode cX6_lay 60 = .ok (.if_icmp .ge 159, 3) := by decide +kernel
theorem dX6_lay_63 : decode cX6_lay 63 = .ok (.bipush 10, 2) := by decide +kernel
theorem dX6_lay_65 : decode cX6_lay 65 = .ok (.aload_n 0, 1) := by decide +kernel
theorem dX6_lay_66 : decode cX6_lay 66 = .ok (.getfield 13, 3) := by decide +kernel
theorem dX6_lay_69 : decode cX6_lay 69 = .ok (.iload_n 2, 1) := by decide +kernel
theorem dX6_lay_70 : decode cX6_lay 70 = .ok (.iaload, 1) := by decide +kernel
theorem dX6_lay_71 : decode cX6_lay 71 = .ok (.imul, 1) := by decide +kernel
theorem dX6_lay_72 : decode cX6_lay 72 = .ok (.aload_n 0, 1) := by decide +kernel
theorem dX6_lay_73 : decode cX6_lay 73 = .ok (.getfield 17, 3) := by decide +kernel
theorem dX6_lay_76 : decode cX6_lay 76 = .ok (.iload_n 2, 1) := by decide +kernel
theorem dX6_lay_77 : decode cX6_lay 77 = .ok (.iaload, 1) := by decide +kernel
theorem dX6_lay_78 : decode cX6_lay 78 = .ok (.iadd, 1) := by decide +kernel
theorem dX6_lay_79 : decode cX6_lay 79 = .ok (.istore_n 3, 1) := by decide +kernel
theorem dX6_lay_80 : decode cX6_lay 80 = .ok (.bipush (-9), 2) := by decide +kernel
theorem dX6_lay_82 : decode cX6_lay 82 = .ok (.istore 4, 2) := by decide +kernel
theorem dX6_lay_84 : decode cX6_lay 84 = .ok (.aload_n 0, 1) := by decide +kernel
theorem dX6_lay_85 : decode cX6_lay 85 = .ok (.getfield 69, 3) := by decide +kernel
theorem dX6_lay_88 : decode cX6_lay 88 = .ok (.iload_n 3, 1) := by decide +kernel
theorem dX6_lay_89 : decode cX6_lay 89 = .ok (.baload, 1) := by decide +kernel
theorem dX6_lay_90 : decode cX6_lay 90 = .ok (.ifCond .ne 123, 3) := by decide +kernel
theorem dX6_lay_93 : decode cX6_lay 93 = .ok (.iload_n 2, 1) := by decide +kernel
theorem dX6_lay_94 : decode cX6_lay 94 = .ok (.istore 5, 2) := by decide +kernel
theorem dX6_lay_96 : decode cX6_lay 96 = .ok (.iload 5, 2) := by decide +kernel
theorem dX6_lay_98 : decode cX6_lay 98 = .ok (.aload_n 0, 1) := by decide +kernel
theorem dX6_lay_99 : decode cX6_lay 99 = .ok (.getfield 93, 3) := by decide +kernel
theorem dX6_lay_102 : decode cX6_lay 102 = .ok (.if_icmp .ge 80, 3) := by decide +kernel
theorem dX6_lay_105 : decode cX6_lay 105 = .ok (.aload_n 0, 1) := by decide +kernel
theorem dX6_lay_106 : decode cX6_lay 106 = .ok (.getfield 13, 3) := by decide +kernel
theorem dX6_lay_109 : decode cX6_lay 109 = .ok (.iload 5, 2) := by decide +kernel
theorem dX6_lay_111 : decode cX6_lay 111 = .ok (.iaload, 1) := by decide +kernel
theorem dX6_lay_112 : decode cX6_lay 112 = .ok (.aload_n 0, 1) := by decide +kernel
theorem dX6_lay_113 : decode cX6_lay 113 = .ok (.getfield 13, 3) := by decide +kernel
theorem dX6_lay_116 : decode cX6_lay 116 = .ok (.iload_n 2, 1) := by decide +kernel
theorem dX6_lay_117 : decode cX6_lay 117 = .ok (.iaload, 1) := by decide +kernel
theorem dX6_lay_118 : decode cX6_lay 118 = .ok (.if_icmp .ne 58, 3) := by decide +kernel
theorem dX6_lay_121 : decode cX6_lay 121 = .ok (.aload_n 0, 1) := by decide +kernel
theorem dX6_lay_122 : decode cX6_lay 122 = .ok (.getfield 17, 3) := by decide +kernel
theorem dX6_lay_125 : decode cX6_lay 125 = .ok (.iload 5, 2) := by decide +kernel
theorem dX6_lay_127 : decode cX6_lay 127 = .ok (.iaload, 1) := by decide +kernel
theorem dX6_lay_128 : decode cX6_lay 128 = .ok (.aload_n 0, 1) := by decide +kernel
theorem dX6_lay_129 : decode cX6_lay 129 = .ok (.getfield 17, 3) := by decide +kernel
theorem dX6_lay_132 : decode cX6_lay 132 = .ok (.iload_n 2, 1) := by decide +kernel
theorem dX6_lay_133 : decode cX6_lay 133 = .ok (.iaload, 1) := by decide +kernel
theorem dX6_lay_134 : decode cX6_lay 134 = .ok (.if_icmp .ne 42, 3) := by decide +kernel
theorem dX6_lay_137 : decode cX6_lay 137 = .ok (.aload_n 0, 1) := by decide +kernel
theorem dX6_lay_138 : decode cX6_lay 138 = .ok (.getfield 23, 3) := by decide +kernel
theorem dX6_lay_141 : decode cX6_lay 141 = .ok (.iload 5, 2) := by decide +kernel
theorem dX6_lay_143 : decode cX6_lay 143 = .ok (.iaload, 1) := by decide +kernel
theorem dX6_lay_144 : decode cX6_lay 144 = .ok (.iload_n 1, 1) := by decide +kernel
theorem dX6_lay_145 : decode cX6_lay 145 = .ok (.if_icmp .gt 31, 3) := by decide +kernel
theorem dX6_lay_148 : decode cX6_lay 148 = .ok (.iload 4, 2) := by decide +kernel
theorem dX6_lay_150 : decode cX6_lay 150 = .ok (.bipush (-9), 2) := by decide +kernel
theorem dX6_lay_152 : decode cX6_lay 152 = .ok (.if_icmp .eq 20, 3) := by decide +kernel
theorem dX6_lay_155 : decode cX6_lay 155 = .ok (.aload_n 0, 1) := by decide +kernel
theorem dX6_lay_156 : decode cX6_lay 156 = .ok (.getfield 23, 3) := by decide +kernel
theorem dX6_lay_159 : decode cX6_lay 159 = .ok (.iload 5, 2) := by decide +kernel
theorem dX6_lay_161 : decode cX6_lay 161 = .ok (.iaload, 1) := by decide +kernel
theorem dX6_lay_162 : decode cX6_lay 162 = .ok (.aload_n 0, 1) := by decide +kernel
theorem dX6_lay_163 : decode cX6_lay 163 = .ok (.getfield 23, 3) := by decide +kernel
theorem dX6_lay_166 : decode cX6_lay 166 = .ok (.iload 4, 2) := by decide +kernel
theorem dX6_lay_168 : decode cX6_lay 168 = .ok (.iaload, 1) := by decide +kernel
theorem dX6_lay_169 : decode cX6_lay 169 = .ok (.if_icmp .le 7, 3) := by decide +kernel
theorem dX6_lay_172 : decode cX6_lay 172 = .ok (.iload 5, 2) := by decide +kernel
theorem dX6_lay_174 : decode cX6_lay 174 = .ok (.istore 4, 2) := by decide +kernel
theorem dX6_lay_176 : decode cX6_lay 176 = .ok (.iinc 5 1, 3) := by decide +kernel
theorem dX6_lay_179 : decode cX6_lay 179 = .ok (.goto (-83), 3) := by decide +kernel
theorem dX6_lay_182 : decode cX6_lay 182 = .ok (.aload_n 0, 1) := by decide +kernel
theorem dX6_lay_183 : decode cX6_lay 183 = .ok (.getfield 62, 3) := by decide +kernel
theorem dX6_lay_186 : decode cX6_lay 186 = .ok (.iload_n 3, 1) := by decide +kernel
theorem dX6_lay_187 : decode cX6_lay 187 = .ok (.iload 4, 2) := by decide +kernel
theorem dX6_lay_189 : decode cX6_lay 189 = .ok (.bipush (-9), 2) := by decide +kernel
theorem dX6_lay_191 : decode cX6_lay 191 = .ok (.if_icmp .ne 7, 3) := by decide +kernel
theorem dX6_lay_194 : decode cX6_lay 194 = .ok (.iconst 0, 1) := by decide +kernel
theorem dX6_lay_195 : decode cX6_lay 195 = .ok (.goto 10, 3) := by decide +kernel
theorem dX6_lay_198 : decode cX6_lay 198 = .ok (.aload_n 0, 1) := by decide +kernel
theorem dX6_lay_199 : decode cX6_lay 199 = .ok (.getfield 20, 3) := by decide +kernel
theorem dX6_lay_202 : decode cX6_lay 202 = .ok (.iload 4, 2) := by decide +kernel
theorem dX6_lay_204 : decode cX6_lay 204 = .ok (.iaload, 1) := by decide +kernel
end
section
theorem dX6_lay_205 : decode cX6_lay 205 = .ok (.iastore, 1) := by decide +kernel
theorem dX6_lay_206 : decode cX6_lay 206 = .ok (.aload_n 0, 1) := by decide +kernel
theorem dX6_lay_207 : decode cX6_lay 207 = .ok (.getfield 69, 3) := by decide +kernel
theorem dX6_lay_210 : decode cX6_lay 210 = .ok (.iload_n 3, 1) := by decide +kernel
theorem dX6_lay_211 : decode cX6_lay 211 = .ok (.iconst 1, 1) := by decide +kernel
theorem dX6_lay_212 : decode cX6_lay 212 = .ok (.bastore, 1) := by decide +kernel
theorem dX6_lay_213 : decode cX6_lay 213 = .ok (.iinc 2 1, 3) := by decide +kernel
theorem dX6_lay_216 : decode cX6_lay 216 = .ok (.goto (-161), 3) := by decide +kernel
theorem dX6_lay_219 : decode cX6_lay 219 = .ok (.return_, 1) := by decide +kernel
set_option maxRecDepth 20000 in
theorem ggX6_shares_X6_lay : GoodIn wsX6_shares wsX6_lay := goodIn_r _ [10, 4, 11, 12, 13, 14, 15, 16, 17, 18, 19, 20, 21, 22, 23, 24, 25, 26, 27, 28, 29, 30, 31, 32, 33, 34, 35, 36, 37, 38, 39, 40, 41, 42, 43] (by decide +kernel) (by decide +kernel)
set_option maxRecDepth 20000 in
theorem gX6_shares_X6_lay : GoodIn wsX6_shares (wsV RX6 96 RX6 yX6_lay wsX6_lay) := goodIn_app (goodIn_of _ (by decide +kernel)) ggX6_shares_X6_lay
theorem dX6_shares_0 : decode cX6_shares 0 = .ok (.aload_n 0, 1) := by decide +kernel
theorem dX6_shares_1 : decode cX6_shares 1 = .ok (.iload_n 1, 1) := by decide +kernel
theorem dX6_shares_2 : decode cX6_shares 2 = .ok (.invokevirtual 96, 3) := by decide +kernel
theorem dX6_shares_5 : decode cX6_shares 5 = .ok (.iconst 0, 1) := by decide +kernel
theorem dX6_shares_6 : decode cX6_shares 6 = .ok (.istore_n 2, 1) := by decide +kernel
theorem dX6_shares_7 : decode cX6_shares 7 = .ok (.iload_n 2, 1) := by decide +kernel
theorem dX6_shares_8 : decode cX6_shares 8 = .ok (.bipush 10, 2) := by decide +kernel
theorem dX6_shares_10 : decode cX6_shares 10 = .ok (.if_icmp .ge 147, 3) := by decide +kernel
theorem dX6_shares_13 : decode cX6_shares 13 = .ok (.aload_n 0, 1) := by decide +kernel
theorem dX6_shares_14 : decode cX6_shares 14 = .ok (.getfield 65, 3) := by decide +kernel
theorem dX6_shares_17 : decode cX6_shares 17 = .ok (.iload_n 2, 1) := by decide +kernel
theorem dX6_shares_18 : decode cX6_shares 18 = .ok (.iload_n 2, 1) := by decide +kernel
theorem dX6_shares_19 : decode cX6_shares 19 = .ok (.ifCond .ne 9, 3) := by decide +kernel
theorem dX6_shares_22 : decode cX6_shares 22 = .ok (.ldc2_w 100, 3) := by decide +kernel
theorem dX6_shares_25 : decode cX6_shares 25 = .ok (.goto 14, 3) := by decide +kernel
theorem dX6_shares_28 : decode cX6_shares 28 = .ok (.ldc2_w 102, 3) := by decide +kernel
theorem dX6_shares_31 : decode cX6_shares 31 = .ok (.aload_n 0, 1) := by decide +kernel
theorem dX6_shares_32 : decode cX6_shares 32 = .ok (.getfield 62, 3) := by decide +kernel
theorem dX6_shares_35 : decode cX6_shares 35 = .ok (.iload_n 2, 1) := by decide +kernel
theorem dX6_shares_36 : decode cX6_shares 36 = .ok (.iaload, 1) := by decide +kernel
theorem dX6_shares_37 : decode cX6_shares 37 = .ok (.i2l, 1) := by decide +kernel
theorem dX6_shares_38 : decode cX6_shares 38 = .ok (.lmul, 1) := by decide +kernel
theorem dX6_shares_39 : decode cX6_shares 39 = .ok (.lastore, 1) := by decide +kernel
theorem dX6_shares_40 : decode cX6_shares 40 = .ok (.iconst 1, 1) := by decide +kernel
theorem dX6_shares_41 : decode cX6_shares 41 = .ok (.istore_n 3, 1) := by decide +kernel
theorem dX6_shares_42 : decode cX6_shares 42 = .ok (.iload_n 3, 1) := by decide +kernel
theorem dX6_shares_43 : decode cX6_shares 43 = .ok (.bipush 10, 2) := by decide +kernel
theorem dX6_shares_45 : decode cX6_shares 45 = .ok (.if_icmp .ge 106, 3) := by decide +kernel
theorem dX6_shares_48 : decode cX6_shares 48 = .ok (.iload_n 2, 1) := by decide +kernel
theorem dX6_shares_49 : decode cX6_shares 49 = .ok (.ifCond .le 102, 3) := by decide +kernel
theorem dX6_shares_52 : decode cX6_shares 52 = .ok (.aload_n 0, 1) := by decide +kernel
theorem dX6_shares_53 : decode cX6_shares 53 = .ok (.getfield 65, 3) := by decide +kernel
theorem dX6_shares_56 : decode cX6_shares 56 = .ok (.iload_n 2, 1) := by decide +kernel
theorem dX6_shares_57 : decode cX6_shares 57 = .ok (.dup2, 1) := by decide +kernel
theorem dX6_shares_58 : decode cX6_shares 58 = .ok (.laload, 1) := by decide +kernel
theorem dX6_shares_59 : decode cX6_shares 59 = .ok (.ldc2_w 104, 3) := by decide +kernel
theorem dX6_shares_62 : decode cX6_shares 62 = .ok (.aload_n 0, 1) := by decide +kernel
theorem dX6_shares_63 : decode cX6_shares 63 = .ok (.getfield 62, 3) := by decide +kernel
theorem dX6_shares_66 : decode cX6_shares 66 = .ok (.iload_n 3, 1) := by decide +kernel
theorem dX6_shares_67 : decode cX6_shares 67 = .ok (.iaload, 1) := by decide +kernel
theorem dX6_shares_68 : decode cX6_shares 68 = .ok (.i2l, 1) := by decide +kernel
theorem dX6_shares_69 : decode cX6_shares 69 = .ok (.lmul, 1) := by decide +kernel
theorem dX6_shares_70 : decode cX6_shares 70 = .ok (.aload_n 0, 1) := by decide +kernel
theorem dX6_shares_71 : decode cX6_shares 71 = .ok (.getfield 62, 3) := by decide +kernel
theorem dX6_shares_74 : decode cX6_shares 74 = .ok (.bipush 10, 2) := by decide +kernel
theorem dX6_shares_76 : decode cX6_shares 76 = .ok (.iload_n 3, 1) := by decide +kernel
theorem dX6_shares_77 : decode cX6_shares 77 = .ok (.imul, 1) := by decide +kernel
theorem dX6_shares_78 : decode cX6_shares 78 = .ok (.iload_n 2, 1) := by decide +kernel
theorem dX6_shares_79 : decode cX6_shares 79 = .ok (.iadd, 1) := by decide +kernel
theorem dX6_shares_80 : decode cX6_shares 80 = .ok (.iaload, 1) := by decide +kernel
theorem dX6_shares_81 : decode cX6_shares 81 = .ok (.i2l, 1) := by decide +kernel
theorem dX6_shares_82 : decode cX6_shares 82 = .ok (.lmul, 1) := by decide +kernel
theorem dX6_shares_83 : decode cX6_shares 83 = .ok (.ladd, 1) := by decide +kernel
theorem dX6_shares_84 : decode cX6_shares 84 = .ok (.lastore, 1) := by decide +kernel
theorem dX6_shares_85 : decode cX6_shares 85 = .ok (.iconst 1, 1) := by decide +kernel
theorem dX6_shares_86 : decode cX6_shares 86 = .ok (.istore 4, 2) := by decide +kernel
theorem dX6_shares_88 : decode cX6_shares 88 = .ok (.iload 4, 2) := by decide +kernel
theorem dX6_shares_90 : decode cX6_shares 90 = .ok (.bipush 10, 2) := by decide +kernel
theorem dX6_shares_92 : decode cX6_shares 92 = .ok (.if_icmp .ge 53, 3) := by decide +kernel
theorem dX6_shares_95 : decode cX6_shares 95 = .ok (.aload_n 0, 1) := by decide +kernel
theorem dX6_shares_96 : decode cX6_shares 96 = .ok (.getfield 65, 3) := by decide +kernel
theorem dX6_shares_99 : decode cX6_shares 99 = .ok (.iload_n 2, 1) := by decide +kernel
theorem dX6_shares_100 : decode cX6_shares 100 = .ok (.dup2, 1) := by decide +kernel
theorem dX6_shares_101 : decode cX6_shares 101 = .ok (.laload, 1) := by decide +kernel
theorem dX6_shares_102 : decode cX6_shares 102 = .ok (.aload_n 0, 1) := by decide +kernel
theorem dX6_shares_103 : decode cX6_shares 103 = .ok (.getfield 62, 3) := by decide +kernel
theorem dX6_shares_106 : decode cX6_shares 106 = .ok (.iload_n 3, 1) := by decide +kernel
theorem dX6_shares_107 : decode cX6_shares 107 = .ok (.iaload, 1) := by decide +kernel
theorem dX6_shares_108 : decode cX6_shares 108 = .ok (.i2l, 1) := by decide +kernel
theorem dX6_shares_109 : decode cX6_shares 109 = .ok (.aload_n 0, 1) := by decide +kernel
theorem dX6_shares_110 : decode cX6_shares 110 = .ok (.getfield 62, 3) := by decide +kernel
theorem dX6_shares_113 : decode cX6_shares 113 = .ok (.bipush 10, 2) := by decide +kernel
theorem dX6_shares_115 : decode cX6_shares 115 = .ok (.iload_n 3, 1) := by decide +kernel
theorem dX6_shares_116 : decode cX6_shares 116 = .ok (.imul, 1) := by decide +kernel
theorem dX6_shares_117 : decode cX6_shares 117 = .ok (.iload 4, 2) := by decide +kernel
theorem dX6_shares_119 : decode cX6_shares 119 = .ok (.iadd, 1) := by decide +kernel
theorem dX6_shares_120 : decode cX6_shares 120 = .ok (.iaload, 1) := by decide +kernel
theorem dX6_shares_121 : decode cX6_shares 121 = .ok (.i2l, 1) := by decide +kernel
theorem dX6_shares_122 : decode cX6_shares 122 = .ok (.lmul, 1) := by decide +kernel
theorem dX6_shares_123 : decode cX6_shares 123 = .ok (.aload_n 0, 1) := by decide +kernel
theorem dX6_shares_124 : decode cX6_shares 124 = .ok (.getfield 62, 3) := by decide +kernel
theorem dX6_shares_127 : decode cX6_shares 127 = .ok (.bipush 10, 2) := by decide +kernel
theorem dX6_shares_129 : decode cX6_shares 129 = .ok (.iload 4, 2) := by decide +kernel
theorem dX6_shares_131 : decode cX6_shares 131 = .ok (.imul, 1) := by decide +kernel
theorem dX6_shares_132 : decode cX6_shares 132 = .ok (.iload_n 2, 1) := by decide +kernel
theorem dX6_shares_133 : decode cX6_shares 133 = .ok (.iadd, 1) := by decide +kernel
theorem dX6_shares_134 : decode cX6_shares 134 = .ok (.iaload, 1) := by decide +kernel
theorem dX6_shares_135 : decode cX6_shares 135 = .ok (.i2l, 1) := by decide +kernel
theorem dX6_shares_136 : decode cX6_shares 136 = .ok (.lmul, 1) := by decide +kernel
theorem dX6_shares_137 : decode cX6_shares 137 = .ok (.ladd, 1) := by decide +kernel
theorem dX6_shares_138 : decode cX6_shares 138 = .ok (.lastore, 1) := by decide +kernel
theorem dX6_shares_139 : decode cX6_shares 139 = .ok (.iinc 4 1, 3) := by decide +kernel
theorem dX6_shares_142 : decode cX6_shares 142 = .ok (.goto (-54), 3) := by decide +kernel
theorem dX6_shares_145 : decode cX6_shares 145 = .ok (.iinc 3 1, 3) := by decide +kernel
theorem dX6_shares_148 : decode cX6_shares 148 = .ok (.goto (-106), 3) := by decide +kernel
theorem dX6_shares_151 : decode cX6_shares 151 = .ok (.iinc 2 1, 3) := by decide +kernel
theorem dX6_shares_154 : decode cX6_shares 154 = .ok (.goto (-147), 3) := by decide +kernel
theorem dX6_shares_157 : decode cX6_shares 157 = .ok (.return_, 1) := by decide +kernel
theorem dX6_mayHold_0 : decode cX6_mayHold 0 = .ok (.iconst 0, 1) := by decide +kernel
theorem dX6_mayHold_1 : decode cX6_mayHold 1 = .ok (.istore_n 3, 1) := by decide +kernel
theorem dX6_mayHold_2 : decode cX6_mayHold 2 = .ok (.iload_n 3, 1) := by decide +kernel
theorem dX6_mayHold_3 : decode cX6_mayHold 3 = .ok (.bipush 100, 2) := by decide +kernel
theorem dX6_mayHold_5 : decode cX6_mayHold 5 = .ok (.if_icmp .ge 30, 3) := by decide +kernel
theorem dX6_mayHold_8 : decode cX6_mayHold 8 = .ok (.aload_n 0, 1) := by decide +kernel
theorem dX6_mayHold_9 : decode cX6_mayHold 9 = .ok (.getfield 69, 3) := by decide +kernel
theorem dX6_mayHold_12 : decode cX6_mayHold 12 = .ok (.iload_n 3, 1) := by decide +kernel
theorem dX6_mayHold_13 : decode cX6_mayHold 13 = .ok (.iload_n 3, 1) := by decide +kernel
theorem dX6_mayHold_14 : decode cX6_mayHold 14 = .ok (.bipush 10, 2) := by decide +kernel
theorem dX6_mayHold_16 : decode cX6_mayHold 16 = .ok (.iload_n 1, 1) := by decide +kernel
theorem dX6_mayHold_17 : decode cX6_mayHold 17 = .ok (.imul, 1) := by decide +kernel
theorem dX6_mayHold_18 : decode cX6_mayHold 18 = .ok (.iload_n 2, 1) := by decide +kernel
theorem dX6_mayHold_19 : decode cX6_mayHold 19 = .ok (.iadd, 1) := by decide +kernel
theorem dX6_mayHold_20 : decode cX6_mayHold 20 = .ok (.if_icmp .ne 7, 3) := by decide +kernel
theorem dX6_mayHold_23 : decode cX6_mayHold 23 = .ok (.iconst 1, 1) := by decide +kernel
theorem dX6_mayHold_24 : decode cX6_mayHold 24 = .ok (.goto 4, 3) := by decide +kernel
theorem dX6_mayHold_27 : decode cX6_mayHold 27 = .ok (.iconst 0, 1) := by decide +kernel
theorem dX6_mayHold_28 : decode cX6_mayHold 28 = .ok (.bastore, 1) := by decide +kernel
theorem dX6_mayHold_29 : decode cX6_mayHold 29 = .ok (.iinc 3 1, 3) := by decide +kernel
theorem dX6_mayHold_32 : decode cX6_mayHold 32 = .ok (.goto (-30), 3) := by decide +kernel
theorem dX6_mayHold_35 : decode cX6_mayHold 35 = .ok (.iconst 0, 1) := by decide +kernel
theorem dX6_mayHold_36 : decode cX6_mayHold 36 = .ok (.istore_n 3, 1) := by decide +kernel
theorem dX6_mayHold_37 : decode cX6_mayHold 37 = .ok (.iload_n 3, 1) := by decide +kernel
theorem dX6_mayHold_38 : decode cX6_mayHold 38 = .ok (.aload_n 0, 1) := by decide +kernel
theorem dX6_mayHold_39 : decode cX6_mayHold 39 = .ok (.getfield 93, 3) := by decide +kernel
theorem dX6_mayHold_42 : decode cX6_mayHold 42 = .ok (.if_icmp .ge 47, 3) := by decide +kernel
theorem dX6_mayHold_45 : decode cX6_mayHold 45 = .ok (.aload_n 0, 1) := by decide +kernel
theorem dX6_mayHold_46 : decode cX6_mayHold 46 = .ok (.getfield 69, 3) := by decide +kernel
theorem dX6_mayHold_49 : decode cX6_mayHold 49 = .ok (.bipush 10, 2) := by decide +kernel
theorem dX6_mayHold_51 : decode cX6_mayHold 51 = .ok (.aload_n 0, 1) := by decide +kernel
theorem dX6_mayHold_52 : decode cX6_mayHold 52 = .ok (.getfield 13, 3) := by decide +kernel
theorem dX6_mayHold_55 : decode cX6_mayHold 55 = .ok (.iload_n 3, 1) := by decide +kernel
theorem dX6_mayHold_56 : decode cX6_mayHold 56 = .ok (.iaload, 1) := by decide +kernel
theorem dX6_mayHold_57 : decode cX6_mayHold 57 = .ok (.imul, 1) := by decide +kernel
theorem dX6_mayHold_58 : decode cX6_mayHold 58 = .ok (.aload_n 0, 1) := by decide +kernel
theorem dX6_mayHold_59 : decode cX6_mayHold 59 = .ok (.getfield 17, 3) := by decide +kernel
theorem dX6_mayHold_62 : decode cX6_mayHold 62 = .ok (.iload_n 3, 1) := by decide +kernel
theorem dX6_mayHold_63 : decode cX6_mayHold 63 = .ok (.iaload, 1) := by decide +kernel
theorem dX6_mayHold_64 : decode cX6_mayHold 64 = .ok (.iadd, 1) := by decide +kernel
theorem dX6_mayHold_65 : decode cX6_mayHold 65 = .ok (.dup2, 1) := by decide +kernel
theorem dX6_mayHold_66 : decode cX6_mayHold 66 = .ok (.baload, 1) := by decide +kernel
theorem dX6_mayHold_67 : decode cX6_mayHold 67 = .ok (.aload_n 0, 1) := by decide +kernel
theorem dX6_mayHold_68 : decode cX6_mayHold 68 = .ok (.getfield 20, 3) := by decide +kernel
theorem dX6_mayHold_71 : decode cX6_mayHold 71 = .ok (.iload_n 3, 1) := by decide +kernel
theorem dX6_mayHold_72 : decode cX6_mayHold 72 = .ok (.iaload, 1) := by decide +kernel
theorem dX6_mayHold_73 : decode cX6_mayHold 73 = .ok (.ifCond .le 7, 3) := by decide +kernel
theorem dX6_mayHold_76 : decode cX6_mayHold 76 = .ok (.iconst 1, 1) := by decide +kernel
theorem dX6_mayHold_77 : decode cX6_mayHold 77 = .ok (.goto 4, 3) := by decide +kernel
theorem dX6_mayHold_80 : decode cX6_mayHold 80 = .ok (.iconst 0, 1) := by decide +kernel
theorem dX6_mayHold_81 : decode cX6_mayHold 81 = .ok (.ior, 1) := by decide +kernel
theorem dX6_mayHold_82 : decode cX6_mayHold 82 = .ok (.bastore, 1) := by decide +kernel
theorem dX6_mayHold_83 : decode cX6_mayHold 83 = .ok (.iinc 3 1, 3) := by decide +kernel
theorem dX6_mayHold_86 : decode cX6_mayHold 86 = .ok (.goto (-49), 3) := by decide +kernel
theorem dX6_mayHold_89 : decode cX6_mayHold 89 = .ok (.iconst 1, 1) := by decide +kernel
theorem dX6_mayHold_90 : decode cX6_mayHold 90 = .ok (.istore_n 3, 1) := by decide +kernel
theorem dX6_mayHold_91 : decode cX6_mayHold 91 = .ok (.iconst 0, 1) := by decide +kernel
theorem dX6_mayHold_92 : decode cX6_mayHold 92 = .ok (.istore 4, 2) := by decide +kernel
theorem dX6_mayHold_94 : decode cX6_mayHold 94 = .ok (.iload 4, 2) := by decide +kernel
theorem dX6_mayHold_96 : decode cX6_mayHold 96 = .ok (.iconst 2, 1) := by decide +kernel
theorem dX6_mayHold_97 : decode cX6_mayHold 97 = .ok (.if_icmp .ge 197, 3) := by decide +kernel
theorem dX6_mayHold_100 : decode cX6_mayHold 100 = .ok (.iconst 0, 1) := by decide +kernel
theorem dX6_mayHold_101 : decode cX6_mayHold 101 = .ok (.istore 5, 2) := by decide +kernel
theorem dX6_mayHold_103 : decode cX6_mayHold 103 = .ok (.iload 5, 2) := by decide +kernel
theorem dX6_mayHold_105 : decode cX6_mayHold 105 = .ok (.bipush 10, 2) := by decide +kernel
theorem dX6_mayHold_107 : decode cX6_mayHold 107 = .ok (.if_icmp .ge 32, 3) := by decide +kernel
theorem dX6_mayHold_110 : decode cX6_mayHold 110 = .ok (.aload_n 0, 1) := by decide +kernel
theorem dX6_mayHold_111 : decode cX6_mayHold 111 = .ok (.getfield 73, 3) := by decide +kernel
theorem dX6_mayHold_114 : decode cX6_mayHold 114 = .ok (.iload 5, 2) := by decide +kernel
theorem dX6_mayHold_116 : decode cX6_mayHold 116 = .ok (.iload 4, 2) := by decide +kernel
theorem dX6_mayHold_118 : decode cX6_mayHold 118 = .ok (.ifCond .eq 8, 3) := by decide +kernel
theorem dX6_mayHold_121 : decode cX6_mayHold 121 = .ok (.iload 5, 2) := by decide +kernel
theorem dX6_mayHold_123 : decode cX6_mayHold 123 = .ok (.ifCond .ne 7, 3) := by decide +kernel
theorem dX6_mayHold_126 : decode cX6_mayHold 126 = .ok (.iconst 0, 1) := by decide +kernel
theorem dX6_mayHold_127 : decode cX6_mayHold 127 = .ok (.goto 5, 3) := by decide +kernel
theorem dX6_mayHold_130 : decode cX6_mayHold 130 = .ok (.bipush (-9), 2) := by decide +kernel
theorem dX6_mayHold_132 : decode cX6_mayHold 132 = .ok (.iastore, 1) := by decide +kernel
theorem dX6_mayHold_133 : decode cX6_mayHold 133 = .ok (.iinc 5 1, 3) := by decide +kernel
theorem dX6_mayHold_136 : decode cX6_mayHold 136 = .ok (.goto (-33), 3) := by decide +kernel
theorem dX6_mayHold_139 : decode cX6_mayHold 139 = .ok (.iconst 0, 1) := by decide +kernel
theorem dX6_mayHold_140 : decode cX6_mayHold 140 = .ok (.istore 5, 2) := by decide +kernel
theorem dX6_mayHold_142 : decode cX6_mayHold 142 = .ok (.iload 5, 2) := by decide +kernel
theorem dX6_mayHold_144 : decode cX6_mayHold 144 = .ok (.bipush 11, 2) := by decide +kernel
theorem dX6_mayHold_146 : decode cX6_mayHold 146 = .ok (.if_icmp .ge 95, 3) := by decide +kernel
theorem dX6_mayHold_149 : decode cX6_mayHold 149 = .ok (.iconst 0, 1) := by decide +kernel
theorem dX6_mayHold_150 : decode cX6_mayHold 150 = .ok (.istore 6, 2) := by decide +kernel
theorem dX6_mayHold_152 : decode cX6_mayHold 152 = .ok (.iload 6, 2) := by decide +kernel
theorem dX6_mayHold_154 : decode cX6_mayHold 154 = .ok (.bipush 100, 2) := by decide +kernel
theorem dX6_mayHold_156 : decode cX6_mayHold 156 = .ok (.if_icmp .ge 79, 3) := by decide +kernel
theorem dX6_mayHold_159 : decode cX6_mayHold 159 = .ok (.aload_n 0, 1) := by decide +kernel
theorem dX6_mayHold_160 : decode cX6_mayHold 160 = .ok (.getfield 69, 3) := by decide +kernel
theorem dX6_mayHold_163 : decode cX6_mayHold 163 = .ok (.iload 6, 2) := by decide +kernel
theorem dX6_mayHold_165 : decode cX6_mayHold 165 = .ok (.baload, 1) := by decide +kernel
theorem dX6_mayHold_166 : decode cX6_mayHold 166 = .ok (.ifCond .eq 63, 3) := by decide +kernel
theorem dX6_mayHold_169 : decode cX6_mayHold 169 = .ok (.aload_n 0, 1) := by decide +kernel
theorem dX6_mayHold_170 : decode cX6_mayHold 170 = .ok (.getfield 73, 3) := by decide +kernel
theorem dX6_mayHold_173 : decode cX6_mayHold 173 = .ok (.iload 6, 2) := by decide +kernel
theorem dX6_mayHold_175 : decode cX6_mayHold 175 = .ok (.bipush 10, 2) := by decide +kernel
theorem dX6_mayHold_177 : decode cX6_mayHold 177 = .ok (.idiv, 1) := by decide +kernel
theorem dX6_mayHold_178 : decode cX6_mayHold 178 = .ok (.iaload, 1) := by decide +kernel
theorem dX6_mayHold_179 : decode cX6_mayHold 179 = .ok (.ifCond .lt 50, 3) := by decide +kernel
theorem dX6_mayHold_182 : decode cX6_mayHold 182 = .ok (.aload_n 0, 1) := by decide +kernel
theorem dX6_mayHold_183 : decode cX6_mayHold 183 = .ok (.getfield 73, 3) := by decide +kernel
theorem dX6_mayHold_186 : decode cX6_mayHold 186 = .ok (.iload 6, 2) := by decide +kernel
theorem dX6_mayHold_188 : decode cX6_mayHold 188 = .ok (.bipush 10, 2) := by decide +kernel
theorem dX6_mayHold_190 : decode cX6_mayHold 190 = .ok (.irem, 1) := by decide +kernel
theorem dX6_mayHold_191 : decode cX6_mayHold 191 = .ok (.iaload, 1) := by decide +kernel
theorem dX6_mayHold_192 : decode cX6_mayHold 192 = .ok (.aload_n 0, 1) := by decide +kernel
theorem dX6_mayHold_193 : decode cX6_mayHold 193 = .ok (.getfield 73, 3) := by decide +kernel
theorem dX6_mayHold_196 : decode cX6_mayHold 196 = .ok (.iload 6, 2) := by decide +kernel
theorem dX6_mayHold_198 : decode cX6_mayHold 198 = .ok (.bipush 10, 2) := by decide +kernel
theorem dX6_mayHold_200 : decode cX6_mayHold 200 = .ok (.idiv, 1) := by decide +kernel
theorem dX6_mayHold_201 : decode cX6_mayHold 201 = .ok (.iaload, 1) := by decide +kernel
theorem dX6_mayHold_202 : decode cX6_mayHold 202 = .ok (.iconst 1, 1) := by decide +kernel
theorem dX6_mayHold_203 : decode cX6_mayHold 203 = .ok (.iadd, 1) := by decide +kernel
theorem dX6_mayHold_204 : decode cX6_mayHold 204 = .ok (.if_icmp .ge 25, 3) := by decide +kernel
theorem dX6_mayHold_207 : decode cX6_mayHold 207 = .ok (.aload_n 0, 1) := by decide +kernel
theorem dX6_mayHold_208 : decode cX6_mayHold 208 = .ok (.getfield 73, 3) := by decide +kernel
theorem dX6_mayHold_211 : decode cX6_mayHold 211 = .ok (.iload 6, 2) := by decide +kernel
theorem dX6_mayHold_213 : decode cX6_mayHold 213 = .ok (.bipush 10, 2) := by decide +kernel
theorem dX6_mayHold_215 : decode cX6_mayHold 215 = .ok (.irem, 1) := by decide +kernel
theorem dX6_mayHold_216 : decode cX6_mayHold 216 = .ok (.aload_n 0, 1) := by decide +kernel
theorem dX6_mayHold_217 : decode cX6_mayHold 217 = .ok (.getfield 73, 3) := by decide +kernel
theorem dX6_mayHold_220 : decode cX6_mayHold 220 = .ok (.iload 6, 2) := by decide +kernel
theorem dX6_mayHold_222 : decode cX6_mayHold 222 = .ok (.bipush 10, 2) := by decide +kernel
theorem dX6_mayHold_224 : decode cX6_mayHold 224 = .ok (.idiv, 1) := by decide +kernel
theorem dX6_mayHold_225 : decode cX6_mayHold 225 = .ok (.iaload, 1) := by decide +kernel
theorem dX6_mayHold_226 : decode cX6_mayHold 226 = .ok (.iconst 1, 1) := by decide +kernel
theorem dX6_mayHold_227 : decode cX6_mayHold 227 = .ok (.iadd, 1) := by decide +kernel
theorem dX6_mayHold_228 : decode cX6_mayHold 228 = .ok (.iastore, 1) := by decide +kernel
theorem dX6_mayHold_229 : decode cX6_mayHold 229 = .ok (.iinc 6 1, 3) := by decide +kernel
theorem dX6_mayHold_232 : decode cX6_mayHold 232 = .ok (.goto (-80), 3) := by decide +kernel
theorem dX6_mayHold_235 : decode cX6_mayHold 235 = .ok (.iinc 5 1, 3) := by decide +kernel
theorem dX6_mayHold_238 : decode cX6_mayHold 238 = .ok (.goto (-96), 3) := by decide +kernel
theorem dX6_mayHold_241 : decode cX6_mayHold 241 = .ok (.iconst 0, 1) := by decide +kernel
theorem dX6_mayHold_242 : decode cX6_mayHold 242 = .ok (.istore 5, 2) := by decide +kernel
theorem dX6_mayHold_244 : decode cX6_mayHold 244 = .ok (.iload 5, 2) := by decide +kernel
theorem dX6_mayHold_246 : decode cX6_mayHold 246 = .ok (.bipush 10, 2) := by decide +kernel
theorem dX6_mayHold_248 : decode cX6_mayHold 248 = .ok (.if_icmp .ge 40, 3) := by decide +kernel
theorem dX6_mayHold_251 : decode cX6_mayHold 251 = .ok (.iload_n 3, 1) := by decide +kernel
theorem dX6_mayHold_252 : decode cX6_mayHold 252 = .ok (.ifCond .eq 28, 3) := by decide +kernel
theorem dX6_mayHold_255 : decode cX6_mayHold 255 = .ok (.aload_n 0, 1) := by decide +kernel
theorem dX6_mayHold_256 : decode cX6_mayHold 256 = .ok (.getfield 73, 3) := by decide +kernel
theorem dX6_mayHold_259 : decode cX6_mayHold 259 = .ok (.iload 5, 2) := by decide +kernel
theorem dX6_mayHold_261 : decode cX6_mayHold 261 = .ok (.iaload, 1) := by decide +kernel
theorem dX6_mayHold_262 : decode cX6_mayHold 262 = .ok (.iload 4, 2) := by decide +kernel
theorem dX6_mayHold_264 : decode cX6_mayHold 264 = .ok (.ifCond .ne 8, 3) := by decide +kernel
theorem dX6_mayHold_267 : decode cX6_mayHold 267 = .ok (.bipush 9, 2) := by decide +kernel
theorem dX6_mayHold_269 : decode cX6_mayHold 269 = .ok (.goto 4, 3) := by decide +kernel
theorem dX6_mayHold_272 : decode cX6_mayHold 272 = .ok (.iconst 3, 1) := by decide +kernel
theorem dX6_mayHold_273 : decode cX6_mayHold 273 = .ok (.if_icmp .gt 7, 3) := by decide +kernel
theorem dX6_mayHold_276 : decode cX6_mayHold 276 = .ok (.iconst 1, 1) := by decide +kernel
theorem dX6_mayHold_277 : decode cX6_mayHold 277 = .ok (.goto 4, 3) := by decide +kernel
theorem dX6_mayHold_280 : decode cX6_mayHold 280 = .ok (.iconst 0, 1) := by decide +kernel
theorem dX6_mayHold_281 : decode cX6_mayHold 281 = .ok (.istore_n 3, 1) := by decide +kernel
theorem dX6_mayHold_282 : decode cX6_mayHold 282 = .ok (.iinc 5 1, 3) := by decide +kernel
theorem dX6_mayHold_285 : decode cX6_mayHold 285 = .ok (.goto (-41), 3) := by decide +kernel
theorem dX6_mayHold_288 : decode cX6_mayHold 288 = .ok (.iinc 4 1, 3) := by decide +kernel
theorem dX6_mayHold_291 : decode cX6_mayHold 291 = .ok (.goto (-197), 3) := by decide +kernel
theorem dX6_mayHold_294 : decode cX6_mayHold 294 = .ok (.iload_n 3, 1) := by decide +kernel
theorem dX6_mayHold_295 : decode cX6_mayHold 295 = .ok (.ireturn, 1) := by decide +kernel
set_option maxRecDepth 20000 in
theorem ggX6_hold_X6_noUnit : GoodIn wsX6_hold wsX6_noUnit := goodIn_r _ [13, 14, 15, 16, 12, 17, 32, 33, 34, 35, 36, 37, 38, 39, 40, 41, 42, 43, 44, 45, 46, 47, 48, 49, 50, 51, 52, 53, 54, 55, 56, 57] (by decide +kernel) (by decide +kernel)
set_option maxRecDepth 20000 in
theorem gX6_hold_X6_noUnit : GoodIn wsX6_hold (wsV RX6 106 RX6 yX6_noUnit wsX6_noUnit) := goodIn_app (goodIn_of _ (by decide +kernel)) ggX6_hold_X6_noUnit
set_option maxRecDepth 20000 in
theorem ggX6_hold_X6_in : GoodIn wsX6_hold wsX6_in := goodIn_r _ [17] (by decide +kernel) (by decide +kernel)
set_option maxRecDepth 20000 in
theorem gX6_hold_X6_in : GoodIn wsX6_hold (va_wsS RX6 79 yX6_in wsX6_in) := goodIn_app (goodIn_of _ (by decide +kernel)) ggX6_hold_X6_in
set_option maxRecDepth 20000 in
theorem ggX6_hold_X6_noDay : GoodIn wsX6_hold wsX6_noDay := goodIn_r _ [20, 21, 15, 16, 12, 17] (by decide +kernel) (by decide +kernel)
set_option maxRecDepth 20000 in
theorem gX6_hold_X6_noDay : GoodIn wsX6_hold (va_wsS RX6 110 yX6_noDay wsX6_noDay) := goodIn_app (goodIn_of _ (by decide +kernel)) ggX6_hold_X6_noDay
set_option maxRecDepth 20000 in
theorem ggX6_hold_X6_mayHold : GoodIn wsX6_hold wsX6_mayHold := goodIn_r _ [25, 26, 4, 5, 6, 8, 27, 32, 33, 34, 35, 36, 37, 38, 39, 40, 41, 42, 43, 44, 45, 46, 47, 48, 49, 50, 51, 52, 53, 54, 55, 56, 57] (by decide +kernel) (by decide +kernel)
set_option maxRecDepth 20000 in
theorem gX6_hold_X6_mayHold : GoodIn wsX6_hold (wsV RX6 113 RX6 yX6_mayHold wsX6_mayHold) := goodIn_app (goodIn_of _ (by decide +kernel)) ggX6_hold_X6_mayHold
set_option maxRecDepth 20000 in
theorem ggX6_hold_X6_lay : GoodIn wsX6_hold wsX6_lay := goodIn_r _ [31, 3, 27, 26, 4, 5, 6, 7, 8, 32, 33, 34, 35, 36, 37, 38, 39, 40, 41, 42, 43, 44, 45, 46, 47, 48, 49, 50, 51, 52, 53, 54, 55, 56, 57] (by decide +kernel) (by decide +kernel)
set_option maxRecDepth 20000 in
theorem gX6_hold_X6_lay : GoodIn wsX6_hold (wsV RX6 96 RX6 yX6_lay wsX6_lay) := goodIn_app (goodIn_of _ (by decide +kernel)) ggX6_hold_X6_lay
theorem dX6_hold_0 : decode cX6_hold 0 = .ok (.aload_n 0, 1) := by decide +kernel
theorem dX6_hold_1 : decode cX6_hold 1 = .ok (.iconst 0, 1) := by decide +kernel
theorem dX6_hold_2 : decode cX6_hold 2 = .ok (.putfield 76, 3) := by decide +kernel
theorem dX6_hold_5 : decode cX6_hold 5 = .ok (.aload_n 0, 1) := by decide +kernel
theorem dX6_hold_6 : decode cX6_hold 6 = .ok (.iload_n 1, 1) := by decide +kernel
theorem dX6_hold_7 : decode cX6_hold 7 = .ok (.invokevirtual 106, 3) := by decide +kernel
theorem dX6_hold_10 : decode cX6_hold 10 = .ok (.ifCond .ne 11, 3) := by decide +kernel
theorem dX6_hold_13 : decode cX6_hold 13 = .ok (.aload_n 0, 1) := by decide +kernel
theorem dX6_hold_14 : decode cX6_hold 14 = .ok (.iload_n 2, 1) := by decide +kernel
theorem dX6_hold_15 : decode cX6_hold 15 = .ok (.invokevirtual 106, 3) := by decide +kernel
theorem dX6_hold_18 : decode cX6_hold 18 = .ok (.ifCond .eq 5, 3) := by decide +kernel
theorem dX6_hold_21 : decode cX6_hold 21 = .ok (.iconst (-1), 1) := by decide +kernel
theorem dX6_hold_22 : decode cX6_hold 22 = .ok (.ireturn, 1) := by decide +kernel
theorem dX6_hold_23 : decode cX6_hold 23 = .ok (.iload_n 3, 1) := by decide +kernel
theorem dX6_hold_24 : decode cX6_hold 24 = .ok (.i2l, 1) := by decide +kernel
theorem dX6_hold_25 : decode cX6_hold 25 = .ok (.lconst 0, 1) := by decide +kernel
theorem dX6_hold_26 : decode cX6_hold 26 = .ok (.ldc2_w 104, 3) := by decide +kernel
theorem dX6_hold_29 : decode cX6_hold 29 = .ok (.invokestatic 79, 3) := by decide +kernel
theorem dX6_hold_32 : decode cX6_hold 32 = .ok (.ifCond .eq 11, 3) := by decide +kernel
theorem dX6_hold_35 : decode cX6_hold 35 = .ok (.iload 4, 2) := by decide +kernel
theorem dX6_hold_37 : decode cX6_hold 37 = .ok (.invokestatic 110, 3) := by decide +kernel
theorem dX6_hold_40 : decode cX6_hold 40 = .ok (.ifCond .eq 6, 3) := by decide +kernel
theorem dX6_hold_43 : decode cX6_hold 43 = .ok (.bipush (-2), 2) := by decide +kernel
theorem dX6_hold_45 : decode cX6_hold 45 = .ok (.ireturn, 1) := by decide +kernel
theorem dX6_hold_46 : decode cX6_hold 46 = .ok (.iload_n 1, 1) := by decide +kernel
theorem dX6_hold_47 : decode cX6_hold 47 = .ok (.iload_n 2, 1) := by decide +kernel
theorem dX6_hold_48 : decode cX6_hold 48 = .ok (.if_icmp .eq 16, 3) := by decide +kernel
theorem dX6_hold_51 : decode cX6_hold 51 = .ok (.iload_n 3, 1) := by decide +kernel
theorem dX6_hold_52 : decode cX6_hold 52 = .ok (.ifCond .le 15, 3) := by decide +kernel
theorem dX6_hold_55 : decode cX6_hold 55 = .ok (.aload_n 0, 1) := by decide +kernel
theorem dX6_hold_56 : decode cX6_hold 56 = .ok (.iload_n 1, 1) := by decide +kernel
theorem dX6_hold_57 : decode cX6_hold 57 = .ok (.iload_n 2, 1) := by decide +kernel
theorem dX6_hold_58 : decode cX6_hold 58 = .ok (.invokevirtual 113, 3) := by decide +kernel
theorem dX6_hold_61 : decode cX6_hold 61 = .ok (.ifCond .ne 6, 3) := by decide +kernel
theorem dX6_hold_64 : decode cX6_hold 64 = .ok (.bipush (-3), 2) := by decide +kernel
theorem dX6_hold_66 : decode cX6_hold 66 = .ok (.ireturn, 1) := by decide +kernel
theorem dX6_hold_67 : decode cX6_hold 67 = .ok (.aload_n 0, 1) := by decide +kernel
theorem dX6_hold_68 : decode cX6_hold 68 = .ok (.iload 4, 2) := by decide +kernel
theorem dX6_hold_70 : decode cX6_hold 70 = .ok (.invokevirtual 96, 3) := by decide +kernel
theorem dX6_hold_73 : decode cX6_hold 73 = .ok (.aload_n 0, 1) := by decide +kernel
theorem dX6_hold_74 : decode cX6_hold 74 = .ok (.getfield 62, 3) := by decide +kernel
theorem dX6_hold_77 : decode cX6_hold 77 = .ok (.bipush 10, 2) := by decide +kernel
theorem dX6_hold_79 : decode cX6_hold 79 = .ok (.iload_n 1, 1) := by decide +kernel
theorem dX6_hold_80 : decode cX6_hold 80 = .ok (.imul, 1) := by decide +kernel
theorem dX6_hold_81 : decode cX6_hold 81 = .ok (.iload_n 2, 1) := by decide +kernel
theorem dX6_hold_82 : decode cX6_hold 82 = .ok (.iadd, 1) := by decide +kernel
theorem dX6_hold_83 : decode cX6_hold 83 = .ok (.iaload, 1) := by decide +kernel
theorem dX6_hold_84 : decode cX6_hold 84 = .ok (.istore 5, 2) := by decide +kernel
theorem dX6_hold_86 : decode cX6_hold 86 = .ok (.aload_n 0, 1) := by decide +kernel
theorem dX6_hold_87 : decode cX6_hold 87 = .ok (.getfield 93, 3) := by decide +kernel
theorem dX6_hold_90 : decode cX6_hold 90 = .ok (.istore 6, 2) := by decide +kernel
theorem dX6_hold_92 : decode cX6_hold 92 = .ok (.iconst 0, 1) := by decide +kernel
theorem dX6_hold_93 : decode cX6_hold 93 = .ok (.istore 7, 2) := by decide +kernel
theorem dX6_hold_95 : decode cX6_hold 95 = .ok (.iload 7, 2) := by decide +kernel
theorem dX6_hold_97 : decode cX6_hold 97 = .ok (.aload_n 0, 1) := by decide +kernel
theorem dX6_hold_98 : decode cX6_hold 98 = .ok (.getfield 93, 3) := by decide +kernel
theorem dX6_hold_101 : decode cX6_hold 101 = .ok (.if_icmp .ge 52, 3) := by decide +kernel
theorem dX6_hold_104 : decode cX6_hold 104 = .ok (.aload_n 0, 1) := by decide +kernel
theorem dX6_hold_105 : decode cX6_hold 105 = .ok (.getfield 13, 3) := by decide +kernel
theorem dX6_hold_108 : decode cX6_hold 108 = .ok (.iload 7, 2) := by decide +kernel
theorem dX6_hold_110 : decode cX6_hold 110 = .ok (.iaload, 1) := by decide +kernel
theorem dX6_hold_111 : decode cX6_hold 111 = .ok (.iload_n 1, 1) := by decide +kernel
theorem dX6_hold_112 : decode cX6_hold 112 = .ok (.if_icmp .ne 31, 3) := by decide +kernel
theorem dX6_hold_115 : decode cX6_hold 115 = .ok (.aload_n 0, 1) := by decide +kernel
theorem dX6_hold_116 : decode cX6_hold 116 = .ok (.getfield 17, 3) := by decide +kernel
theorem dX6_hold_119 : decode cX6_hold 119 = .ok (.iload 7, 2) := by decide +kernel
theorem dX6_hold_121 : decode cX6_hold 121 = .ok (.iaload, 1) := by decide +kernel
theorem dX6_hold_122 : decode cX6_hold 122 = .ok (.iload_n 2, 1) := by decide +kernel
theorem dX6_hold_123 : decode cX6_hold 123 = .ok (.if_icmp .ne 20, 3) := by decide +kernel
theorem dX6_hold_126 : decode cX6_hold 126 = .ok (.aload_n 0, 1) := by decide +kernel
theorem dX6_hold_127 : decode cX6_hold 127 = .ok (.getfield 23, 3) := by decide +kernel
theorem dX6_hold_130 : decode cX6_hold 130 = .ok (.iload 7, 2) := by decide +kernel
theorem dX6_hold_132 : decode cX6_hold 132 = .ok (.iaload, 1) := by decide +kernel
theorem dX6_hold_133 : decode cX6_hold 133 = .ok (.iload 4, 2) := by decide +kernel
theorem dX6_hold_135 : decode cX6_hold 135 = .ok (.if_icmp .ne 8, 3) := by decide +kernel
theorem dX6_hold_138 : decode cX6_hold 138 = .ok (.iload 7, 2) := by decide +kernel
theorem dX6_hold_140 : decode cX6_hold 140 = .ok (.goto 5, 3) := by decide +kernel
theorem dX6_hold_143 : decode cX6_hold 143 = .ok (.iload 6, 2) := by decide +kernel
theorem dX6_hold_145 : decode cX6_hold 145 = .ok (.istore 6, 2) := by decide +kernel
theorem dX6_hold_147 : decode cX6_hold 147 = .ok (.iinc 7 1, 3) := by decide +kernel
theorem dX6_hold_150 : decode cX6_hold 150 = .ok (.goto (-55), 3) := by decide +kernel
theorem dX6_hold_153 : decode cX6_hold 153 = .ok (.iload 6, 2) := by decide +kernel
theorem dX6_hold_155 : decode cX6_hold 155 = .ok (.bipush 100, 2) := by decide +kernel
theorem dX6_hold_157 : decode cX6_hold 157 = .ok (.if_icmp .ne 6, 3) := by decide +kernel
theorem dX6_hold_160 : decode cX6_hold 160 = .ok (.bipush (-4), 2) := by decide +kernel
theorem dX6_hold_162 : decode cX6_hold 162 = .ok (.ireturn, 1) := by decide +kernel
theorem dX6_hold_163 : decode cX6_hold 163 = .ok (.aload_n 0, 1) := by decide +kernel
theorem dX6_hold_164 : decode cX6_hold 164 = .ok (.getfield 13, 3) := by decide +kernel
theorem dX6_hold_167 : decode cX6_hold 167 = .ok (.iload 6, 2) := by decide +kernel
theorem dX6_hold_169 : decode cX6_hold 169 = .ok (.iload_n 1, 1) := by decide +kernel
theorem dX6_hold_170 : decode cX6_hold 170 = .ok (.iastore, 1) := by decide +kernel
theorem dX6_hold_171 : decode cX6_hold 171 = .ok (.aload_n 0, 1) := by decide +kernel
theorem dX6_hold_172 : decode cX6_hold 172 = .ok (.getfield 17, 3) := by decide +kernel
theorem dX6_hold_175 : decode cX6_hold 175 = .ok (.iload 6, 2) := by decide +kernel
theorem dX6_hold_177 : decode cX6_hold 177 = .ok (.iload_n 2, 1) := by decide +kernel
theorem dX6_hold_178 : decode cX6_hold 178 = .ok (.iastore, 1) := by decide +kernel
theorem dX6_hold_179 : decode cX6_hold 179 = .ok (.aload_n 0, 1) := by decide +kernel
theorem dX6_hold_180 : decode cX6_hold 180 = .ok (.getfield 20, 3) := by decide +kernel
theorem dX6_hold_183 : decode cX6_hold 183 = .ok (.iload 6, 2) := by decide +kernel
theorem dX6_hold_185 : decode cX6_hold 185 = .ok (.iload_n 3, 1) := by decide +kernel
theorem dX6_hold_186 : decode cX6_hold 186 = .ok (.iastore, 1) := by decide +kernel
theorem dX6_hold_187 : decode cX6_hold 187 = .ok (.aload_n 0, 1) := by decide +kernel
theorem dX6_hold_188 : decode cX6_hold 188 = .ok (.getfield 23, 3) := by decide +kernel
theorem dX6_hold_191 : decode cX6_hold 191 = .ok (.iload 6, 2) := by decide +kernel
theorem dX6_hold_193 : decode cX6_hold 193 = .ok (.iload 4, 2) := by decide +kernel
theorem dX6_hold_195 : decode cX6_hold 195 = .ok (.iastore, 1) := by decide +kernel
theorem dX6_hold_196 : decode cX6_hold 196 = .ok (.aload_n 0, 1) := by decide +kernel
theorem dX6_hold_197 : decode cX6_hold 197 = .ok (.iload 6, 2) := by decide +kernel
theorem dX6_hold_199 : decode cX6_hold 199 = .ok (.aload_n 0, 1) := by decide +kernel
theorem dX6_hold_200 : decode cX6_hold 200 = .ok (.getfield 93, 3) := by decide +kernel
theorem dX6_hold_203 : decode cX6_hold 203 = .ok (.if_icmp .ne 12, 3) := by decide +kernel
theorem dX6_hold_206 : decode cX6_hold 206 = .ok (.aload_n 0, 1) := by decide +kernel
theorem dX6_hold_207 : decode cX6_hold 207 = .ok (.getfield 93, 3) := by decide +kernel
theorem dX6_hold_210 : decode cX6_hold 210 = .ok (.iconst 1, 1) := by decide +kernel
theorem dX6_hold_211 : decode cX6_hold 211 = .ok (.iadd, 1) := by decide +kernel
theorem dX6_hold_212 : decode cX6_hold 212 = .ok (.goto 7, 3) := by decide +kernel
theorem dX6_hold_215 : decode cX6_hold 215 = .ok (.aload_n 0, 1) := by decide +kernel
theorem dX6_hold_216 : decode cX6_hold 216 = .ok (.getfield 93, 3) := by decide +kernel
theorem dX6_hold_219 : decode cX6_hold 219 = .ok (.putfield 93, 3) := by decide +kernel
theorem dX6_hold_222 : decode cX6_hold 222 = .ok (.iload 5, 2) := by decide +kernel
theorem dX6_hold_224 : decode cX6_hold 224 = .ok (.ireturn, 1) := by decide +kernel
set_option maxRecDepth 20000 in
theorem ggX6_holds_X6_noUnit : GoodIn wsX6_holds wsX6_noUnit := goodIn_r _ [7, 8, 9, 10, 6, 11, 27, 28, 29, 30, 31, 32, 33, 34, 35, 36, 37, 38, 39, 40, 41, 42, 43, 44, 45, 46, 47, 48, 49, 50, 51, 52] (by decide +kernel) (by decide +kernel)
set_option maxRecDepth 20000 in
theorem gX6_holds_X6_noUnit : GoodIn wsX6_holds (wsV RX6 106 RX6 yX6_noUnit wsX6_noUnit) := goodIn_app (goodIn_of _ (by decide +kernel)) ggX6_holds_X6_noUnit
set_option maxRecDepth 20000 in
theorem ggX6_holds_X6_noDay : GoodIn wsX6_holds wsX6_noDay := goodIn_r _ [14, 15, 9, 10, 6, 11] (by decide +kernel) (by decide +kernel)
set_option maxRecDepth 20000 in
theorem gX6_holds_X6_noDay : GoodIn wsX6_holds (va_wsS RX6 110 yX6_noDay wsX6_noDay) := goodIn_app (goodIn_of _ (by decide +kernel)) ggX6_holds_X6_noDay
set_option maxRecDepth 20000 in
theorem ggX6_holds_X6_lay : GoodIn wsX6_holds wsX6_lay := goodIn_r _ [19, 2, 20, 21, 22, 23, 24, 25, 26, 27, 28, 29, 30, 31, 32, 33, 34, 35, 36, 37, 38, 39, 40, 41, 42, 43, 44, 45, 46, 47, 48, 49, 50, 51, 52] (by decide +kernel) (by decide +kernel)
set_option maxRecDepth 20000 in
theorem gX6_holds_X6_lay : GoodIn wsX6_holds (wsV RX6 96 RX6 yX6_lay wsX6_lay) := goodIn_app (goodIn_of _ (by decide +kernel)) ggX6_holds_X6_lay
theorem dX6_holds_0 : decode cX6_holds 0 = .ok (.aload_n 0, 1) := by decide +kernel
theorem dX6_holds_1 : decode cX6_holds 1 = .ok (.iconst 0, 1) := by decide +kernel
theorem dX6_holds_2 : decode cX6_holds 2 = .ok (.putfield 76, 3) := by decide +kernel
theorem dX6_holds_5 : decode cX6_holds 5 = .ok (.aload_n 0, 1) := by decide +kernel
theorem dX6_holds_6 : decode cX6_holds 6 = .ok (.iload_n 1, 1) := by decide +kernel
theorem dX6_holds_7 : decode cX6_holds 7 = .ok (.invokevirtual 106, 3) := by decide +kernel
theorem dX6_holds_10 : decode cX6_holds 10 = .ok (.ifCond .ne 11, 3) := by decide +kernel
theorem dX6_holds_13 : decode cX6_holds 13 = .ok (.aload_n 0, 1) := by decide +kernel
theorem dX6_holds_14 : decode cX6_holds 14 = .ok (.iload_n 2, 1) := by decide +kernel
theorem dX6_holds_15 : decode cX6_holds 15 = .ok (.invokevirtual 106, 3) := by decide +kernel
theorem dX6_holds_18 : decode cX6_holds 18 = .ok (.ifCond .eq 5, 3) := by decide +kernel
theorem dX6_holds_21 : decode cX6_holds 21 = .ok (.iconst (-1), 1) := by decide +kernel
theorem dX6_holds_22 : decode cX6_holds 22 = .ok (.ireturn, 1) := by decide +kernel
theorem dX6_holds_23 : decode cX6_holds 23 = .ok (.iload_n 3, 1) := by decide +kernel
theorem dX6_holds_24 : decode cX6_holds 24 = .ok (.invokestatic 110, 3) := by decide +kernel
theorem dX6_holds_27 : decode cX6_holds 27 = .ok (.ifCond .eq 6, 3) := by decide +kernel
theorem dX6_holds_30 : decode cX6_holds 30 = .ok (.bipush (-2), 2) := by decide +kernel
theorem dX6_holds_32 : decode cX6_holds 32 = .ok (.ireturn, 1) := by decide +kernel
theorem dX6_holds_33 : decode cX6_holds 33 = .ok (.aload_n 0, 1) := by decide +kernel
theorem dX6_holds_34 : decode cX6_holds 34 = .ok (.iload_n 3, 1) := by decide +kernel
theorem dX6_holds_35 : decode cX6_holds 35 = .ok (.invokevirtual 96, 3) := by decide +kernel
theorem dX6_holds_38 : decode cX6_holds 38 = .ok (.aload_n 0, 1) := by decide +kernel
theorem dX6_holds_39 : decode cX6_holds 39 = .ok (.getfield 62, 3) := by decide +kernel
theorem dX6_holds_42 : decode cX6_holds 42 = .ok (.bipush 10, 2) := by decide +kernel
theorem dX6_holds_44 : decode cX6_holds 44 = .ok (.iload_n 1, 1) := by decide +kernel
theorem dX6_holds_45 : decode cX6_holds 45 = .ok (.imul, 1) := by decide +kernel
theorem dX6_holds_46 : decode cX6_holds 46 = .ok (.iload_n 2, 1) := by decide +kernel
theorem dX6_holds_47 : decode cX6_holds 47 = .ok (.iadd, 1) := by decide +kernel
theorem dX6_holds_48 : decode cX6_holds 48 = .ok (.iaload, 1) := by decide +kernel
theorem dX6_holds_49 : decode cX6_holds 49 = .ok (.ireturn, 1) := by decide +kernel
set_option maxRecDepth 20000 in
theorem ggX6_share_X6_noUnit : GoodIn wsX6_share wsX6_noUnit := goodIn_r _ [9, 10, 11, 12, 8, 13, 37, 38, 39, 40, 41, 42, 43, 44, 45, 46, 47, 48, 49, 50, 51, 52, 53, 54, 55, 56, 57, 58, 59, 60, 61, 62] (by decide +kernel) (by decide +kernel)
set_option maxRecDepth 20000 in
theorem gX6_share_X6_noUnit : GoodIn wsX6_share (wsV RX6 106 RX6 yX6_noUnit wsX6_noUnit) := goodIn_app (goodIn_of _ (by decide +kernel)) ggX6_share_X6_noUnit
set_option maxRecDepth 20000 in
theorem ggX6_share_X6_noDay : GoodIn wsX6_share wsX6_noDay := goodIn_r _ [16, 17, 11, 12, 8, 13] (by decide +kernel) (by decide +kernel)
set_option maxRecDepth 20000 in
theorem gX6_share_X6_noDay : GoodIn wsX6_share (va_wsS RX6 110 yX6_noDay wsX6_noDay) := goodIn_app (goodIn_of _ (by decide +kernel)) ggX6_share_X6_noDay
set_option maxRecDepth 20000 in
theorem ggX6_share_X6_shares : GoodIn wsX6_share wsX6_shares := goodIn_r _ [21, 4, 22, 23, 24, 25, 26, 27, 28, 8, 29, 30, 31, 32, 33, 34, 35, 36, 37, 38, 39, 40, 41, 42, 43, 44, 45, 46, 47, 48, 49, 50, 51, 52, 53, 54, 55, 56, 57, 58, 59, 60, 61, 62] (by decide +kernel) (by decide +kernel)
set_option maxRecDepth 20000 in
theorem gX6_share_X6_shares : GoodIn wsX6_share (wsV RX6 121 RX6 yX6_shares wsX6_shares) := goodIn_app (goodIn_of _ (by decide +kernel)) ggX6_share_X6_shares
theorem dX6_share_0 : decode cX6_share 0 = .ok (.aload_n 0, 1) := by decide +kernel
theorem dX6_share_1 : decode cX6_share 1 = .ok (.iconst 0, 1) := by decide +kernel
theorem dX6_share_2 : decode cX6_share 2 = .ok (.putfield 76, 3) := by decide +kernel
theorem dX6_share_5 : decode cX6_share 5 = .ok (.aload_n 0, 1) := by decide +kernel
theorem dX6_share_6 : decode cX6_share 6 = .ok (.iload_n 1, 1) := by decide +kernel
theorem dX6_share_7 : decode cX6_share 7 = .ok (.invokevirtual 106, 3) := by decide +kernel
theorem dX6_share_10 : decode cX6_share 10 = .ok (.ifCond .eq 7, 3) := by decide +kernel
theorem dX6_share_13 : decode cX6_share 13 = .ok (.ldc2_w 117, 3) := by decide +kernel
theorem dX6_share_16 : decode cX6_share 16 = .ok (.lreturn, 1) := by decide +kernel
theorem dX6_share_17 : decode cX6_share 17 = .ok (.iload_n 2, 1) := by decide +kernel
theorem dX6_share_18 : decode cX6_share 18 = .ok (.invokestatic 110, 3) := by decide +kernel
theorem dX6_share_21 : decode cX6_share 21 = .ok (.ifCond .eq 7, 3) := by decide +kernel
theorem dX6_share_24 : decode cX6_share 24 = .ok (.ldc2_w 119, 3) := by decide +kernel
theorem dX6_share_27 : decode cX6_share 27 = .ok (.lreturn, 1) := by decide +kernel
theorem dX6_share_28 : decode cX6_share 28 = .ok (.aload_n 0, 1) := by decide +kernel
theorem dX6_share_29 : decode cX6_share 29 = .ok (.iload_n 2, 1) := by decide +kernel
theorem dX6_share_30 : decode cX6_share 30 = .ok (.invokevirtual 121, 3) := by decide +kernel
theorem dX6_share_33 : decode cX6_share 33 = .ok (.aload_n 0, 1) := by decide +kernel
theorem dX6_share_34 : decode cX6_share 34 = .ok (.getfield 65, 3) := by decide +kernel
theorem dX6_share_37 : decode cX6_share 37 = .ok (.iload_n 1, 1) := by decide +kernel
theorem dX6_share_38 : decode cX6_share 38 = .ok (.laload, 1) := by decide +kernel
theorem dX6_share_39 : decode cX6_share 39 = .ok (.lreturn, 1) := by decide +kernel
set_option maxRecDepth 20000 in
theorem ggX6_days_X6_noUnit : GoodIn wsX6_days wsX6_noUnit := goodIn_r _ [11, 12, 13, 14, 10, 15, 37, 38, 39, 40, 41, 42, 43, 44, 45, 46, 47, 48, 49, 50, 51, 52, 53, 54, 55, 56, 57, 58, 59, 60, 61, 62] (by decide +kernel) (by decide +kernel)
set_option maxRecDepth 20000 in
theorem gX6_days_X6_noUnit : GoodIn wsX6_days (wsV RX6 106 RX6 yX6_noUnit wsX6_noUnit) := goodIn_app (goodIn_of _ (by decide +kernel)) ggX6_days_X6_noUnit
set_option maxRecDepth 20000 in
theorem ggX6_days_X6_noDay : GoodIn wsX6_days wsX6_noDay := goodIn_r _ [18, 19, 13, 14, 10, 15] (by decide +kernel) (by decide +kernel)
set_option maxRecDepth 20000 in
theorem gX6_days_X6_noDay : GoodIn wsX6_days (va_wsS RX6 110 yX6_noDay wsX6_noDay) := goodIn_app (goodIn_of _ (by decide +kernel)) ggX6_days_X6_noDay
set_option maxRecDepth 20000 in
theorem ggX6_days_X6_shares : GoodIn wsX6_days wsX6_shares := goodIn_r _ [23, 6, 24, 25, 26, 27, 28, 29, 30, 10, 31, 32, 33, 4, 34, 35, 5, 36, 37, 38, 39, 40, 41, 42, 43, 44, 45, 46, 47, 48, 49, 50, 51, 52, 53, 54, 55, 56, 57, 58, 59, 60, 61, 62] (by decide +kernel) (by decide +kernel)
set_option maxRecDepth 20000 in
theorem gX6_days_X6_shares : GoodIn wsX6_days (wsV RX6 121 RX6 yX6_shares wsX6_shares) := goodIn_app (goodIn_of _ (by decide +kernel)) ggX6_days_X6_shares
theorem dX6_days_0 : decode cX6_days 0 = .ok (.aload_n 0, 1) := by decide +kernel
theorem dX6_days_1 : decode cX6_days 1 = .ok (.iconst 0, 1) := by decide +kernel
theorem dX6_days_2 : decode cX6_days 2 = .ok (.putfield 76, 3) := by decide +kernel
theorem dX6_days_5 : decode cX6_days 5 = .ok (.aload_n 0, 1) := by decide +kernel
theorem dX6_days_6 : decode cX6_days 6 = .ok (.iload_n 1, 1) := by decide +kernel
theorem dX6_days_7 : decode cX6_days 7 = .ok (.invokevirtual 106, 3) := by decide +kernel
theorem dX6_days_10 : decode cX6_days 10 = .ok (.ifCond .eq 7, 3) := by decide +kernel
theorem dX6_days_13 : decode cX6_days 13 = .ok (.ldc2_w 117, 3) := by decide +kernel
theorem dX6_days_16 : decode cX6_days 16 = .ok (.lreturn, 1) := by decide +kernel
theorem dX6_days_17 : decode cX6_days 17 = .ok (.iload_n 2, 1) := by decide +kernel
theorem dX6_days_18 : decode cX6_days 18 = .ok (.invokestatic 110, 3) := by decide +kernel
theorem dX6_days_21 : decode cX6_days 21 = .ok (.ifCond .ne 15, 3) := by decide +kernel
theorem dX6_days_24 : decode cX6_days 24 = .ok (.iload_n 3, 1) := by decide +kernel
theorem dX6_days_25 : decode cX6_days 25 = .ok (.invokestatic 110, 3) := by decide +kernel
theorem dX6_days_28 : decode cX6_days 28 = .ok (.ifCond .ne 8, 3) := by decide +kernel
theorem dX6_days_31 : decode cX6_days 31 = .ok (.iload_n 3, 1) := by decide +kernel
theorem dX6_days_32 : decode cX6_days 32 = .ok (.iload_n 2, 1) := by decide +kernel
theorem dX6_days_33 : decode cX6_days 33 = .ok (.if_icmp .ge 7, 3) := by decide +kernel
theorem dX6_days_36 : decode cX6_days 36 = .ok (.ldc2_w 119, 3) := by decide +kernel
theorem dX6_days_39 : decode cX6_days 39 = .ok (.lreturn, 1) := by decide +kernel
theorem dX6_days_40 : decode cX6_days 40 = .ok (.lconst 0, 1) := by decide +kernel
theorem dX6_days_41 : decode cX6_days 41 = .ok (.lstore 4, 2) := by decide +kernel
theorem dX6_days_43 : decode cX6_days 43 = .ok (.iload_n 2, 1) := by decide +kernel
theorem dX6_days_44 : decode cX6_days 44 = .ok (.istore 6, 2) := by decide +kernel
theorem dX6_days_46 : decode cX6_days 46 = .ok (.iload 6, 2) := by decide +kernel
theorem dX6_days_48 : decode cX6_days 48 = .ok (.iload_n 3, 1) := by decide +kernel
theorem dX6_days_49 : decode cX6_days 49 = .ok (.if_icmp .gt 95, 3) := by decide +kernel
theorem dX6_days_52 : decode cX6_days 52 = .ok (.iload_n 3, 1) := by decide +kernel
theorem dX6_days_53 : decode cX6_days 53 = .ok (.iconst 1, 1) := by decide +kernel
theorem dX6_days_54 : decode cX6_days 54 = .ok (.iadd, 1) := by decide +kernel
theorem dX6_days_55 : decode cX6_days 55 = .ok (.istore 7, 2) := by decide +kernel
theorem dX6_days_57 : decode cX6_days 57 = .ok (.iconst 0, 1) := by decide +kernel
theorem dX6_days_58 : decode cX6_days 58 = .ok (.istore 8, 2) := by decide +kernel
theorem dX6_days_60 : decode cX6_days 60 = .ok (.iload 8, 2) := by decide +kernel
theorem dX6_days_62 : decode cX6_days 62 = .ok (.aload_n 0, 1) := by decide +kernel
theorem dX6_days_63 : decode cX6_days 63 = .ok (.getfield 93, 3) := by decide +kernel
theorem dX6_days_66 : decode cX6_days 66 = .ok (.if_icmp .ge 47, 3) := by decide +kernel
theorem dX6_days_69 : decode cX6_days 69 = .ok (.aload_n 0, 1) := by decide +kernel
theorem dX6_days_70 : decode cX6_days 70 = .ok (.getfield 23, 3) := by decide +kernel
theorem dX6_days_73 : decode cX6_days 73 = .ok (.iload 8, 2) := by decide +kernel
theorem dX6_days_75 : decode cX6_days 75 = .ok (.iaload, 1) := by decide +kernel
theorem dX6_days_76 : decode cX6_days 76 = .ok (.iload 6, 2) := by decide +kernel
theorem dX6_days_78 : decode cX6_days 78 = .ok (.if_icmp .le 25, 3) := by decide +kernel
theorem dX6_days_81 : decode cX6_days 81 = .ok (.aload_n 0, 1) := by decide +kernel
theorem dX6_days_82 : decode cX6_days 82 = .ok (.getfield 23, 3) := by decide +kernel
theorem dX6_days_85 : decode cX6_days 85 = .ok (.iload 8, 2) := by decide +kernel
theorem dX6_days_87 : decode cX6_days 87 = .ok (.iaload, 1) := by decide +kernel
theorem dX6_days_88 : decode cX6_days 88 = .ok (.iload 7, 2) := by decide +kernel
theorem dX6_days_90 : decode cX6_days 90 = .ok (.if_icmp .ge 13, 3) := by decide +kernel
theorem dX6_days_93 : decode cX6_days 93 = .ok (.aload_n 0, 1) := by decide +kernel
theorem dX6_days_94 : decode cX6_days 94 = .ok (.getfield 23, 3) := by decide +kernel
theorem dX6_days_97 : decode cX6_days 97 = .ok (.iload 8, 2) := by decide +kernel
theorem dX6_days_99 : decode cX6_days 99 = .ok (.iaload, 1) := by decide +kernel
theorem dX6_days_100 : decode cX6_days 100 = .ok (.goto 5, 3) := by decide +kernel
theorem dX6_days_103 : decode cX6_days 103 = .ok (.iload 7, 2) := by decide +kernel
theorem dX6_days_105 : decode cX6_days 105 = .ok (.istore 7, 2) := by decide +kernel
theorem dX6_days_107 : decode cX6_days 107 = .ok (.iinc 8 1, 3) := by decide +kernel
theorem dX6_days_110 : decode cX6_days 110 = .ok (.goto (-50), 3) := by decide +kernel
theorem dX6_days_113 : decode cX6_days 113 = .ok (.aload_n 0, 1) := by decide +kernel
theorem dX6_days_114 : decode cX6_days 114 = .ok (.iload 6, 2) := by decide +kernel
theorem dX6_days_116 : decode cX6_days 116 = .ok (.invokevirtual 121, 3) := by decide +kernel
theorem dX6_days_119 : decode cX6_days 119 = .ok (.lload 4, 2) := by decide +kernel
theorem dX6_days_121 : decode cX6_days 121 = .ok (.aload_n 0, 1) := by decide +kernel
theorem dX6_days_122 : decode cX6_days 122 = .ok (.getfield 65, 3) := by decide +kernel
theorem dX6_days_125 : decode cX6_days 125 = .ok (.iload_n 1, 1) := by decide +kernel
theorem dX6_days_126 : decode cX6_days 126 = .ok (.laload, 1) := by decide +kernel
theorem dX6_days_127 : decode cX6_days 127 = .ok (.iload 7, 2) := by decide +kernel
theorem dX6_days_129 : decode cX6_days 129 = .ok (.iload 6, 2) := by decide +kernel
theorem dX6_days_131 : decode cX6_days 131 = .ok (.isub, 1) := by decide +kernel
theorem dX6_days_132 : decode cX6_days 132 = .ok (.i2l, 1) := by decide +kernel
theorem dX6_days_133 : decode cX6_days 133 = .ok (.lmul, 1) := by decide +kernel
theorem dX6_days_134 : decode cX6_days 134 = .ok (.ladd, 1) := by decide +kernel
theorem dX6_days_135 : decode cX6_days 135 = .ok (.lstore 4, 2) := by decide +kernel
theorem dX6_days_137 : decode cX6_days 137 = .ok (.iload 7, 2) := by decide +kernel
theorem dX6_days_139 : decode cX6_days 139 = .ok (.istore 6, 2) := by decide +kernel
theorem dX6_days_141 : decode cX6_days 141 = .ok (.goto (-95), 3) := by decide +kernel
theorem dX6_days_144 : decode cX6_days 144 = .ok (.lload 4, 2) := by decide +kernel
theorem dX6_days_146 : decode cX6_days 146 = .ok (.lreturn, 1) := by decide +kernel
set_option maxRecDepth 20000 in
theorem ggX6_row_X6_noUnit : GoodIn wsX6_row wsX6_noUnit := goodIn_r _ [14, 15, 16, 17, 13, 18, 23, 24, 25, 26, 27, 28, 29, 30, 31, 32, 33, 34, 35, 36, 37, 38, 39, 40, 41, 42, 43, 44, 45, 46, 47, 48] (by decide +kernel) (by decide +kernel)
set_option maxRecDepth 20000 in
theorem gX6_row_X6_noUnit : GoodIn wsX6_row (wsV RX6 106 RX6 yX6_noUnit wsX6_noUnit) := goodIn_app (goodIn_of _ (by decide +kernel)) ggX6_row_X6_noUnit
set_option maxRecDepth 20000 in
theorem ggX6_row_X6_in : GoodIn wsX6_row wsX6_in := goodIn_r _ [18] (by decide +kernel) (by decide +kernel)
set_option maxRecDepth 20000 in
theorem gX6_row_X6_in : GoodIn wsX6_row (va_wsS RX6 79 yX6_in wsX6_in) := goodIn_app (goodIn_of _ (by decide +kernel)) ggX6_row_X6_in
set_option maxRecDepth 20000 in
theorem ggX6_row_X6_noDay : GoodIn wsX6_row wsX6_noDay := goodIn_r _ [21, 22, 16, 17, 13, 18] (by decide +kernel) (by decide +kernel)
set_option maxRecDepth 20000 in
theorem gX6_row_X6_noDay : GoodIn wsX6_row (va_wsS RX6 110 yX6_noDay wsX6_noDay) := goodIn_app (goodIn_of _ (by decide +kernel)) ggX6_row_X6_noDay
theorem dX6_row_0 : decode cX6_row 0 = .ok (.aload_n 0, 1) := by decide +kernel
theorem dX6_row_1 : decode cX6_row 1 = .ok (.iconst 0, 1) := by decide +kernel
theorem dX6_row_2 : decode cX6_row 2 = .ok (.putfield 76, 3) := by decide +kernel
theorem dX6_row_5 : decode cX6_row 5 = .ok (.aload_n 0, 1) := by decide +kernel
theorem dX6_row_6 : decode cX6_row 6 = .ok (.iload_n 1, 1) := by decide +kernel
theorem dX6_row_7 : decode cX6_row 7 = .ok (.invokevirtual 106, 3) := by decide +kernel
theorem dX6_row_10 : decode cX6_row 10 = .ok (.ifCond .ne 19, 3) := by decide +kernel
theorem dX6_row_13 : decode cX6_row 13 = .ok (.iload 5, 2) := by decide +kernel
theorem dX6_row_15 : decode cX6_row 15 = .ok (.bipush (-9), 2) := by decide +kernel
theorem dX6_row_17 : decode cX6_row 17 = .ok (.if_icmp .eq 14, 3) := by decide +kernel
theorem dX6_row_20 : decode cX6_row 20 = .ok (.aload_n 0, 1) := by decide +kernel
theorem dX6_row_21 : decode cX6_row 21 = .ok (.iload 5, 2) := by decide +kernel
theorem dX6_row_23 : decode cX6_row 23 = .ok (.invokevirtual 106, 3) := by decide +kernel
theorem dX6_row_26 : decode cX6_row 26 = .ok (.ifCond .eq 5, 3) := by decide +kernel
theorem dX6_row_29 : decode cX6_row 29 = .ok (.iconst (-1), 1) := by decide +kernel
theorem dX6_row_30 : decode cX6_row 30 = .ok (.ireturn, 1) := by decide +kernel
theorem dX6_row_31 : decode cX6_row 31 = .ok (.iload_n 2, 1) := by decide +kernel
theorem dX6_row_32 : decode cX6_row 32 = .ok (.i2l, 1) := by decide +kernel
theorem dX6_row_33 : decode cX6_row 33 = .ok (.lconst 0, 1) := by decide +kernel
theorem dX6_row_34 : decode cX6_row 34 = .ok (.ldc2_w 124, 3) := by decide +kernel
theorem dX6_row_37 : decode cX6_row 37 = .ok (.invokestatic 79, 3) := by decide +kernel
theorem dX6_row_40 : decode cX6_row 40 = .ok (.ifCond .eq 23, 3) := by decide +kernel
theorem dX6_row_43 : decode cX6_row 43 = .ok (.iload_n 3, 1) := by decide +kernel
theorem dX6_row_44 : decode cX6_row 44 = .ok (.i2l, 1) := by decide +kernel
theorem dX6_row_45 : decode cX6_row 45 = .ok (.lconst 1, 1) := by decide +kernel
theorem dX6_row_46 : decode cX6_row 46 = .ok (.ldc2_w 126, 3) := by decide +kernel
theorem dX6_row_49 : decode cX6_row 49 = .ok (.invokestatic 79, 3) := by decide +kernel
theorem dX6_row_52 : decode cX6_row 52 = .ok (.ifCond .eq 11, 3) := by decide +kernel
theorem dX6_row_55 : decode cX6_row 55 = .ok (.iload 4, 2) := by decide +kernel
theorem dX6_row_57 : decode cX6_row 57 = .ok (.invokestatic 110, 3) := by decide +kernel
theorem dX6_row_60 : decode cX6_row 60 = .ok (.ifCond .eq 6, 3) := by decide +kernel
theorem dX6_row_63 : decode cX6_row 63 = .ok (.bipush (-2), 2) := by decide +kernel
theorem dX6_row_65 : decode cX6_row 65 = .ok (.ireturn, 1) := by decide +kernel
theorem dX6_row_66 : decode cX6_row 66 = .ok (.iload 5, 2) := by decide +kernel
theorem dX6_row_68 : decode cX6_row 68 = .ok (.iload_n 1, 1) := by decide +kernel
theorem dX6_row_69 : decode cX6_row 69 = .ok (.if_icmp .ne 6, 3) := by decide +kernel
theorem dX6_row_72 : decode cX6_row 72 = .ok (.bipush (-3), 2) := by decide +kernel
theorem dX6_row_74 : decode cX6_row 74 = .ok (.ireturn, 1) := by decide +kernel
theorem dX6_row_75 : decode cX6_row 75 = .ok (.aload_n 0, 1) := by decide +kernel
theorem dX6_row_76 : decode cX6_row 76 = .ok (.getfield 90, 3) := by decide +kernel
theorem dX6_row_79 : decode cX6_row 79 = .ok (.sipush 200, 3) := by decide +kernel
theorem dX6_row_82 : decode cX6_row 82 = .ok (.if_icmp .ne 6, 3) := by decide +kernel
theorem dX6_row_85 : decode cX6_row 85 = .ok (.bipush (-4), 2) := by decide +kernel
theorem dX6_row_87 : decode cX6_row 87 = .ok (.ireturn, 1) := by decide +kernel
theorem dX6_row_88 : decode cX6_row 88 = .ok (.aload_n 0, 1) := by decide +kernel
theorem dX6_row_89 : decode cX6_row 89 = .ok (.getfield 26, 3) := by decide +kernel
theorem dX6_row_92 : decode cX6_row 92 = .ok (.aload_n 0, 1) := by decide +kernel
theorem dX6_row_93 : decode cX6_row 93 = .ok (.getfield 90, 3) := by decide +kernel
theorem dX6_row_96 : decode cX6_row 96 = .ok (.iload_n 1, 1) := by decide +kernel
theorem dX6_row_97 : decode cX6_row 97 = .ok (.iastore, 1) := by decide +kernel
theorem dX6_row_98 : decode cX6_row 98 = .ok (.aload_n 0, 1) := by decide +kernel
theorem dX6_row_99 : decode cX6_row 99 = .ok (.getfield 29, 3) := by decide +kernel
theorem dX6_row_102 : decode cX6_row 102 = .ok (.aload_n 0, 1) := by decide +kernel
theorem dX6_row_103 : decode cX6_row 103 = .ok (.getfield 90, 3) := by decide +kernel
theorem dX6_row_106 : decode cX6_row 106 = .ok (.iload_n 2, 1) := by decide +kernel
theorem dX6_row_107 : decode cX6_row 107 = .ok (.iastore, 1) := by decide +kernel
theorem dX6_row_108 : decode cX6_row 108 = .ok (.aload_n 0, 1) := by decide +kernel
theorem dX6_row_109 : decode cX6_row 109 = .ok (.getfield 32, 3) := by decide +kernel
theorem dX6_row_112 : decode cX6_row 112 = .ok (.aload_n 0, 1) := by decide +kernel
theorem dX6_row_113 : decode cX6_row 113 = .ok (.getfield 90, 3) := by decide +kernel
theorem dX6_row_116 : decode cX6_row 116 = .ok (.iload_n 3, 1) := by decide +kernel
theorem dX6_row_117 : decode cX6_row 117 = .ok (.iastore, 1) := by decide +kernel
theorem dX6_row_118 : decode cX6_row 118 = .ok (.aload_n 0, 1) := by decide +kernel
theorem dX6_row_119 : decode cX6_row 119 = .ok (.getfield 35, 3) := by decide +kernel
theorem dX6_row_122 : decode cX6_row 122 = .ok (.aload_n 0, 1) := by decide +kernel
theorem dX6_row_123 : decode cX6_row 123 = .ok (.getfield 90, 3) := by decide +kernel
theorem dX6_row_126 : decode cX6_row 126 = .ok (.iload 4, 2) := by decide +kernel
theorem dX6_row_128 : decode cX6_row 128 = .ok (.iastore, 1) := by decide +kernel
theorem dX6_row_129 : decode cX6_row 129 = .ok (.aload_n 0, 1) := by decide +kernel
theorem dX6_row_130 : decode cX6_row 130 = .ok (.getfield 38, 3) := by decide +kernel
theorem dX6_row_133 : decode cX6_row 133 = .ok (.aload_n 0, 1) := by decide +kernel
theorem dX6_row_134 : decode cX6_row 134 = .ok (.getfield 90, 3) := by decide +kernel
theorem dX6_row_137 : decode cX6_row 137 = .ok (.iload 5, 2) := by decide +kernel
theorem dX6_row_139 : decode cX6_row 139 = .ok (.iastore, 1) := by decide +kernel
theorem dX6_row_140 : decode cX6_row 140 = .ok (.aload_n 0, 1) := by decide +kernel
theorem dX6_row_141 : decode cX6_row 141 = .ok (.dup, 1) := by decide +kernel
theorem dX6_row_142 : decode cX6_row 142 = .ok (.getfield 90, 3) := by decide +kernel
theorem dX6_row_145 : decode cX6_row 145 = .ok (.iconst 1, 1) := by decide +kernel
theorem dX6_row_146 : decode cX6_row 146 = .ok (.iadd, 1) := by decide +kernel
theorem dX6_row_147 : decode cX6_row 147 = .ok (.putfield 90, 3) := by decide +kernel
theorem dX6_row_150 : decode cX6_row 150 = .ok (.aload_n 0, 1) := by decide +kernel
theorem dX6_row_151 : decode cX6_row 151 = .ok (.getfield 90, 3) := by decide +kernel
theorem dX6_row_154 : decode cX6_row 154 = .ok (.iconst 1, 1) := by decide +kernel
theorem dX6_row_155 : decode cX6_row 155 = .ok (.isub, 1) := by decide +kernel
theorem dX6_row_156 : decode cX6_row 156 = .ok (.ireturn, 1) := by decide +kernel
set_option maxRecDepth 20000 in
theorem ggX6_isDouble_X6_shares : GoodIn wsX6_isDouble wsX6_shares := goodIn_r _ [8, 2, 9, 10, 11, 12, 13, 14, 15, 7, 16, 17, 18, 19, 20, 21, 22, 23, 24, 25, 26, 27, 28, 29, 30, 31, 32, 33, 34, 35, 36, 37, 38, 39, 40, 41, 42, 43, 44, 45, 46, 47, 48, 49] (by decide +kernel) (by decide +kernel)
set_option maxRecDepth 20000 in
theorem gX6_isDouble_X6_shares : GoodIn wsX6_isDouble (wsV RX6 121 RX6 yX6_shares wsX6_shares) := goodIn_app (goodIn_of _ (by decide +kernel)) ggX6_isDouble_X6_shares
theorem dX6_isDouble_0 : decode cX6_isDouble 0 = .ok (.aload_n 0, 1) := by decide +kernel
theorem dX6_isDouble_1 : decode cX6_isDouble 1 = .ok (.getfield 38, 3) := by decide +kernel
theorem dX6_isDouble_4 : decode cX6_isDouble 4 = .ok (.iload_n 1, 1) := by decide +kernel
theorem dX6_isDouble_5 : decode cX6_isDouble 5 = .ok (.iaload, 1) := by decide +kernel
theorem dX6_isDouble_6 : decode cX6_isDouble 6 = .ok (.bipush (-9), 2) := by decide +kernel
theorem dX6_isDouble_8 : decode cX6_isDouble 8 = .ok (.if_icmp .ne 5, 3) := by decide +kernel
theorem dX6_isDouble_11 : decode cX6_isDouble 11 = .ok (.iconst 0, 1) := by decide +kernel
theorem dX6_isDouble_12 : decode cX6_isDouble 12 = .ok (.ireturn, 1) := by decide +kernel
theorem dX6_isDouble_13 : decode cX6_isDouble 13 = .ok (.aload_n 0, 1) := by decide +kernel
theorem dX6_isDouble_14 : decode cX6_isDouble 14 = .ok (.iload_n 2, 1) := by decide +kernel
theorem dX6_isDouble_15 : decode cX6_isDouble 15 = .ok (.invokevirtual 121, 3) := by decide +kernel
theorem dX6_isDouble_18 : decode cX6_isDouble 18 = .ok (.aload_n 0, 1) := by decide +kernel
theorem dX6_isDouble_19 : decode cX6_isDouble 19 = .ok (.getfield 65, 3) := by decide +kernel
theorem dX6_isDouble_22 : decode cX6_isDouble 22 = .ok (.aload_n 0, 1) := by decide +kernel
theorem dX6_isDouble_23 : decode cX6_isDouble 23 = .ok (.getfield 26, 3) := by decide +kernel
theorem dX6_isDouble_26 : decode cX6_isDouble 26 = .ok (.iload_n 1, 1) := by decide +kernel
theorem dX6_isDouble_27 : decode cX6_isDouble 27 = .ok (.iaload, 1) := by decide +kernel
theorem dX6_isDouble_28 : decode cX6_isDouble 28 = .ok (.laload, 1) := by decide +kernel
theorem dX6_isDouble_29 : decode cX6_isDouble 29 = .ok (.lconst 0, 1) := by decide +kernel
theorem dX6_isDouble_30 : decode cX6_isDouble 30 = .ok (.lcmp, 1) := by decide +kernel
theorem dX6_isDouble_31 : decode cX6_isDouble 31 = .ok (.ifCond .le 23, 3) := by decide +kernel
theorem dX6_isDouble_34 : decode cX6_isDouble 34 = .ok (.aload_n 0, 1) := by decide +kernel
theorem dX6_isDouble_35 : decode cX6_isDouble 35 = .ok (.getfield 65, 3) := by decide +kernel
theorem dX6_isDouble_38 : decode cX6_isDouble 38 = .ok (.aload_n 0, 1) := by decide +kernel
theorem dX6_isDouble_39 : decode cX6_isDouble 39 = .ok (.getfield 38, 3) := by decide +kernel
theorem dX6_isDouble_42 : decode cX6_isDouble 42 = .ok (.iload_n 1, 1) := by decide +kernel
theorem dX6_isDouble_43 : decode cX6_isDouble 43 = .ok (.iaload, 1) := by decide +kernel
theorem dX6_isDouble_44 : decode cX6_isDouble 44 = .ok (.laload, 1) := by decide +kernel
theorem dX6_isDouble_45 : decode cX6_isDouble 45 = .ok (.lconst 0, 1) := by decide +kernel
theorem dX6_isDouble_46 : decode cX6_isDouble 46 = .ok (.lcmp, 1) := by decide +kernel
theorem dX6_isDouble_47 : decode cX6_isDouble 47 = .ok (.ifCond .le 7, 3) := by decide +kernel
theorem dX6_isDouble_50 : decode cX6_isDouble 50 = .ok (.iconst 1, 1) := by decide +kernel
theorem dX6_isDouble_51 : decode cX6_isDouble 51 = .ok (.goto 4, 3) := by decide +kernel
theorem dX6_isDouble_54 : decode cX6_isDouble 54 = .ok (.iconst 0, 1) := by decide +kernel
theorem dX6_isDouble_55 : decode cX6_isDouble 55 = .ok (.ireturn, 1) := by decide +kernel
set_option maxRecDepth 20000 in
theorem ggX6_told_X6_noRow : GoodIn wsX6_told wsX6_noRow := goodIn_r _ [12, 13, 14, 15, 11, 16, 41, 42, 43, 44, 45, 46, 47, 48, 49, 50, 51, 52, 53, 54, 55, 56, 57, 58, 59, 60, 61, 62, 63, 64, 65, 66] (by decide +kernel) (by decide +kernel)
set_option maxRecDepth 20000 in
theorem gX6_told_X6_noRow : GoodIn wsX6_told (wsV RX6 128 RX6 yX6_noRow wsX6_noRow) := goodIn_app (goodIn_of _ (by decide +kernel)) ggX6_told_X6_noRow
set_option maxRecDepth 20000 in
theorem ggX6_told_X6_isDouble : GoodIn wsX6_told wsX6_isDouble := goodIn_r _ [20, 6, 21, 2, 22, 23, 24, 11, 25, 26, 27, 28, 29, 30, 31, 32, 33, 34, 35, 36, 37, 38, 39, 40, 41, 42, 43, 44, 45, 46, 47, 48, 49, 50, 51, 52, 53, 54, 55, 56, 57, 58, 59, 60, 61, 62, 63, 64, 65, 66] (by decide +kernel) (by decide +kernel)
set_option maxRecDepth 20000 in
theorem gX6_told_X6_isDouble : GoodIn wsX6_told (wsV RX6 131 RX6 yX6_isDouble wsX6_isDouble) := goodIn_app (goodIn_of _ (by decide +kernel)) ggX6_told_X6_isDouble
theorem dX6_told_0 : decode cX6_told 0 = .ok (.aload_n 0, 1) := by decide +kernel
theorem dX6_told_1 : decode cX6_told 1 = .ok (.iconst 0, 1) := by decide +kernel
theorem dX6_told_2 : decode cX6_told 2 = .ok (.putfield 76, 3) := by decide +kernel
theorem dX6_told_5 : decode cX6_told 5 = .ok (.aload_n 0, 1) := by decide +kernel
theorem dX6_told_6 : decode cX6_told 6 = .ok (.iload_n 1, 1) := by decide +kernel
theorem dX6_told_7 : decode cX6_told 7 = .ok (.invokevirtual 128, 3) := by decide +kernel
theorem dX6_told_10 : decode cX6_told 10 = .ok (.ifCond .eq 5, 3) := by decide +kernel
theorem dX6_told_13 : decode cX6_told 13 = .ok (.iconst (-1), 1) := by decide +kernel
theorem dX6_told_14 : decode cX6_told 14 = .ok (.ireturn, 1) := by decide +kernel
theorem dX6_told_15 : decode cX6_told 15 = .ok (.iload_n 2, 1) := by decide +kernel
theorem dX6_told_16 : decode cX6_told 16 = .ok (.tableswitch 106 0 6 #[44, 51, 58, 65, 72, 79, 99], 44) := by decide +kernel
theorem dX6_told_60 : decode cX6_told 60 = .ok (.aload_n 0, 1) := by decide +kernel
theorem dX6_told_61 : decode cX6_told 61 = .ok (.getfield 26, 3) := by decide +kernel
theorem dX6_told_64 : decode cX6_told 64 = .ok (.iload_n 1, 1) := by decide +kernel
theorem dX6_told_65 : decode cX6_told 65 = .ok (.iaload, 1) := by decide +kernel
theorem dX6_told_66 : decode cX6_told 66 = .ok (.ireturn, 1) := by decide +kernel
theorem dX6_told_67 : decode cX6_told 67 = .ok (.aload_n 0, 1) := by decide +kernel
theorem dX6_told_68 : decode cX6_told 68 = .ok (.getfield 29, 3) := by decide +kernel
theorem dX6_told_71 : decode cX6_told 71 = .ok (.iload_n 1, 1) := by decide +kernel
theorem dX6_told_72 : decode cX6_told 72 = .ok (.iaload, 1) := by decide +kernel
theorem dX6_told_73 : decode cX6_told 73 = .ok (.ireturn, 1) := by decide +kernel
theorem dX6_told_74 : decode cX6_told 74 = .ok (.aload_n 0, 1) := by decide +kernel
theorem dX6_told_75 : decode cX6_told 75 = .ok (.getfield 32, 3) := by decide +kernel
theorem dX6_told_78 : decode cX6_told 78 = .ok (.iload_n 1, 1) := by decide +kernel
theorem dX6_told_79 : decode cX6_told 79 = .ok (.iaload, 1) := by decide +kernel
theorem dX6_told_80 : decode cX6_told 80 = .ok (.ireturn, 1) := by decide +kernel
theorem dX6_told_81 : decode cX6_told 81 = .ok (.aload_n 0, 1) := by decide +kernel
theorem dX6_told_82 : decode cX6_told 82 = .ok (.getfield 35, 3) := by decide +kernel
theorem dX6_told_85 : decode cX6_told 85 = .ok (.iload_n 1, 1) := by decide +kernel
theorem dX6_told_86 : decode cX6_told 86 = .ok (.iaload, 1) := by decide +kernel
theorem dX6_told_87 : decode cX6_told 87 = .ok (.ireturn, 1) := by decide +kernel
theorem dX6_told_88 : decode cX6_told 88 = .ok (.aload_n 0, 1) := by decide +kernel
theorem dX6_told_89 : decode cX6_told 89 = .ok (.getfield 38, 3) := by decide +kernel
theorem dX6_told_92 : decode cX6_told 92 = .ok (.iload_n 1, 1) := by decide +kernel
theorem dX6_told_93 : decode cX6_told 93 = .ok (.iaload, 1) := by decide +kernel
theorem dX6_told_94 : decode cX6_told 94 = .ok (.ireturn, 1) := by decide +kernel
theorem dX6_told_95 : decode cX6_told 95 = .ok (.aload_n 0, 1) := by decide +kernel
theorem dX6_told_96 : decode cX6_told 96 = .ok (.iload_n 1, 1) := by decide +kernel
theorem dX6_told_97 : decode cX6_told 97 = .ok (.aload_n 0, 1) := by decide +kernel
theorem dX6_told_98 : decode cX6_told 98 = .ok (.getfield 35, 3) := by decide +kernel
theorem dX6_told_101 : decode cX6_told 101 = .ok (.iload_n 1, 1) := by decide +kernel
theorem dX6_told_102 : decode cX6_told 102 = .ok (.iaload, 1) := by decide +kernel
theorem dX6_told_103 : decode cX6_told 103 = .ok (.invokevirtual 131, 3) := by decide +kernel
theorem dX6_told_106 : decode cX6_told 106 = .ok (.ifCond .eq 7, 3) := by decide +kernel
theorem dX6_told_109 : decode cX6_told 109 = .ok (.iconst 1, 1) := by decide +kernel
theorem dX6_told_110 : decode cX6_told 110 = .ok (.goto 4, 3) := by decide +kernel
theorem dX6_told_113 : decode cX6_told 113 = .ok (.iconst 0, 1) := by decide +kernel
theorem dX6_told_114 : decode cX6_told 114 = .ok (.ireturn, 1) := by decide +kernel
theorem dX6_told_115 : decode cX6_told 115 = .ok (.aload_n 0, 1) := by decide +kernel
theorem dX6_told_116 : decode cX6_told 116 = .ok (.getfield 41, 3) := by decide +kernel
theorem dX6_told_119 : decode cX6_told 119 = .ok (.iload_n 1, 1) := by decide +kernel
theorem dX6_told_120 : decode cX6_told 120 = .ok (.iaload, 1) := by decide +kernel
theorem dX6_told_121 : decode cX6_told 121 = .ok (.ireturn, 1) := by decide +kernel
theorem dX6_told_122 : decode cX6_told 122 = .ok (.bipush (-2), 2) := by decide +kernel
theorem dX6_told_124 : decode cX6_told 124 = .ok (.ireturn, 1) := by decide +kernel
set_option maxRecDepth 20000 in
theorem ggX6_factor_X6_in : GoodIn wsX6_factor wsX6_in := goodIn_r _ [11] (by decide +kernel) (by decide +kernel)
set_option maxRecDepth 20000 in
theorem gX6_factor_X6_in : GoodIn wsX6_factor (va_wsS RX6 79 yX6_in wsX6_in) := goodIn_app (goodIn_of _ (by decide +kernel)) ggX6_factor_X6_in
set_option maxRecDepth 20000 in
theorem ggX6_factor_X6_noYear : GoodIn wsX6_factor wsX6_noYear := goodIn_r _ [14, 15, 8, 9, 10, 11] (by decide +kernel) (by decide +kernel)
set_option maxRecDepth 20000 in
theorem gX6_factor_X6_noYear : GoodIn wsX6_factor (va_wsS RX6 134 yX6_noYear wsX6_noYear) := goodIn_app (goodIn_of _ (by decide +kernel)) ggX6_factor_X6_noYear
theorem dX6_factor_0 : decode cX6_factor 0 = .ok (.aload_n 0, 1) := by decide +kernel
theorem dX6_factor_1 : decode cX6_factor 1 = .ok (.iconst 0, 1) := by decide +kernel
theorem dX6_factor_2 : decode cX6_factor 2 = .ok (.putfield 76, 3) := by decide +kernel
theorem dX6_factor_5 : decode cX6_factor 5 = .ok (.iload_n 1, 1) := by decide +kernel
theorem dX6_factor_6 : decode cX6_factor 6 = .ok (.i2l, 1) := by decide +kernel
theorem dX6_factor_7 : decode cX6_factor 7 = .ok (.lconst 0, 1) := by decide +kernel
theorem dX6_factor_8 : decode cX6_factor 8 = .ok (.ldc2_w 124, 3) := by decide +kernel
theorem dX6_factor_11 : decode cX6_factor 11 = .ok (.invokestatic 79, 3) := by decide +kernel
theorem dX6_factor_14 : decode cX6_factor 14 = .ok (.ifCond .eq 30, 3) := by decide +kernel
theorem dX6_factor_17 : decode cX6_factor 17 = .ok (.iload_n 2, 1) := by decide +kernel
theorem dX6_factor_18 : decode cX6_factor 18 = .ok (.invokestatic 134, 3) := by decide +kernel
theorem dX6_factor_21 : decode cX6_factor 21 = .ok (.ifCond .ne 23, 3) := by decide +kernel
theorem dX6_factor_24 : decode cX6_factor 24 = .ok (.iload_n 3, 1) := by decide +kernel
theorem dX6_factor_25 : decode cX6_factor 25 = .ok (.i2l, 1) := by decide +kernel
theorem dX6_factor_26 : decode cX6_factor 26 = .ok (.lconst 0, 1) := by decide +kernel
theorem dX6_factor_27 : decode cX6_factor 27 = .ok (.iload 4, 2) := by decide +kernel
theorem dX6_factor_29 : decode cX6_factor 29 = .ok (.i2l, 1) := by decide +kernel
theorem dX6_factor_30 : decode cX6_factor 30 = .ok (.invokestatic 79, 3) := by decide +kernel
theorem dX6_factor_33 : decode cX6_factor 33 = .ok (.ifCond .eq 11, 3) := by decide +kernel
theorem dX6_factor_36 : decode cX6_factor 36 = .ok (.iload 4, 2) := by decide +kernel
theorem dX6_factor_38 : decode cX6_factor 38 = .ok (.sipush 1000, 3) := by decide +kernel
theorem dX6_factor_41 : decode cX6_factor 41 = .ok (.if_icmp .le 6, 3) := by decide +kernel
theorem dX6_factor_44 : decode cX6_factor 44 = .ok (.bipush (-2), 2) := by decide +kernel
theorem dX6_factor_46 : decode cX6_factor 46 = .ok (.ireturn, 1) := by decide +kernel
theorem dX6_factor_47 : decode cX6_factor 47 = .ok (.aload_n 0, 1) := by decide +kernel
theorem dX6_factor_48 : decode cX6_factor 48 = .ok (.getfield 87, 3) := by decide +kernel
theorem dX6_factor_51 : decode cX6_factor 51 = .ok (.bipush 80, 2) := by decide +kernel
theorem dX6_factor_53 : decode cX6_factor 53 = .ok (.if_icmp .ne 6, 3) := by decide +kernel
theorem dX6_factor_56 : decode cX6_factor 56 = .ok (.bipush (-4), 2) := by decide +kernel
theorem dX6_factor_58 : decode cX6_factor 58 = .ok (.ireturn, 1) := by decide +kernel
theorem dX6_factor_59 : decode cX6_factor 59 = .ok (.aload_n 0, 1) := by decide +kernel
theorem dX6_factor_60 : decode cX6_factor 60 = .ok (.getfield 44, 3) := by decide +kernel
theorem dX6_factor_63 : decode cX6_factor 63 = .ok (.aload_n 0, 1) := by decide +kernel
theorem dX6_factor_64 : decode cX6_factor 64 = .ok (.getfield 87, 3) := by decide +kernel
theorem dX6_factor_67 : decode cX6_factor 67 = .ok (.iload_n 1, 1) := by decide +kernel
theorem dX6_factor_68 : decode cX6_factor 68 = .ok (.iastore, 1) := by decide +kernel
theorem dX6_factor_69 : decode cX6_factor 69 = .ok (.aload_n 0, 1) := by decide +kernel
theorem dX6_factor_70 : decode cX6_factor 70 = .ok (.getfield 47, 3) := by decide +kernel
theorem dX6_factor_73 : decode cX6_factor 73 = .ok (.aload_n 0, 1) := by decide +kernel
theorem dX6_factor_74 : decode cX6_factor 74 = .ok (.getfield 87, 3) := by decide +kernel
theorem dX6_factor_77 : decode cX6_factor 77 = .ok (.iload_n 2, 1) := by decide +kernel
theorem dX6_factor_78 : decode cX6_factor 78 = .ok (.iastore, 1) := by decide +kernel
theorem dX6_factor_79 : decode cX6_factor 79 = .ok (.aload_n 0, 1) := by decide +kernel
theorem dX6_factor_80 : decode cX6_factor 80 = .ok (.getfield 50, 3) := by decide +kernel
theorem dX6_factor_83 : decode cX6_factor 83 = .ok (.aload_n 0, 1) := by decide +kernel
theorem dX6_factor_84 : decode cX6_factor 84 = .ok (.getfield 87, 3) := by decide +kernel
theorem dX6_factor_87 : decode cX6_factor 87 = .ok (.iload_n 3, 1) := by decide +kernel
theorem dX6_factor_88 : decode cX6_factor 88 = .ok (.iastore, 1) := by decide +kernel
theorem dX6_factor_89 : decode cX6_factor 89 = .ok (.aload_n 0, 1) := by decide +kernel
theorem dX6_factor_90 : decode cX6_factor 90 = .ok (.getfield 53, 3) := by decide +kernel
theorem dX6_factor_93 : decode cX6_factor 93 = .ok (.aload_n 0, 1) := by decide +kernel
theorem dX6_factor_94 : decode cX6_factor 94 = .ok (.getfield 87, 3) := by decide +kernel
theorem dX6_factor_97 : decode cX6_factor 97 = .ok (.iload 4, 2) := by decide +kernel
theorem dX6_factor_99 : decode cX6_factor 99 = .ok (.iastore, 1) := by decide +kernel
theorem dX6_factor_100 : decode cX6_factor 100 = .ok (.aload_n 0, 1) := by decide +kernel
theorem dX6_factor_101 : decode cX6_factor 101 = .ok (.dup, 1) := by decide +kernel
theorem dX6_factor_102 : decode cX6_factor 102 = .ok (.getfield 87, 3) := by decide +kernel
theorem dX6_factor_105 : decode cX6_factor 105 = .ok (.iconst 1, 1) := by decide +kernel
theorem dX6_factor_106 : decode cX6_factor 106 = .ok (.iadd, 1) := by decide +kernel
theorem dX6_factor_107 : decode cX6_factor 107 = .ok (.putfield 87, 3) := by decide +kernel
theorem dX6_factor_110 : decode cX6_factor 110 = .ok (.aload_n 0, 1) := by decide +kernel
theorem dX6_factor_111 : decode cX6_factor 111 = .ok (.getfield 87, 3) := by decide +kernel
theorem dX6_factor_114 : decode cX6_factor 114 = .ok (.iconst 1, 1) := by decide +kernel
theorem dX6_factor_115 : decode cX6_factor 115 = .ok (.isub, 1) := by decide +kernel
theorem dX6_factor_116 : decode cX6_factor 116 = .ok (.ireturn, 1) := by decide +kernel
theorem dX6_versionOf_0 : decode cX6_versionOf 0 = .ok (.bipush (-9), 2) := by decide +kernel
theorem dX6_versionOf_2 : decode cX6_versionOf 2 = .ok (.istore 4, 2) := by decide +kernel
theorem dX6_versionOf_4 : decode cX6_versionOf 4 = .ok (.iconst 0, 1) := by decide +kernel
theorem dX6_versionOf_5 : decode cX6_versionOf 5 = .ok (.istore 5, 2) := by decide +kernel
theorem dX6_versionOf_7 : decode cX6_versionOf 7 = .ok (.iload 5, 2) := by decide +kernel
theorem dX6_versionOf_9 : decode cX6_versionOf 9 = .ok (.aload_n 0, 1) := by decide +kernel
theorem dX6_versionOf_10 : decode cX6_versionOf 10 = .ok (.getfield 87, 3) := by decide +kernel
theorem dX6_versionOf_13 : decode cX6_versionOf 13 = .ok (.if_icmp .ge 76, 3) := by decide +kernel
theorem dX6_versionOf_16 : decode cX6_versionOf 16 = .ok (.iload_n 3, 1) := by decide +kernel
theorem dX6_versionOf_17 : decode cX6_versionOf 17 = .ok (.bipush (-9), 2) := by decide +kernel
theorem dX6_versionOf_19 : decode cX6_versionOf 19 = .ok (.if_icmp .eq 9, 3) := by decide +kernel
theorem dX6_versionOf_22 : decode cX6_versionOf 22 = .ok (.iload 5, 2) := by decide +kernel
theorem dX6_versionOf_24 : decode cX6_versionOf 24 = .ok (.iload_n 3, 1) := by decide +kernel
theorem dX6_versionOf_25 : decode cX6_versionOf 25 = .ok (.if_icmp .gt 64, 3) := by decide +kernel
theorem dX6_versionOf_28 : decode cX6_versionOf 28 = .ok (.aload_n 0, 1) := by decide +kernel
theorem dX6_versionOf_29 : decode cX6_versionOf 29 = .ok (.getfield 44, 3) := by decide +kernel
theorem dX6_versionOf_32 : decode cX6_versionOf 32 = .ok (.iload 5, 2) := by decide +kernel
theorem dX6_versionOf_34 : decode cX6_versionOf 34 = .ok (.iaload, 1) := by decide +kernel
theorem dX6_versionOf_35 : decode cX6_versionOf 35 = .ok (.iload_n 1, 1) := by decide +kernel
theorem dX6_versionOf_36 : decode cX6_versionOf 36 = .ok (.if_icmp .ne 43, 3) := by decide +kernel
theorem dX6_versionOf_39 : decode cX6_versionOf 39 = .ok (.aload_n 0, 1) := by decide +kernel
theorem dX6_versionOf_40 : decode cX6_versionOf 40 = .ok (.getfield 47, 3) := by decide +kernel
theorem dX6_versionOf_43 : decode cX6_versionOf 43 = .ok (.iload 5, 2) := by decide +kernel
theorem dX6_versionOf_45 : decode cX6_versionOf 45 = .ok (.iaload, 1) := by decide +kernel
theorem dX6_versionOf_46 : decode cX6_versionOf 46 = .ok (.iload_n 2, 1) := by decide +kernel
theorem dX6_versionOf_47 : decode cX6_versionOf 47 = .ok (.if_icmp .gt 32, 3) := by decide +kernel
theorem dX6_versionOf_50 : decode cX6_versionOf 50 = .ok (.iload 4, 2) := by decide +kernel
theorem dX6_versionOf_52 : decode cX6_versionOf 52 = .ok (.bipush (-9), 2) := by decide +kernel
theorem dX6_versionOf_54 : decode cX6_versionOf 54 = .ok (.if_icmp .eq 20, 3) := by decide +kernel
theorem dX6_versionOf_57 : decode cX6_versionOf 57 = .ok (.aload_n 0, 1) := by decide +kernel
theorem dX6_versionOf_58 : decode cX6_versionOf 58 = .ok (.getfield 47, 3) := by decide +kernel
theorem dX6_versionOf_61 : decode cX6_versionOf 61 = .ok (.iload 5, 2) := by decide +kernel
theorem dX6_versionOf_63 : decode cX6_versionOf 63 = .ok (.iaload, 1) := by decide +kernel
theorem dX6_versionOf_64 : decode cX6_versionOf 64 = .ok (.aload_n 0, 1) := by decide +kernel
theorem dX6_versionOf_65 : decode cX6_versionOf 65 = .ok (.getfield 47, 3) := by decide +kernel
theorem dX6_versionOf_68 : decode cX6_versionOf 68 = .ok (.iload 4, 2) := by decide +kernel
theorem dX6_versionOf_70 : decode cX6_versionOf 70 = .ok (.iaload, 1) := by decide +kernel
theorem dX6_versionOf_71 : decode cX6_versionOf 71 = .ok (.if_icmp .lt 8, 3) := by decide +kernel
theorem dX6_versionOf_74 : decode cX6_versionOf 74 = .ok (.iload 5, 2) := by decide +kernel
theorem dX6_versionOf_76 : decode cX6_versionOf 76 = .ok (.goto 5, 3) := by decide +kernel
theorem dX6_versionOf_79 : decode cX6_versionOf 79 = .ok (.iload 4, 2) := by decide +kernel
theorem dX6_versionOf_81 : decode cX6_versionOf 81 = .ok (.istore 4, 2) := by decide +kernel
theorem dX6_versionOf_83 : decode cX6_versionOf 83 = .ok (.iinc 5 1, 3) := by decide +kernel
theorem dX6_versionOf_86 : decode cX6_versionOf 86 = .ok (.goto (-79), 3) := by decide +kernel
theorem dX6_versionOf_89 : decode cX6_versionOf 89 = .ok (.iload 4, 2) := by decide +kernel
theorem dX6_versionOf_91 : decode cX6_versionOf 91 = .ok (.ireturn, 1) := by decide +kernel
set_option maxRecDepth 20000 in
theorem ggX6_factorOf_X6_versionOf : GoodIn wsX6_factorOf wsX6_versionOf := goodIn_r _ [7, 8, 9, 10, 11, 12, 13, 14, 15, 16, 17, 18, 19, 20, 21, 22, 23, 24, 25, 26, 27, 28, 29, 30, 31, 32, 33, 34, 35, 36] (by decide +kernel) (by decide +kernel)
set_option maxRecDepth 20000 in
theorem gX6_factorOf_X6_versionOf : GoodIn wsX6_factorOf (wsV RX6 137 RX6 yX6_versionOf wsX6_versionOf) := goodIn_app (goodIn_of _ (by decide +kernel)) ggX6_factorOf_X6_versionOf
theorem dX6_factorOf_0 : decode cX6_factorOf 0 = .ok (.aload_n 0, 1) := by decide +kernel
theorem dX6_factorOf_1 : decode cX6_factorOf 1 = .ok (.iload_n 1, 1) := by decide +kernel
theorem dX6_factorOf_2 : decode cX6_factorOf 2 = .ok (.iload_n 2, 1) := by decide +kernel
theorem dX6_factorOf_3 : decode cX6_factorOf 3 = .ok (.iload_n 3, 1) := by decide +kernel
theorem dX6_factorOf_4 : decode cX6_factorOf 4 = .ok (.invokevirtual 137, 3) := by decide +kernel
theorem dX6_factorOf_7 : decode cX6_factorOf 7 = .ok (.istore 5, 2) := by decide +kernel
theorem dX6_factorOf_9 : decode cX6_factorOf 9 = .ok (.iload 5, 2) := by decide +kernel
theorem dX6_factorOf_11 : decode cX6_factorOf 11 = .ok (.bipush (-9), 2) := by decide +kernel
theorem dX6_factorOf_13 : decode cX6_factorOf 13 = .ok (.if_icmp .ne 8, 3) := by decide +kernel
theorem dX6_factorOf_16 : decode cX6_factorOf 16 = .ok (.bipush (-9), 2) := by decide +kernel
theorem dX6_factorOf_18 : decode cX6_factorOf 18 = .ok (.goto 25, 3) := by decide +kernel
theorem dX6_factorOf_21 : decode cX6_factorOf 21 = .ok (.iload 4, 2) := by decide +kernel
theorem dX6_factorOf_23 : decode cX6_factorOf 23 = .ok (.ifCond .eq 13, 3) := by decide +kernel
theorem dX6_factorOf_26 : decode cX6_factorOf 26 = .ok (.aload_n 0, 1) := by decide +kernel
theorem dX6_factorOf_27 : decode cX6_factorOf 27 = .ok (.getfield 53, 3) := by decide +kernel
theorem dX6_factorOf_30 : decode cX6_factorOf 30 = .ok (.iload 5, 2) := by decide +kernel
theorem dX6_factorOf_32 : decode cX6_factorOf 32 = .ok (.iaload, 1) := by decide +kernel
theorem dX6_factorOf_33 : decode cX6_factorOf 33 = .ok (.goto 10, 3) := by decide +kernel
theorem dX6_factorOf_36 : decode cX6_factorOf 36 = .ok (.aload_n 0, 1) := by decide +kernel
theorem dX6_factorOf_37 : decode cX6_factorOf 37 = .ok (.getfield 50, 3) := by decide +kernel
theorem dX6_factorOf_40 : decode cX6_factorOf 40 = .ok (.iload 5, 2) := by decide +kernel
theorem dX6_factorOf_42 : decode cX6_factorOf 42 = .ok (.iaload, 1) := by decide +kernel
theorem dX6_factorOf_43 : decode cX6_factorOf 43 = .ok (.ireturn, 1) := by decide +kernel
set_option maxRecDepth 20000 in
theorem ggX6_factorAs_X6_noAs : GoodIn wsX6_factorAs wsX6_noAs := goodIn_r _ [7, 8, 9, 10, 6, 11, 28, 29, 30, 31, 32, 33, 34, 35, 36, 37, 38, 39, 40, 41, 42, 43, 44, 45, 46, 47, 48, 49, 50, 51, 52, 53] (by decide +kernel) (by decide +kernel)
set_option maxRecDepth 20000 in
theorem gX6_factorAs_X6_noAs : GoodIn wsX6_factorAs (wsV RX6 141 RX6 yX6_noAs wsX6_noAs) := goodIn_app (goodIn_of _ (by decide +kernel)) ggX6_factorAs_X6_noAs
set_option maxRecDepth 20000 in
theorem ggX6_factorAs_X6_in : GoodIn wsX6_factorAs wsX6_in := goodIn_r _ [11] (by decide +kernel) (by decide +kernel)
set_option maxRecDepth 20000 in
theorem gX6_factorAs_X6_in : GoodIn wsX6_factorAs (va_wsS RX6 79 yX6_in wsX6_in) := goodIn_app (goodIn_of _ (by decide +kernel)) ggX6_factorAs_X6_in
set_option maxRecDepth 20000 in
theorem ggX6_factorAs_X6_noYear : GoodIn wsX6_factorAs wsX6_noYear := goodIn_r _ [14, 15, 9, 10, 6, 11] (by decide +kernel) (by decide +kernel)
set_option maxRecDepth 20000 in
theorem gX6_factorAs_X6_noYear : GoodIn wsX6_factorAs (va_wsS RX6 134 yX6_noYear wsX6_noYear) := goodIn_app (goodIn_of _ (by decide +kernel)) ggX6_factorAs_X6_noYear
set_option maxRecDepth 20000 in
theorem ggX6_factorAs_X6_factorOf : GoodIn wsX6_factorAs wsX6_factorOf := goodIn_r _ [19, 20, 21, 22, 23, 24, 6, 25, 8, 26, 27, 28, 29, 30, 31, 32, 33, 34, 35, 36, 37, 38, 39, 40, 41, 42, 43, 44, 45, 46, 47, 48, 49, 50, 51, 52, 53] (by decide +kernel) (by decide +kernel)
set_option maxRecDepth 20000 in
theorem gX6_factorAs_X6_factorOf : GoodIn wsX6_factorAs (wsV RX6 144 RX6 yX6_factorOf wsX6_factorOf) := goodIn_app (goodIn_of _ (by decide +kernel)) ggX6_factorAs_X6_factorOf
theorem dX6_factorAs_0 : decode cX6_factorAs 0 = .ok (.aload_n 0, 1) := by decide +kernel
theorem dX6_factorAs_1 : decode cX6_factorAs 1 = .ok (.iconst 0, 1) := by decide +kernel
theorem dX6_factorAs_2 : decode cX6_factorAs 2 = .ok (.putfield 76, 3) := by decide +kernel
theorem dX6_factorAs_5 : decode cX6_factorAs 5 = .ok (.aload_n 0, 1) := by decide +kernel
theorem dX6_factorAs_6 : decode cX6_factorAs 6 = .ok (.iload_n 3, 1) := by decide +kernel
theorem dX6_factorAs_7 : decode cX6_factorAs 7 = .ok (.invokevirtual 141, 3) := by decide +kernel
theorem dX6_factorAs_10 : decode cX6_factorAs 10 = .ok (.ifCond .eq 5, 3) := by decide +kernel
theorem dX6_factorAs_13 : decode cX6_factorAs 13 = .ok (.iconst (-1), 1) := by decide +kernel
theorem dX6_factorAs_14 : decode cX6_factorAs 14 = .ok (.ireturn, 1) := by decide +kernel
theorem dX6_factorAs_15 : decode cX6_factorAs 15 = .ok (.iload_n 1, 1) := by decide +kernel
theorem dX6_factorAs_16 : decode cX6_factorAs 16 = .ok (.i2l, 1) := by decide +kernel
theorem dX6_factorAs_17 : decode cX6_factorAs 17 = .ok (.lconst 0, 1) := by decide +kernel
theorem dX6_factorAs_18 : decode cX6_factorAs 18 = .ok (.ldc2_w 124, 3) := by decide +kernel
theorem dX6_factorAs_21 : decode cX6_factorAs 21 = .ok (.invokestatic 79, 3) := by decide +kernel
theorem dX6_factorAs_24 : decode cX6_factorAs 24 = .ok (.ifCond .eq 10, 3) := by decide +kernel
theorem dX6_factorAs_27 : decode cX6_factorAs 27 = .ok (.iload_n 2, 1) := by decide +kernel
theorem dX6_factorAs_28 : decode cX6_factorAs 28 = .ok (.invokestatic 134, 3) := by decide +kernel
theorem dX6_factorAs_31 : decode cX6_factorAs 31 = .ok (.ifCond .eq 8, 3) := by decide +kernel
theorem dX6_factorAs_34 : decode cX6_factorAs 34 = .ok (.bipush (-2), 2) := by decide +kernel
theorem dX6_factorAs_36 : decode cX6_factorAs 36 = .ok (.goto 12, 3) := by decide +kernel
theorem dX6_factorAs_39 : decode cX6_factorAs 39 = .ok (.aload_n 0, 1) := by decide +kernel
theorem dX6_factorAs_40 : decode cX6_factorAs 40 = .ok (.iload_n 1, 1) := by decide +kernel
theorem dX6_factorAs_41 : decode cX6_factorAs 41 = .ok (.iload_n 2, 1) := by decide +kernel
theorem dX6_factorAs_42 : decode cX6_factorAs 42 = .ok (.iload_n 3, 1) := by decide +kernel
theorem dX6_factorAs_43 : decode cX6_factorAs 43 = .ok (.iload 4, 2) := by decide +kernel
theorem dX6_factorAs_45 : decode cX6_factorAs 45 = .ok (.invokevirtual 144, 3) := by decide +kernel
theorem dX6_factorAs_48 : decode cX6_factorAs 48 = .ok (.ireturn, 1) := by decide +kernel
set_option maxRecDepth 20000 in
theorem ggX6_tonsOf_X6_factorOf : GoodIn wsX6_tonsOf wsX6_factorOf := goodIn_r _ [10, 11, 12, 13, 14, 15, 9, 16, 17, 18, 19, 20, 21, 22, 23, 24, 25, 26, 27, 28, 29, 30, 31, 32, 33, 34, 35, 36, 37, 38, 39, 40, 41, 42, 43, 44, 45] (by decide +kernel) (by decide +kernel)
set_option maxRecDepth 20000 in
theorem gX6_tonsOf_X6_factorOf : GoodIn wsX6_tonsOf (wsV RX6 144 RX6 yX6_factorOf wsX6_factorOf) := goodIn_app (goodIn_of _ (by decide +kernel)) ggX6_tonsOf_X6_factorOf
theorem dX6_tonsOf_0 : decode cX6_tonsOf 0 = .ok (.aload_n 0, 1) := by decide +kernel
theorem dX6_tonsOf_1 : decode cX6_tonsOf 1 = .ok (.aload_n 0, 1) := by decide +kernel
theorem dX6_tonsOf_2 : decode cX6_tonsOf 2 = .ok (.getfield 29, 3) := by decide +kernel
theorem dX6_tonsOf_5 : decode cX6_tonsOf 5 = .ok (.iload_n 1, 1) := by decide +kernel
theorem dX6_tonsOf_6 : decode cX6_tonsOf 6 = .ok (.iaload, 1) := by decide +kernel
theorem dX6_tonsOf_7 : decode cX6_tonsOf 7 = .ok (.aload_n 0, 1) := by decide +kernel
theorem dX6_tonsOf_8 : decode cX6_tonsOf 8 = .ok (.getfield 35, 3) := by decide +kernel
theorem dX6_tonsOf_11 : decode cX6_tonsOf 11 = .ok (.iload_n 1, 1) := by decide +kernel
theorem dX6_tonsOf_12 : decode cX6_tonsOf 12 = .ok (.iaload, 1) := by decide +kernel
theorem dX6_tonsOf_13 : decode cX6_tonsOf 13 = .ok (.sipush 365, 3) := by decide +kernel
theorem dX6_tonsOf_16 : decode cX6_tonsOf 16 = .ok (.idiv, 1) := by decide +kernel
theorem dX6_tonsOf_17 : decode cX6_tonsOf 17 = .ok (.iload_n 2, 1) := by decide +kernel
theorem dX6_tonsOf_18 : decode cX6_tonsOf 18 = .ok (.iload 4, 2) := by decide +kernel
theorem dX6_tonsOf_20 : decode cX6_tonsOf 20 = .ok (.invokevirtual 144, 3) := by decide +kernel
theorem dX6_tonsOf_23 : decode cX6_tonsOf 23 = .ok (.istore 5, 2) := by decide +kernel
theorem dX6_tonsOf_25 : decode cX6_tonsOf 25 = .ok (.aload_n 0, 1) := by decide +kernel
theorem dX6_tonsOf_26 : decode cX6_tonsOf 26 = .ok (.getfield 32, 3) := by decide +kernel
theorem dX6_tonsOf_29 : decode cX6_tonsOf 29 = .ok (.iload_n 1, 1) := by decide +kernel
theorem dX6_tonsOf_30 : decode cX6_tonsOf 30 = .ok (.iaload, 1) := by decide +kernel
theorem dX6_tonsOf_31 : decode cX6_tonsOf 31 = .ok (.iload_n 3, 1) := by decide +kernel
theorem dX6_tonsOf_32 : decode cX6_tonsOf 32 = .ok (.ifCond .eq 22, 3) := by decide +kernel
theorem dX6_tonsOf_35 : decode cX6_tonsOf 35 = .ok (.aload_n 0, 1) := by decide +kernel
theorem dX6_tonsOf_36 : decode cX6_tonsOf 36 = .ok (.getfield 29, 3) := by decide +kernel
theorem dX6_tonsOf_39 : decode cX6_tonsOf 39 = .ok (.iload_n 1, 1) := by decide +kernel
theorem dX6_tonsOf_40 : decode cX6_tonsOf 40 = .ok (.iaload, 1) := by decide +kernel
theorem dX6_tonsOf_41 : decode cX6_tonsOf 41 = .ok (.iconst 1, 1) := by decide +kernel
theorem dX6_tonsOf_42 : decode cX6_tonsOf 42 = .ok (.if_icmp .ne 12, 3) := by decide +kernel
theorem dX6_tonsOf_45 : decode cX6_tonsOf 45 = .ok (.aload_n 0, 1) := by decide +kernel
theorem dX6_tonsOf_46 : decode cX6_tonsOf 46 = .ok (.getfield 41, 3) := by decide +kernel
theorem dX6_tonsOf_49 : decode cX6_tonsOf 49 = .ok (.iload_n 1, 1) := by decide +kernel
theorem dX6_tonsOf_50 : decode cX6_tonsOf 50 = .ok (.iaload, 1) := by decide +kernel
theorem dX6_tonsOf_51 : decode cX6_tonsOf 51 = .ok (.goto 4, 3) := by decide +kernel
theorem dX6_tonsOf_54 : decode cX6_tonsOf 54 = .ok (.iconst 0, 1) := by decide +kernel
theorem dX6_tonsOf_55 : decode cX6_tonsOf 55 = .ok (.isub, 1) := by decide +kernel
theorem dX6_tonsOf_56 : decode cX6_tonsOf 56 = .ok (.istore 6, 2) := by decide +kernel
theorem dX6_tonsOf_58 : decode cX6_tonsOf 58 = .ok (.iload 5, 2) := by decide +kernel
theorem dX6_tonsOf_60 : decode cX6_tonsOf 60 = .ok (.bipush (-9), 2) := by decide +kernel
theorem dX6_tonsOf_62 : decode cX6_tonsOf 62 = .ok (.if_icmp .ne 9, 3) := by decide +kernel
theorem dX6_tonsOf_65 : decode cX6_tonsOf 65 = .ok (.ldc2_w 148, 3) := by decide +kernel
theorem dX6_tonsOf_68 : decode cX6_tonsOf 68 = .ok (.goto 10, 3) := by decide +kernel
theorem dX6_tonsOf_71 : decode cX6_tonsOf 71 = .ok (.iload 6, 2) := by decide +kernel
theorem dX6_tonsOf_73 : decode cX6_tonsOf 73 = .ok (.i2l, 1) := by decide +kernel
theorem dX6_tonsOf_74 : decode cX6_tonsOf 74 = .ok (.iload 5, 2) := by decide +kernel
theorem dX6_tonsOf_76 : decode cX6_tonsOf 76 = .ok (.i2l, 1) := by decide +kernel
theorem dX6_tonsOf_77 : decode cX6_tonsOf 77 = .ok (.lmul, 1) := by decide +kernel
theorem dX6_tonsOf_78 : decode cX6_tonsOf 78 = .ok (.lreturn, 1) := by decide +kernel
set_option maxRecDepth 20000 in
theorem ggX6_tons_X6_noRow : GoodIn wsX6_tons wsX6_noRow := goodIn_r _ [7, 8, 9, 10, 6, 11, 38, 39, 40, 41, 42, 43, 44, 45, 46, 47, 48, 49, 50, 51, 52, 53, 54, 55, 56, 57, 58, 59, 60, 61, 62, 63] (by decide +kernel) (by decide +kernel)
set_option maxRecDepth 20000 in
theorem gX6_tons_X6_noRow : GoodIn wsX6_tons (wsV RX6 128 RX6 yX6_noRow wsX6_noRow) := goodIn_app (goodIn_of _ (by decide +kernel)) ggX6_tons_X6_noRow
set_option maxRecDepth 20000 in
theorem ggX6_tons_X6_noAs : GoodIn wsX6_tons wsX6_noAs := goodIn_r _ [15, 16, 9, 10, 6, 11, 38, 39, 40, 41, 42, 43, 44, 45, 46, 47, 48, 49, 50, 51, 52, 53, 54, 55, 56, 57, 58, 59, 60, 61, 62, 63] (by decide +kernel) (by decide +kernel)
set_option maxRecDepth 20000 in
theorem gX6_tons_X6_noAs : GoodIn wsX6_tons (wsV RX6 141 RX6 yX6_noAs wsX6_noAs) := goodIn_app (goodIn_of _ (by decide +kernel)) ggX6_tons_X6_noAs
set_option maxRecDepth 20000 in
theorem ggX6_tons_X6_tonsOf : GoodIn wsX6_tons wsX6_tonsOf := goodIn_r _ [20, 21, 22, 23, 24, 25, 26, 27, 28, 6, 29, 30, 31, 32, 33, 34, 35, 16, 36, 37, 38, 39, 40, 41, 42, 43, 44, 45, 46, 47, 48, 49, 50, 51, 52, 53, 54, 55, 56, 57, 58, 59, 60, 61, 62, 63] (by decide +kernel) (by decide +kernel)
set_option maxRecDepth 20000 in
theorem gX6_tons_X6_tonsOf : GoodIn wsX6_tons (wsV RX6 150 RX6 yX6_tonsOf wsX6_tonsOf) := goodIn_app (goodIn_of _ (by decide +kernel)) ggX6_tons_X6_tonsOf
theorem dX6_tons_0 : decode cX6_tons 0 = .ok (.aload_n 0, 1) := by decide +kernel
theorem dX6_tons_1 : decode cX6_tons 1 = .ok (.iconst 0, 1) := by decide +kernel
theorem dX6_tons_2 : decode cX6_tons 2 = .ok (.putfield 76, 3) := by decide +kernel
theorem dX6_tons_5 : decode cX6_tons 5 = .ok (.aload_n 0, 1) := by decide +kernel
theorem dX6_tons_6 : decode cX6_tons 6 = .ok (.iload_n 1, 1) := by decide +kernel
theorem dX6_tons_7 : decode cX6_tons 7 = .ok (.invokevirtual 128, 3) := by decide +kernel
theorem dX6_tons_10 : decode cX6_tons 10 = .ok (.ifCond .ne 11, 3) := by decide +kernel
theorem dX6_tons_13 : decode cX6_tons 13 = .ok (.aload_n 0, 1) := by decide +kernel
theorem dX6_tons_14 : decode cX6_tons 14 = .ok (.iload_n 2, 1) := by decide +kernel
theorem dX6_tons_15 : decode cX6_tons 15 = .ok (.invokevirtual 141, 3) := by decide +kernel
theorem dX6_tons_18 : decode cX6_tons 18 = .ok (.ifCond .eq 9, 3) := by decide +kernel
theorem dX6_tons_21 : decode cX6_tons 21 = .ok (.ldc2_w 117, 3) := by decide +kernel
theorem dX6_tons_24 : decode cX6_tons 24 = .ok (.goto 12, 3) := by decide +kernel
theorem dX6_tons_27 : decode cX6_tons 27 = .ok (.aload_n 0, 1) := by decide +kernel
theorem dX6_tons_28 : decode cX6_tons 28 = .ok (.iload_n 1, 1) := by decide +kernel
theorem dX6_tons_29 : decode cX6_tons 29 = .ok (.iload_n 2, 1) := by decide +kernel
theorem dX6_tons_30 : decode cX6_tons 30 = .ok (.iload_n 3, 1) := by decide +kernel
theorem dX6_tons_31 : decode cX6_tons 31 = .ok (.iload 4, 2) := by decide +kernel
theorem dX6_tons_33 : decode cX6_tons 33 = .ok (.invokevirtual 150, 3) := by decide +kernel
theorem dX6_tons_36 : decode cX6_tons 36 = .ok (.lreturn, 1) := by decide +kernel
set_option maxRecDepth 20000 in
theorem ggX6_isOther_X6_tonsOf : GoodIn wsX6_isOther wsX6_tonsOf := goodIn_r _ [5, 6, 7, 8, 9, 10, 11, 12, 13, 4, 14, 15, 16, 17, 18, 19, 20, 21, 22, 23, 24, 25, 26, 27, 28, 29, 30, 31, 32, 33, 34, 35, 36, 37, 38, 39, 40, 41, 42, 43, 44, 45, 46, 47, 48, 49] (by decide +kernel) (by decide +kernel)
set_option maxRecDepth 20000 in
theorem gX6_isOther_X6_tonsOf : GoodIn wsX6_isOther (wsV RX6 150 RX6 yX6_tonsOf wsX6_tonsOf) := goodIn_app (goodIn_of _ (by decide +kernel)) ggX6_isOther_X6_tonsOf
theorem dX6_isOther_0 : decode cX6_isOther 0 = .ok (.aload_n 0, 1) := by decide +kernel
theorem dX6_isOther_1 : decode cX6_isOther 1 = .ok (.iload_n 1, 1) := by decide +kernel
theorem dX6_isOther_2 : decode cX6_isOther 2 = .ok (.iload_n 2, 1) := by decide +kernel
theorem dX6_isOther_3 : decode cX6_isOther 3 = .ok (.iconst 0, 1) := by decide +kernel
theorem dX6_isOther_4 : decode cX6_isOther 4 = .ok (.iconst 0, 1) := by decide +kernel
theorem dX6_isOther_5 : decode cX6_isOther 5 = .ok (.invokevirtual 150, 3) := by decide +kernel
theorem dX6_isOther_8 : decode cX6_isOther 8 = .ok (.aload_n 0, 1) := by decide +kernel
theorem dX6_isOther_9 : decode cX6_isOther 9 = .ok (.iload_n 1, 1) := by decide +kernel
theorem dX6_isOther_10 : decode cX6_isOther 10 = .ok (.iload_n 3, 1) := by decide +kernel
theorem dX6_isOther_11 : decode cX6_isOther 11 = .ok (.iconst 0, 1) := by decide +kernel
theorem dX6_isOther_12 : decode cX6_isOther 12 = .ok (.iconst 0, 1) := by decide +kernel
theorem dX6_isOther_13 : decode cX6_isOther 13 = .ok (.invokevirtual 150, 3) := by decide +kernel
theorem dX6_isOther_16 : decode cX6_isOther 16 = .ok (.lcmp, 1) := by decide +kernel
theorem dX6_isOther_17 : decode cX6_isOther 17 = .ok (.ifCond .ne 23, 3) := by decide +kernel
theorem dX6_isOther_20 : decode cX6_isOther 20 = .ok (.aload_n 0, 1) := by decide +kernel
theorem dX6_isOther_21 : decode cX6_isOther 21 = .ok (.iload_n 1, 1) := by decide +kernel
theorem dX6_isOther_22 : decode cX6_isOther 22 = .ok (.iload_n 2, 1) := by decide +kernel
theorem dX6_isOther_23 : decode cX6_isOther 23 = .ok (.iconst 0, 1) := by decide +kernel
theorem dX6_isOther_24 : decode cX6_isOther 24 = .ok (.iconst 1, 1) := by decide +kernel
theorem dX6_isOther_25 : decode cX6_isOther 25 = .ok (.invokevirtual 150, 3) := by decide +kernel
theorem dX6_isOther_28 : decode cX6_isOther 28 = .ok (.aload_n 0, 1) := by decide +kernel
theorem dX6_isOther_29 : decode cX6_isOther 29 = .ok (.iload_n 1, 1) := by decide +kernel
theorem dX6_isOther_30 : decode cX6_isOther 30 = .ok (.iload_n 3, 1) := by decide +kernel
theorem dX6_isOther_31 : decode cX6_isOther 31 = .ok (.iconst 0, 1) := by decide +kernel
theorem dX6_isOther_32 : decode cX6_isOther 32 = .ok (.iconst 1, 1) := by decide +kernel
theorem dX6_isOther_33 : decode cX6_isOther 33 = .ok (.invokevirtual 150, 3) := by decide +kernel
theorem dX6_isOther_36 : decode cX6_isOther 36 = .ok (.lcmp, 1) := by decide +kernel
theorem dX6_isOther_37 : decode cX6_isOther 37 = .ok (.ifCond .eq 7, 3) := by decide +kernel
theorem dX6_isOther_40 : decode cX6_isOther 40 = .ok (.iconst 1, 1) := by decide +kernel
theorem dX6_isOther_41 : decode cX6_isOther 41 = .ok (.goto 4, 3) := by decide +kernel
theorem dX6_isOther_44 : decode cX6_isOther 44 = .ok (.iconst 0, 1) := by decide +kernel
theorem dX6_isOther_45 : decode cX6_isOther 45 = .ok (.ireturn, 1) := by decide +kernel
set_option maxRecDepth 20000 in
theorem ggX6_changed_X6_noAs : GoodIn wsX6_changed wsX6_noAs := goodIn_r _ [8, 9, 10, 11, 7, 12, 41, 42, 43, 44, 45, 46, 47, 48, 49, 50, 51, 52, 53, 54, 55, 56, 57, 58, 59, 60, 61, 62, 63, 64, 65, 66] (by decide +kernel) (by decide +kernel)
set_option maxRecDepth 20000 in
theorem gX6_changed_X6_noAs : GoodIn wsX6_changed (wsV RX6 141 RX6 yX6_noAs wsX6_noAs) := goodIn_app (goodIn_of _ (by decide +kernel)) ggX6_changed_X6_noAs
set_option maxRecDepth 20000 in
theorem ggX6_changed_X6_noYear : GoodIn wsX6_changed wsX6_noYear := goodIn_r _ [15, 16, 10, 11, 7, 12] (by decide +kernel) (by decide +kernel)
set_option maxRecDepth 20000 in
theorem gX6_changed_X6_noYear : GoodIn wsX6_changed (va_wsS RX6 134 yX6_noYear wsX6_noYear) := goodIn_app (goodIn_of _ (by decide +kernel)) ggX6_changed_X6_noYear
set_option maxRecDepth 20000 in
theorem ggX6_changed_X6_isOther : GoodIn wsX6_changed wsX6_isOther := goodIn_r _ [20, 21, 22, 23, 7, 24, 25, 3, 26, 27, 28, 29, 30, 31, 32, 33, 34, 35, 36, 37, 38, 9, 39, 40, 41, 42, 43, 44, 45, 46, 47, 48, 49, 50, 51, 52, 53, 54, 55, 56, 57, 58, 59, 60, 61, 62, 63, 64, 65, 66] (by decide +kernel) (by decide +kernel)
set_option maxRecDepth 20000 in
theorem gX6_changed_X6_isOther : GoodIn wsX6_changed (wsV RX6 154 RX6 yX6_isOther wsX6_isOther) := goodIn_app (goodIn_of _ (by decide +kernel)) ggX6_changed_X6_isOther
theorem dX6_changed_0 : decode cX6_changed 0 = .ok (.aload_n 0, 1) := by decide +kernel
theorem dX6_changed_1 : decode cX6_changed 1 = .ok (.iconst 0, 1) := by decide +kernel
theorem dX6_changed_2 : decode cX6_changed 2 = .ok (.putfield 76, 3) := by decide +kernel
theorem dX6_changed_5 : decode cX6_changed 5 = .ok (.aload_n 0, 1) := by decide +kernel
theorem dX6_changed_6 : decode cX6_changed 6 = .ok (.iload_n 2, 1) := by decide +kernel
theorem dX6_changed_7 : decode cX6_changed 7 = .ok (.invokevirtual 141, 3) := by decide +kernel
theorem dX6_changed_10 : decode cX6_changed 10 = .ok (.ifCond .ne 11, 3) := by decide +kernel
theorem dX6_changed_13 : decode cX6_changed 13 = .ok (.aload_n 0, 1) := by decide +kernel
theorem dX6_changed_14 : decode cX6_changed 14 = .ok (.iload_n 3, 1) := by decide +kernel
theorem dX6_changed_15 : decode cX6_changed 15 = .ok (.invokevirtual 141, 3) := by decide +kernel
theorem dX6_changed_18 : decode cX6_changed 18 = .ok (.ifCond .eq 5, 3) := by decide +kernel
theorem dX6_changed_21 : decode cX6_changed 21 = .ok (.iconst (-1), 1) := by decide +kernel
theorem dX6_changed_22 : decode cX6_changed 22 = .ok (.ireturn, 1) := by decide +kernel
theorem dX6_changed_23 : decode cX6_changed 23 = .ok (.iload_n 1, 1) := by decide +kernel
theorem dX6_changed_24 : decode cX6_changed 24 = .ok (.invokestatic 134, 3) := by decide +kernel
theorem dX6_changed_27 : decode cX6_changed 27 = .ok (.ifCond .eq 6, 3) := by decide +kernel
theorem dX6_changed_30 : decode cX6_changed 30 = .ok (.bipush (-2), 2) := by decide +kernel
theorem dX6_changed_32 : decode cX6_changed 32 = .ok (.ireturn, 1) := by decide +kernel
theorem dX6_changed_33 : decode cX6_changed 33 = .ok (.iconst 0, 1) := by decide +kernel
theorem dX6_changed_34 : decode cX6_changed 34 = .ok (.istore 4, 2) := by decide +kernel
theorem dX6_changed_36 : decode cX6_changed 36 = .ok (.iconst 0, 1) := by decide +kernel
theorem dX6_changed_37 : decode cX6_changed 37 = .ok (.istore 5, 2) := by decide +kernel
theorem dX6_changed_39 : decode cX6_changed 39 = .ok (.iload 5, 2) := by decide +kernel
theorem dX6_changed_41 : decode cX6_changed 41 = .ok (.aload_n 0, 1) := by decide +kernel
theorem dX6_changed_42 : decode cX6_changed 42 = .ok (.getfield 90, 3) := by decide +kernel
theorem dX6_changed_45 : decode cX6_changed 45 = .ok (.if_icmp .ge 45, 3) := by decide +kernel
theorem dX6_changed_48 : decode cX6_changed 48 = .ok (.iload 4, 2) := by decide +kernel
theorem dX6_changed_50 : decode cX6_changed 50 = .ok (.aload_n 0, 1) := by decide +kernel
theorem dX6_changed_51 : decode cX6_changed 51 = .ok (.getfield 35, 3) := by decide +kernel
theorem dX6_changed_54 : decode cX6_changed 54 = .ok (.iload 5, 2) := by decide +kernel
theorem dX6_changed_56 : decode cX6_changed 56 = .ok (.iaload, 1) := by decide +kernel
theorem dX6_changed_57 : decode cX6_changed 57 = .ok (.sipush 365, 3) := by decide +kernel
theorem dX6_changed_60 : decode cX6_changed 60 = .ok (.idiv, 1) := by decide +kernel
theorem dX6_changed_61 : decode cX6_changed 61 = .ok (.iload_n 1, 1) := by decide +kernel
theorem dX6_changed_62 : decode cX6_changed 62 = .ok (.if_icmp .ne 18, 3) := by decide +kernel
theorem dX6_changed_65 : decode cX6_changed 65 = .ok (.aload_n 0, 1) := by decide +kernel
theorem dX6_changed_66 : decode cX6_changed 66 = .ok (.iload 5, 2) := by decide +kernel
theorem dX6_changed_68 : decode cX6_changed 68 = .ok (.iload_n 2, 1) := by decide +kernel
theorem dX6_changed_69 : decode cX6_changed 69 = .ok (.iload_n 3, 1) := by decide +kernel
theorem dX6_changed_70 : decode cX6_changed 70 = .ok (.invokevirtual 154, 3) := by decide +kernel
theorem dX6_changed_73 : decode cX6_changed 73 = .ok (.ifCond .eq 7, 3) := by decide +kernel
theorem dX6_changed_76 : decode cX6_changed 76 = .ok (.iconst 1, 1) := by decide +kernel
theorem dX6_changed_77 : decode cX6_changed 77 = .ok (.goto 4, 3) := by decide +kernel
theorem dX6_changed_80 : decode cX6_changed 80 = .ok (.iconst 0, 1) := by decide +kernel
theorem dX6_changed_81 : decode cX6_changed 81 = .ok (.iadd, 1) := by decide +kernel
theorem dX6_changed_82 : decode cX6_changed 82 = .ok (.istore 4, 2) := by decide +kernel
theorem dX6_changed_84 : decode cX6_changed 84 = .ok (.iinc 5 1, 3) := by decide +kernel
theorem dX6_changed_87 : decode cX6_changed 87 = .ok (.goto (-48), 3) := by decide +kernel
theorem dX6_changed_90 : decode cX6_changed 90 = .ok (.iload 4, 2) := by decide +kernel
theorem dX6_changed_92 : decode cX6_changed 92 = .ok (.ireturn, 1) := by decide +kernel
set_option maxRecDepth 20000 in
theorem ggX6_change_X6_noAs : GoodIn wsX6_change wsX6_noAs := goodIn_r _ [8, 9, 10, 11, 7, 12, 41, 42, 43, 44, 45, 46, 47, 48, 49, 50, 51, 52, 53, 54, 55, 56, 57, 58, 59, 60, 61, 62, 63, 64, 65, 66] (by decide +kernel) (by decide +kernel)
set_option maxRecDepth 20000 in
theorem gX6_change_X6_noAs : GoodIn wsX6_change (wsV RX6 141 RX6 yX6_noAs wsX6_noAs) := goodIn_app (goodIn_of _ (by decide +kernel)) ggX6_change_X6_noAs
set_option maxRecDepth 20000 in
theorem ggX6_change_X6_noYear : GoodIn wsX6_change wsX6_noYear := goodIn_r _ [15, 16, 10, 11, 7, 12] (by decide +kernel) (by decide +kernel)
set_option maxRecDepth 20000 in
theorem gX6_change_X6_noYear : GoodIn wsX6_change (va_wsS RX6 134 yX6_noYear wsX6_noYear) := goodIn_app (goodIn_of _ (by decide +kernel)) ggX6_change_X6_noYear
set_option maxRecDepth 20000 in
theorem ggX6_change_X6_isOther : GoodIn wsX6_change wsX6_isOther := goodIn_r _ [20, 21, 22, 23, 7, 24, 25, 3, 26, 27, 28, 29, 30, 31, 32, 33, 34, 35, 36, 37, 38, 9, 39, 40, 41, 42, 43, 44, 45, 46, 47, 48, 49, 50, 51, 52, 53, 54, 55, 56, 57, 58, 59, 60, 61, 62, 63, 64, 65, 66] (by decide +kernel) (by decide +kernel)
set_option maxRecDepth 20000 in
theorem gX6_change_X6_isOther : GoodIn wsX6_change (wsV RX6 154 RX6 yX6_isOther wsX6_isOther) := goodIn_app (goodIn_of _ (by decide +kernel)) ggX6_change_X6_isOther
theorem dX6_change_0 : decode cX6_change 0 = .ok (.aload_n 0, 1) := by decide +kernel
theorem dX6_change_1 : decode cX6_change 1 = .ok (.iconst 0, 1) := by decide +kernel
theorem dX6_change_2 : decode cX6_change 2 = .ok (.putfield 76, 3) := by decide +kernel
theorem dX6_change_5 : decode cX6_change 5 = .ok (.aload_n 0, 1) := by decide +kernel
theorem dX6_change_6 : decode cX6_change 6 = .ok (.iload_n 3, 1) := by decide +kernel
theorem dX6_change_7 : decode cX6_change 7 = .ok (.invokevirtual 141, 3) := by decide +kernel
theorem dX6_change_10 : decode cX6_change 10 = .ok (.ifCond .ne 12, 3) := by decide +kernel
theorem dX6_change_13 : decode cX6_change 13 = .ok (.aload_n 0, 1) := by decide +kernel
theorem dX6_change_14 : decode cX6_change 14 = .ok (.iload 4, 2) := by decide +kernel
theorem dX6_change_16 : decode cX6_change 16 = .ok (.invokevirtual 141, 3) := by decide +kernel
theorem dX6_change_19 : decode cX6_change 19 = .ok (.ifCond .eq 5, 3) := by decide +kernel
theorem dX6_change_22 : decode cX6_change 22 = .ok (.iconst (-1), 1) := by decide +kernel
theorem dX6_change_23 : decode cX6_change 23 = .ok (.ireturn, 1) := by decide +kernel
theorem dX6_change_24 : decode cX6_change 24 = .ok (.iload_n 2, 1) := by decide +kernel
theorem dX6_change_25 : decode cX6_change 25 = .ok (.invokestatic 134, 3) := by decide +kernel
theorem dX6_change_28 : decode cX6_change 28 = .ok (.ifCond .eq 6, 3) := by decide +kernel
theorem dX6_change_31 : decode cX6_change 31 = .ok (.bipush (-2), 2) := by decide +kernel
theorem dX6_change_33 : decode cX6_change 33 = .ok (.ireturn, 1) := by decide +kernel
theorem dX6_change_34 : decode cX6_change 34 = .ok (.iconst 0, 1) := by decide +kernel
theorem dX6_change_35 : decode cX6_change 35 = .ok (.istore 5, 2) := by decide +kernel
theorem dX6_change_37 : decode cX6_change 37 = .ok (.iconst 0, 1) := by decide +kernel
theorem dX6_change_38 : decode cX6_change 38 = .ok (.istore 6, 2) := by decide +kernel
theorem dX6_change_40 : decode cX6_change 40 = .ok (.iload 6, 2) := by decide +kernel
theorem dX6_change_42 : decode cX6_change 42 = .ok (.aload_n 0, 1) := by decide +kernel
theorem dX6_change_43 : decode cX6_change 43 = .ok (.getfield 90, 3) := by decide +kernel
theorem dX6_change_46 : decode cX6_change 46 = .ok (.if_icmp .ge 48, 3) := by decide +kernel
theorem dX6_change_49 : decode cX6_change 49 = .ok (.aload_n 0, 1) := by decide +kernel
theorem dX6_change_50 : decode cX6_change 50 = .ok (.getfield 35, 3) := by decide +kernel
theorem dX6_change_53 : decode cX6_change 53 = .ok (.iload 6, 2) := by decide +kernel
theorem dX6_change_55 : decode cX6_change 55 = .ok (.iaload, 1) := by decide +kernel
theorem dX6_change_56 : decode cX6_change 56 = .ok (.sipush 365, 3) := by decide +kernel
theorem dX6_change_59 : decode cX6_change 59 = .ok (.idiv, 1) := by decide +kernel
theorem dX6_change_60 : decode cX6_change 60 = .ok (.iload_n 2, 1) := by decide +kernel
theorem dX6_change_61 : decode cX6_change 61 = .ok (.if_icmp .ne 27, 3) := by decide +kernel
theorem dX6_change_64 : decode cX6_change 64 = .ok (.aload_n 0, 1) := by decide +kernel
theorem dX6_change_65 : decode cX6_change 65 = .ok (.iload 6, 2) := by decide +kernel
theorem dX6_change_67 : decode cX6_change 67 = .ok (.iload_n 3, 1) := by decide +kernel
theorem dX6_change_68 : decode cX6_change 68 = .ok (.iload 4, 2) := by decide +kernel
theorem dX6_change_70 : decode cX6_change 70 = .ok (.invokevirtual 154, 3) := by decide +kernel
theorem dX6_change_73 : decode cX6_change 73 = .ok (.ifCond .eq 15, 3) := by decide +kernel
theorem dX6_change_76 : decode cX6_change 76 = .ok (.iload 5, 2) := by decide +kernel
theorem dX6_change_78 : decode cX6_change 78 = .ok (.iload_n 1, 1) := by decide +kernel
theorem dX6_change_79 : decode cX6_change 79 = .ok (.if_icmp .ne 6, 3) := by decide +kernel
theorem dX6_change_82 : decode cX6_change 82 = .ok (.iload 6, 2) := by decide +kernel
theorem dX6_change_84 : decode cX6_change 84 = .ok (.ireturn, 1) := by decide +kernel
theorem dX6_change_85 : decode cX6_change 85 = .ok (.iinc 5 1, 3) := by decide +kernel
theorem dX6_change_88 : decode cX6_change 88 = .ok (.iinc 6 1, 3) := by decide +kernel
theorem dX6_change_91 : decode cX6_change 91 = .ok (.goto (-51), 3) := by decide +kernel
theorem dX6_change_94 : decode cX6_change 94 = .ok (.bipush (-9), 2) := by decide +kernel
theorem dX6_change_96 : decode cX6_change 96 = .ok (.ireturn, 1) := by decide +kernel
set_option maxRecDepth 20000 in
theorem ggX6_totalOf_X6_isDouble : GoodIn wsX6_totalOf wsX6_isDouble := goodIn_r _ [10, 11, 4, 3, 12, 13, 14, 9, 15, 16, 17, 18, 19, 20, 21, 22, 23, 24, 25, 26, 27, 28, 29, 30, 51, 52, 53, 54, 55, 56, 57, 58, 59, 60, 61, 62, 63, 64, 65, 66, 67, 68, 69, 70, 71, 72, 73, 74, 75, 76] (by decide +kernel) (by decide +kernel)
set_option maxRecDepth 20000 in
theorem gX6_totalOf_X6_isDouble : GoodIn wsX6_totalOf (wsV RX6 131 RX6 yX6_isDouble wsX6_isDouble) := goodIn_app (goodIn_of _ (by decide +kernel)) ggX6_totalOf_X6_isDouble
set_option maxRecDepth 20000 in
theorem ggX6_totalOf_X6_shares : GoodIn wsX6_totalOf wsX6_shares := goodIn_r _ [15, 4, 16, 17, 18, 19, 20, 21, 22, 9, 23, 24, 25, 26, 27, 28, 29, 30, 51, 52, 53, 54, 55, 56, 57, 58, 59, 60, 61, 62, 63, 64, 65, 66, 67, 68, 69, 70, 71, 72, 73, 74, 75, 76] (by decide +kernel) (by decide +kernel)
set_option maxRecDepth 20000 in
theorem gX6_totalOf_X6_shares : GoodIn wsX6_totalOf (wsV RX6 121 RX6 yX6_shares wsX6_shares) := goodIn_app (goodIn_of _ (by decide +kernel)) ggX6_totalOf_X6_shares
set_option maxRecDepth 20000 in
theorem ggX6_totalOf_X6_tonsOf : GoodIn wsX6_totalOf wsX6_tonsOf := goodIn_r _ [34, 35, 2, 36, 37, 5, 38, 39, 40, 9, 41, 42, 43, 44, 45, 46, 47, 48, 49, 50, 51, 52, 53, 54, 55, 56, 57, 58, 59, 60, 61, 62, 63, 64, 65, 66, 67, 68, 69, 70, 71, 72, 73, 74, 75, 76] (by decide +kernel) (by decide +kernel)
set_option maxRecDepth 20000 in
theorem gX6_totalOf_X6_tonsOf : GoodIn wsX6_totalOf (wsV RX6 150 RX6 yX6_tonsOf wsX6_tonsOf) := goodIn_app (goodIn_of _ (by decide +kernel)) ggX6_totalOf_X6_tonsOf
theorem dX6_totalOf_0 : decode cX6_totalOf 0 = .ok (.lconst 0, 1) := by decide +kernel
theorem dX6_totalOf_1 : decode cX6_totalOf 1 = .ok (.lstore 8, 2) := by decide +kernel
theorem dX6_totalOf_3 : decode cX6_totalOf 3 = .ok (.iconst 0, 1) := by decide +kernel
theorem dX6_totalOf_4 : decode cX6_totalOf 4 = .ok (.istore 10, 2) := by decide +kernel
theorem dX6_totalOf_6 : decode cX6_totalOf 6 = .ok (.iload 10, 2) := by decide +kernel
theorem dX6_totalOf_8 : decode cX6_totalOf 8 = .ok (.aload_n 0, 1) := by decide +kernel
theorem dX6_totalOf_9 : decode cX6_totalOf 9 = .ok (.getfield 90, 3) := by decide +kernel
theorem dX6_totalOf_12 : decode cX6_totalOf 12 = .ok (.if_icmp .ge 167, 3) := by decide +kernel
theorem dX6_totalOf_15 : decode cX6_totalOf 15 = .ok (.iload_n 3, 1) := by decide +kernel
theorem dX6_totalOf_16 : decode cX6_totalOf 16 = .ok (.bipush (-9), 2) := by decide +kernel
theorem dX6_totalOf_18 : decode cX6_totalOf 18 = .ok (.if_icmp .ne 13, 3) := by decide +kernel
theorem dX6_totalOf_21 : decode cX6_totalOf 21 = .ok (.aload_n 0, 1) := by decide +kernel
theorem dX6_totalOf_22 : decode cX6_totalOf 22 = .ok (.getfield 35, 3) := by decide +kernel
theorem dX6_totalOf_25 : decode cX6_totalOf 25 = .ok (.iload 10, 2) := by decide +kernel
theorem dX6_totalOf_27 : decode cX6_totalOf 27 = .ok (.iaload, 1) := by decide +kernel
theorem dX6_totalOf_28 : decode cX6_totalOf 28 = .ok (.goto 4, 3) := by decide +kernel
theorem dX6_totalOf_31 : decode cX6_totalOf 31 = .ok (.iload_n 3, 1) := by decide +kernel
theorem dX6_totalOf_32 : decode cX6_totalOf 32 = .ok (.istore 11, 2) := by decide +kernel
theorem dX6_totalOf_34 : decode cX6_totalOf 34 = .ok (.aload_n 0, 1) := by decide +kernel
theorem dX6_totalOf_35 : decode cX6_totalOf 35 = .ok (.getfield 35, 3) := by decide +kernel
theorem dX6_totalOf_38 : decode cX6_totalOf 38 = .ok (.iload 10, 2) := by decide +kernel
theorem dX6_totalOf_40 : decode cX6_totalOf 40 = .ok (.iaload, 1) := by decide +kernel
theorem dX6_totalOf_41 : decode cX6_totalOf 41 = .ok (.sipush 365, 3) := by decide +kernel
theorem dX6_totalOf_44 : decode cX6_totalOf 44 = .ok (.idiv, 1) := by decide +kernel
theorem dX6_totalOf_45 : decode cX6_totalOf 45 = .ok (.iload_n 2, 1) := by decide +kernel
theorem dX6_totalOf_46 : decode cX6_totalOf 46 = .ok (.if_icmp .ne 127, 3) := by decide +kernel
theorem dX6_totalOf_49 : decode cX6_totalOf 49 = .ok (.iload_n 1, 1) := by decide +kernel
theorem dX6_totalOf_50 : decode cX6_totalOf 50 = .ok (.bipush (-9), 2) := by decide +kernel
theorem dX6_totalOf_52 : decode cX6_totalOf 52 = .ok (.if_icmp .eq 14, 3) := by decide +kernel
theorem dX6_totalOf_55 : decode cX6_totalOf 55 = .ok (.aload_n 0, 1) := by decide +kernel
theorem dX6_totalOf_56 : decode cX6_totalOf 56 = .ok (.getfield 26, 3) := by decide +kernel
theorem dX6_totalOf_59 : decode cX6_totalOf 59 = .ok (.iload 10, 2) := by decide +kernel
theorem dX6_totalOf_61 : decode cX6_totalOf 61 = .ok (.iaload, 1) := by decide +kernel
theorem dX6_totalOf_62 : decode cX6_totalOf 62 = .ok (.iload_n 1, 1) := by decide +kernel
theorem dX6_totalOf_63 : decode cX6_totalOf 63 = .ok (.if_icmp .ne 110, 3) := by decide +kernel
theorem dX6_totalOf_66 : decode cX6_totalOf 66 = .ok (.iload 6, 2) := by decide +kernel
theorem dX6_totalOf_68 : decode cX6_totalOf 68 = .ok (.ifCond .eq 14, 3) := by decide +kernel
theorem dX6_totalOf_71 : decode cX6_totalOf 71 = .ok (.aload_n 0, 1) := by decide +kernel
theorem dX6_totalOf_72 : decode cX6_totalOf 72 = .ok (.iload 10, 2) := by decide +kernel
theorem dX6_totalOf_74 : decode cX6_totalOf 74 = .ok (.iload 11, 2) := by decide +kernel
theorem dX6_totalOf_76 : decode cX6_totalOf 76 = .ok (.invokevirtual 131, 3) := by decide +kernel
theorem dX6_totalOf_79 : decode cX6_totalOf 79 = .ok (.ifCond .ne 94, 3) := by decide +kernel
theorem dX6_totalOf_82 : decode cX6_totalOf 82 = .ok (.aload_n 0, 1) := by decide +kernel
theorem dX6_totalOf_83 : decode cX6_totalOf 83 = .ok (.iload 11, 2) := by decide +kernel
theorem dX6_totalOf_85 : decode cX6_totalOf 85 = .ok (.invokevirtual 121, 3) := by decide +kernel
theorem dX6_totalOf_88 : decode cX6_totalOf 88 = .ok (.aload_n 0, 1) := by decide +kernel
theorem dX6_totalOf_89 : decode cX6_totalOf 89 = .ok (.iload 10, 2) := by decide +kernel
theorem dX6_totalOf_91 : decode cX6_totalOf 91 = .ok (.iload 4, 2) := by decide +kernel
theorem dX6_totalOf_93 : decode cX6_totalOf 93 = .ok (.iload 5, 2) := by decide +kernel
theorem dX6_totalOf_95 : decode cX6_totalOf 95 = .ok (.iload 7, 2) := by decide +kernel
theorem dX6_totalOf_97 : decode cX6_totalOf 97 = .ok (.invokevirtual 150, 3) := by decide +kernel
theorem dX6_totalOf_100 : decode cX6_totalOf 100 = .ok (.lstore 12, 2) := by decide +kernel
theorem dX6_totalOf_102 : decode cX6_totalOf 102 = .ok (.aload_n 0, 1) := by decide +kernel
theorem dX6_totalOf_103 : decode cX6_totalOf 103 = .ok (.getfield 65, 3) := by decide +kernel
theorem dX6_totalOf_106 : decode cX6_totalOf 106 = .ok (.aload_n 0, 1) := by decide +kernel
theorem dX6_totalOf_107 : decode cX6_totalOf 107 = .ok (.getfield 26, 3) := by decide +kernel
theorem dX6_totalOf_110 : decode cX6_totalOf 110 = .ok (.iload 10, 2) := by decide +kernel
theorem dX6_totalOf_112 : decode cX6_totalOf 112 = .ok (.iaload, 1) := by decide +kernel
theorem dX6_totalOf_113 : decode cX6_totalOf 113 = .ok (.laload, 1) := by decide +kernel
theorem dX6_totalOf_114 : decode cX6_totalOf 114 = .ok (.lconst 0, 1) := by decide +kernel
theorem dX6_totalOf_115 : decode cX6_totalOf 115 = .ok (.lcmp, 1) := by decide +kernel
theorem dX6_totalOf_116 : decode cX6_totalOf 116 = .ok (.ifCond .le 16, 3) := by decide +kernel
theorem dX6_totalOf_119 : decode cX6_totalOf 119 = .ok (.lload 12, 2) := by decide +kernel
theorem dX6_totalOf_121 : decode cX6_totalOf 121 = .ok (.ldc2_w 148, 3) := by decide +kernel
theorem dX6_totalOf_124 : decode cX6_totalOf 124 = .ok (.lcmp, 1) := by decide +kernel
theorem dX6_totalOf_125 : decode cX6_totalOf 125 = .ok (.ifCond .ne 7, 3) := by decide +kernel
theorem dX6_totalOf_128 : decode cX6_totalOf 128 = .ok (.ldc2_w 148, 3) := by decide +kernel
theorem dX6_totalOf_131 : decode cX6_totalOf 131 = .ok (.lreturn, 1) := by decide +kernel
theorem dX6_totalOf_132 : decode cX6_totalOf 132 = .ok (.lload 8, 2) := by decide +kernel
theorem dX6_totalOf_134 : decode cX6_totalOf 134 = .ok (.aload_n 0, 1) := by decide +kernel
theorem dX6_totalOf_135 : decode cX6_totalOf 135 = .ok (.getfield 65, 3) := by decide +kernel
theorem dX6_totalOf_138 : decode cX6_totalOf 138 = .ok (.aload_n 0, 1) := by decide +kernel
theorem dX6_totalOf_139 : decode cX6_totalOf 139 = .ok (.getfield 26, 3) := by decide +kernel
theorem dX6_totalOf_142 : decode cX6_totalOf 142 = .ok (.iload 10, 2) := by decide +kernel
theorem dX6_totalOf_144 : decode cX6_totalOf 144 = .ok (.iaload, 1) := by decide +kernel
theorem dX6_totalOf_145 : decode cX6_totalOf 145 = .ok (.laload, 1) := by decide +kernel
theorem dX6_totalOf_146 : decode cX6_totalOf 146 = .ok (.lconst 0, 1) := by decide +kernel
theorem dX6_totalOf_147 : decode cX6_totalOf 147 = .ok (.lcmp, 1) := by decide +kernel
theorem dX6_totalOf_148 : decode cX6_totalOf 148 = .ok (.ifCond .le 21, 3) := by decide +kernel
theorem dX6_totalOf_151 : decode cX6_totalOf 151 = .ok (.lload 12, 2) := by decide +kernel
theorem dX6_totalOf_153 : decode cX6_totalOf 153 = .ok (.aload_n 0, 1) := by decide +kernel
theorem dX6_totalOf_154 : decode cX6_totalOf 154 = .ok (.getfield 65, 3) := by decide +kernel
theorem dX6_totalOf_157 : decode cX6_totalOf 157 = .ok (.aload_n 0, 1) := by decide +kernel
theorem dX6_totalOf_158 : decode cX6_totalOf 158 = .ok (.getfield 26, 3) := by decide +kernel
theorem dX6_totalOf_161 : decode cX6_totalOf 161 = .ok (.iload 10, 2) := by decide +kernel
theorem dX6_totalOf_163 : decode cX6_totalOf 163 = .ok (.iaload, 1) := by decide +kernel
theorem dX6_totalOf_164 : decode cX6_totalOf 164 = .ok (.laload, 1) := by decide +kernel
theorem dX6_totalOf_165 : decode cX6_totalOf 165 = .ok (.lmul, 1) := by decide +kernel
theorem dX6_totalOf_166 : decode cX6_totalOf 166 = .ok (.goto 4, 3) := by decide +kernel
theorem dX6_totalOf_169 : decode cX6_totalOf 169 = .ok (.lconst 0, 1) := by decide +kernel
theorem dX6_totalOf_170 : decode cX6_totalOf 170 = .ok (.ladd, 1) := by decide +kernel
theorem dX6_totalOf_171 : decode cX6_totalOf 171 = .ok (.lstore 8, 2) := by decide +kernel
theorem dX6_totalOf_173 : decode cX6_totalOf 173 = .ok (.iinc 10 1, 3) := by decide +kernel
theorem dX6_totalOf_176 : decode cX6_totalOf 176 = .ok (.goto (-170), 3) := by decide +kernel
theorem dX6_totalOf_179 : decode cX6_totalOf 179 = .ok (.lload 8, 2) := by decide +kernel
theorem dX6_totalOf_181 : decode cX6_totalOf 181 = .ok (.lreturn, 1) := by decide +kernel
set_option maxRecDepth 20000 in
theorem ggX6_total_X6_noYear : GoodIn wsX6_total wsX6_noYear := goodIn_r _ [7, 8, 9, 10, 6, 11] (by decide +kernel) (by decide +kernel)
set_option maxRecDepth 20000 in
theorem gX6_total_X6_noYear : GoodIn wsX6_total (va_wsS RX6 134 yX6_noYear wsX6_noYear) := goodIn_app (goodIn_of _ (by decide +kernel)) ggX6_total_X6_noYear
set_option maxRecDepth 20000 in
theorem ggX6_total_X6_noAs : GoodIn wsX6_total wsX6_noAs := goodIn_r _ [15, 16, 9, 10, 6, 11, 69, 70, 71, 72, 73, 74, 75, 76, 77, 78, 79, 80, 81, 82, 83, 84, 85, 86, 87, 88, 89, 90, 91, 92, 93, 94] (by decide +kernel) (by decide +kernel)
set_option maxRecDepth 20000 in
theorem gX6_total_X6_noAs : GoodIn wsX6_total (wsV RX6 141 RX6 yX6_noAs wsX6_noAs) := goodIn_app (goodIn_of _ (by decide +kernel)) ggX6_total_X6_noAs
set_option maxRecDepth 20000 in
theorem ggX6_total_X6_totalOf : GoodIn wsX6_total wsX6_totalOf := goodIn_r _ [20, 21, 22, 23, 24, 25, 26, 27, 28, 6, 29, 30, 31, 32, 33, 34, 35, 36, 37, 38, 39, 40, 41, 42, 43, 44, 45, 46, 47, 48, 49, 50, 51, 52, 53, 54, 55, 56, 57, 58, 59, 60, 61, 62, 63, 64, 65, 66, 16, 67, 68, 69, 70, 71, 72, 73, 74, 75, 76, 77, 78, 79, 80, 81, 82, 83, 84, 85, 86, 87, 88, 89, 90, 91, 92, 93, 94] (by decide +kernel) (by decide +kernel)
set_option maxRecDepth 20000 in
theorem gX6_total_X6_totalOf : GoodIn wsX6_total (wsV RX6 158 RX6 yX6_totalOf wsX6_totalOf) := goodIn_app (goodIn_of _ (by decide +kernel)) ggX6_total_X6_totalOf
theorem dX6_total_0 : decode cX6_total 0 = .ok (.aload_n 0, 1) := by decide +kernel
theorem dX6_total_1 : decode cX6_total 1 = .ok (.iconst 0, 1) := by decide +kernel
theorem dX6_total_2 : decode cX6_total 2 = .ok (.putfield 76, 3) := by decide +kernel
theorem dX6_total_5 : decode cX6_total 5 = .ok (.iload_n 1, 1) := by decide +kernel
theorem dX6_total_6 : decode cX6_total 6 = .ok (.invokestatic 134, 3) := by decide +kernel
theorem dX6_total_9 : decode cX6_total 9 = .ok (.ifCond .eq 9, 3) := by decide +kernel
theorem dX6_total_12 : decode cX6_total 12 = .ok (.ldc2_w 119, 3) := by decide +kernel
theorem dX6_total_15 : decode cX6_total 15 = .ok (.goto 32, 3) := by decide +kernel
theorem dX6_total_18 : decode cX6_total 18 = .ok (.aload_n 0, 1) := by decide +kernel
theorem dX6_total_19 : decode cX6_total 19 = .ok (.iload_n 2, 1) := by decide +kernel
theorem dX6_total_20 : decode cX6_total 20 = .ok (.invokevirtual 141, 3) := by decide +kernel
theorem dX6_total_23 : decode cX6_total 23 = .ok (.ifCond .eq 9, 3) := by decide +kernel
theorem dX6_total_26 : decode cX6_total 26 = .ok (.ldc2_w 117, 3) := by decide +kernel
theorem dX6_total_29 : decode cX6_total 29 = .ok (.goto 18, 3) := by decide +kernel
theorem dX6_total_32 : decode cX6_total 32 = .ok (.aload_n 0, 1) := by decide +kernel
theorem dX6_total_33 : decode cX6_total 33 = .ok (.bipush (-9), 2) := by decide +kernel
theorem dX6_total_35 : decode cX6_total 35 = .ok (.iload_n 1, 1) := by decide +kernel
theorem dX6_total_36 : decode cX6_total 36 = .ok (.bipush (-9), 2) := by decide +kernel
theorem dX6_total_38 : decode cX6_total 38 = .ok (.iload_n 2, 1) := by decide +kernel
theorem dX6_total_39 : decode cX6_total 39 = .ok (.iload_n 3, 1) := by decide +kernel
theorem dX6_total_40 : decode cX6_total 40 = .ok (.iload 4, 2) := by decide +kernel
theorem dX6_total_42 : decode cX6_total 42 = .ok (.iload 5, 2) := by decide +kernel
theorem dX6_total_44 : decode cX6_total 44 = .ok (.invokevirtual 158, 3) := by decide +kernel
theorem dX6_total_47 : decode cX6_total 47 = .ok (.lreturn, 1) := by decide +kernel
set_option maxRecDepth 20000 in
theorem ggX6_anew_X6_noYear : GoodIn wsX6_anew wsX6_noYear := goodIn_r _ [7, 8, 9, 10, 6, 11] (by decide +kernel) (by decide +kernel)
set_option maxRecDepth 20000 in
theorem gX6_anew_X6_noYear : GoodIn wsX6_anew (va_wsS RX6 134 yX6_noYear wsX6_noYear) := goodIn_app (goodIn_of _ (by decide +kernel)) ggX6_anew_X6_noYear
set_option maxRecDepth 20000 in
theorem ggX6_anew_X6_noDay : GoodIn wsX6_anew wsX6_noDay := goodIn_r _ [14, 15, 9, 10, 6, 11] (by decide +kernel) (by decide +kernel)
set_option maxRecDepth 20000 in
theorem gX6_anew_X6_noDay : GoodIn wsX6_anew (va_wsS RX6 110 yX6_noDay wsX6_noDay) := goodIn_app (goodIn_of _ (by decide +kernel)) ggX6_anew_X6_noDay
set_option maxRecDepth 20000 in
theorem ggX6_anew_X6_noAs : GoodIn wsX6_anew wsX6_noAs := goodIn_r _ [19, 20, 9, 10, 6, 11, 73, 74, 75, 76, 77, 78, 79, 80, 81, 82, 83, 84, 85, 86, 87, 88, 89, 90, 91, 92, 93, 94, 95, 96, 97, 98] (by decide +kernel) (by decide +kernel)
set_option maxRecDepth 20000 in
theorem gX6_anew_X6_noAs : GoodIn wsX6_anew (wsV RX6 141 RX6 yX6_noAs wsX6_noAs) := goodIn_app (goodIn_of _ (by decide +kernel)) ggX6_anew_X6_noAs
set_option maxRecDepth 20000 in
theorem ggX6_anew_X6_totalOf : GoodIn wsX6_anew wsX6_totalOf := goodIn_r _ [24, 25, 26, 27, 28, 29, 30, 31, 32, 6, 33, 34, 35, 36, 37, 38, 39, 40, 41, 42, 43, 44, 45, 46, 47, 48, 49, 50, 51, 52, 53, 54, 55, 56, 57, 58, 59, 60, 61, 62, 63, 64, 65, 66, 67, 68, 69, 70, 20, 71, 72, 73, 74, 75, 76, 77, 78, 79, 80, 81, 82, 83, 84, 85, 86, 87, 88, 89, 90, 91, 92, 93, 94, 95, 96, 97, 98] (by decide +kernel) (by decide +kernel)
set_option maxRecDepth 20000 in
theorem gX6_anew_X6_totalOf : GoodIn wsX6_anew (wsV RX6 158 RX6 yX6_totalOf wsX6_totalOf) := goodIn_app (goodIn_of _ (by decide +kernel)) ggX6_anew_X6_totalOf
theorem dX6_anew_0 : decode cX6_anew 0 = .ok (.aload_n 0, 1) := by decide +kernel
theorem dX6_anew_1 : decode cX6_anew 1 = .ok (.iconst 0, 1) := by decide +kernel
theorem dX6_anew_2 : decode cX6_anew 2 = .ok (.putfield 76, 3) := by decide +kernel
theorem dX6_anew_5 : decode cX6_anew 5 = .ok (.iload_n 1, 1) := by decide +kernel
theorem dX6_anew_6 : decode cX6_anew 6 = .ok (.invokestatic 134, 3) := by decide +kernel
theorem dX6_anew_9 : decode cX6_anew 9 = .ok (.ifCond .ne 10, 3) := by decide +kernel
theorem dX6_anew_12 : decode cX6_anew 12 = .ok (.iload_n 2, 1) := by decide +kernel
theorem dX6_anew_13 : decode cX6_anew 13 = .ok (.invokestatic 110, 3) := by decide +kernel
theorem dX6_anew_16 : decode cX6_anew 16 = .ok (.ifCond .eq 9, 3) := by decide +kernel
theorem dX6_anew_19 : decode cX6_anew 19 = .ok (.ldc2_w 119, 3) := by decide +kernel
theorem dX6_anew_22 : decode cX6_anew 22 = .ok (.goto 32, 3) := by decide +kernel
theorem dX6_anew_25 : decode cX6_anew 25 = .ok (.aload_n 0, 1) := by decide +kernel
theorem dX6_anew_26 : decode cX6_anew 26 = .ok (.iload_n 3, 1) := by decide +kernel
theorem dX6_anew_27 : decode cX6_anew 27 = .ok (.invokevirtual 141, 3) := by decide +kernel
theorem dX6_anew_30 : decode cX6_anew 30 = .ok (.ifCond .eq 9, 3) := by decide +kernel
theorem dX6_anew_33 : decode cX6_anew 33 = .ok (.ldc2_w 117, 3) := by decide +kernel
theorem dX6_anew_36 : decode cX6_anew 36 = .ok (.goto 18, 3) := by decide +kernel
theorem dX6_anew_39 : decode cX6_anew 39 = .ok (.aload_n 0, 1) := by decide +kernel
theorem dX6_anew_40 : decode cX6_anew 40 = .ok (.bipush (-9), 2) := by decide +kernel
theorem dX6_anew_42 : decode cX6_anew 42 = .ok (.iload_n 1, 1) := by decide +kernel
theorem dX6_anew_43 : decode cX6_anew 43 = .ok (.iload_n 2, 1) := by decide +kernel
theorem dX6_anew_44 : decode cX6_anew 44 = .ok (.iload_n 3, 1) := by decide +kernel
theorem dX6_anew_45 : decode cX6_anew 45 = .ok (.iload 4, 2) := by decide +kernel
theorem dX6_anew_47 : decode cX6_anew 47 = .ok (.iload 5, 2) := by decide +kernel
theorem dX6_anew_49 : decode cX6_anew 49 = .ok (.iload 6, 2) := by decide +kernel
theorem dX6_anew_51 : decode cX6_anew 51 = .ok (.invokevirtual 158, 3) := by decide +kernel
theorem dX6_anew_54 : decode cX6_anew 54 = .ok (.lreturn, 1) := by decide +kernel
set_option maxRecDepth 20000 in
theorem ggX6_part_X6_noUnit : GoodIn wsX6_part wsX6_noUnit := goodIn_r _ [8, 9, 10, 11, 7, 12, 74, 75, 76, 77, 78, 79, 80, 81, 82, 83, 84, 85, 86, 87, 88, 89, 90, 91, 92, 93, 94, 95, 96, 97, 98, 99] (by decide +kernel) (by decide +kernel)
set_option maxRecDepth 20000 in
theorem gX6_part_X6_noUnit : GoodIn wsX6_part (wsV RX6 106 RX6 yX6_noUnit wsX6_noUnit) := goodIn_app (goodIn_of _ (by decide +kernel)) ggX6_part_X6_noUnit
set_option maxRecDepth 20000 in
theorem ggX6_part_X6_noYear : GoodIn wsX6_part wsX6_noYear := goodIn_r _ [15, 16, 10, 11, 7, 12] (by decide +kernel) (by decide +kernel)
set_option maxRecDepth 20000 in
theorem gX6_part_X6_noYear : GoodIn wsX6_part (va_wsS RX6 134 yX6_noYear wsX6_noYear) := goodIn_app (goodIn_of _ (by decide +kernel)) ggX6_part_X6_noYear
set_option maxRecDepth 20000 in
theorem ggX6_part_X6_noAs : GoodIn wsX6_part wsX6_noAs := goodIn_r _ [20, 21, 10, 11, 7, 12, 74, 75, 76, 77, 78, 79, 80, 81, 82, 83, 84, 85, 86, 87, 88, 89, 90, 91, 92, 93, 94, 95, 96, 97, 98, 99] (by decide +kernel) (by decide +kernel)
set_option maxRecDepth 20000 in
theorem gX6_part_X6_noAs : GoodIn wsX6_part (wsV RX6 141 RX6 yX6_noAs wsX6_noAs) := goodIn_app (goodIn_of _ (by decide +kernel)) ggX6_part_X6_noAs
set_option maxRecDepth 20000 in
theorem ggX6_part_X6_totalOf : GoodIn wsX6_part wsX6_totalOf := goodIn_r _ [25, 26, 27, 28, 29, 30, 31, 32, 33, 7, 34, 35, 36, 37, 38, 39, 40, 41, 42, 43, 44, 45, 46, 47, 48, 49, 50, 51, 52, 53, 54, 55, 56, 57, 58, 59, 60, 61, 62, 63, 64, 65, 66, 67, 68, 69, 70, 71, 21, 72, 73, 74, 75, 76, 77, 78, 79, 80, 81, 82, 83, 84, 85, 86, 87, 88, 89, 90, 91, 92, 93, 94, 95, 96, 97, 98, 99] (by decide +kernel) (by decide +kernel)
set_option maxRecDepth 20000 in
theorem gX6_part_X6_totalOf : GoodIn wsX6_part (wsV RX6 158 RX6 yX6_totalOf wsX6_totalOf) := goodIn_app (goodIn_of _ (by decide +kernel)) ggX6_part_X6_totalOf
theorem dX6_part_0 : decode cX6_part 0 = .ok (.aload_n 0, 1) := by decide +kernel
theorem dX6_part_1 : decode cX6_part 1 = .ok (.iconst 0, 1) := by decide +kernel
theorem dX6_part_2 : decode cX6_part 2 = .ok (.putfield 76, 3) := by decide +kernel
theorem dX6_part_5 : decode cX6_part 5 = .ok (.aload_n 0, 1) := by decide +kernel
theorem dX6_part_6 : decode cX6_part 6 = .ok (.iload_n 1, 1) := by decide +kernel
theorem dX6_part_7 : decode cX6_part 7 = .ok (.invokevirtual 106, 3) := by decide +kernel
theorem dX6_part_10 : decode cX6_part 10 = .ok (.ifCond .eq 9, 3) := by decide +kernel
theorem dX6_part_13 : decode cX6_part 13 = .ok (.ldc2_w 117, 3) := by decide +kernel
theorem dX6_part_16 : decode cX6_part 16 = .ok (.goto 45, 3) := by decide +kernel
theorem dX6_part_19 : decode cX6_part 19 = .ok (.iload_n 2, 1) := by decide +kernel
theorem dX6_part_20 : decode cX6_part 20 = .ok (.invokestatic 134, 3) := by decide +kernel
theorem dX6_part_23 : decode cX6_part 23 = .ok (.ifCond .eq 9, 3) := by decide +kernel
theorem dX6_part_26 : decode cX6_part 26 = .ok (.ldc2_w 119, 3) := by decide +kernel
theorem dX6_part_29 : decode cX6_part 29 = .ok (.goto 32, 3) := by decide +kernel
theorem dX6_part_32 : decode cX6_part 32 = .ok (.aload_n 0, 1) := by decide +kernel
theorem dX6_part_33 : decode cX6_part 33 = .ok (.iload_n 3, 1) := by decide +kernel
theorem dX6_part_34 : decode cX6_part 34 = .ok (.invokevirtual 141, 3) := by decide +kernel
theorem dX6_part_37 : decode cX6_part 37 = .ok (.ifCond .eq 9, 3) := by decide +kernel
theorem dX6_part_40 : decode cX6_part 40 = .ok (.ldc2_w 117, 3) := by decide +kernel
theorem dX6_part_43 : decode cX6_part 43 = .ok (.goto 18, 3) := by decide +kernel
theorem dX6_part_46 : decode cX6_part 46 = .ok (.aload_n 0, 1) := by decide +kernel
theorem dX6_part_47 : decode cX6_part 47 = .ok (.iload_n 1, 1) := by decide +kernel
theorem dX6_part_48 : decode cX6_part 48 = .ok (.iload_n 2, 1) := by decide +kernel
theorem dX6_part_49 : decode cX6_part 49 = .ok (.bipush (-9), 2) := by decide +kernel
theorem dX6_part_51 : decode cX6_part 51 = .ok (.iload_n 3, 1) := by decide +kernel
theorem dX6_part_52 : decode cX6_part 52 = .ok (.iload 4, 2) := by decide +kernel
theorem dX6_part_54 : decode cX6_part 54 = .ok (.iload 5, 2) := by decide +kernel
theorem dX6_part_56 : decode cX6_part 56 = .ok (.iload 6, 2) := by decide +kernel
theorem dX6_part_58 : decode cX6_part 58 = .ok (.invokevirtual 158, 3) := by decide +kernel
theorem dX6_part_61 : decode cX6_part 61 = .ok (.lreturn, 1) := by decide +kernel
set_option maxRecDepth 20000 in
theorem ggX6_doubles_X6_noYear : GoodIn wsX6_doubles wsX6_noYear := goodIn_r _ [7, 8, 9, 10, 6, 11] (by decide +kernel) (by decide +kernel)
set_option maxRecDepth 20000 in
theorem gX6_doubles_X6_noYear : GoodIn wsX6_doubles (va_wsS RX6 134 yX6_noYear wsX6_noYear) := goodIn_app (goodIn_of _ (by decide +kernel)) ggX6_doubles_X6_noYear
set_option maxRecDepth 20000 in
theorem ggX6_doubles_X6_isDouble : GoodIn wsX6_doubles wsX6_isDouble := goodIn_r _ [15, 16, 17, 18, 19, 20, 21, 6, 22, 23, 24, 25, 26, 27, 28, 29, 30, 31, 32, 33, 34, 35, 36, 37, 38, 39, 40, 41, 42, 43, 44, 45, 46, 47, 48, 49, 50, 51, 52, 53, 54, 55, 56, 57, 58, 59, 60, 61, 62, 63] (by decide +kernel) (by decide +kernel)
set_option maxRecDepth 20000 in
theorem gX6_doubles_X6_isDouble : GoodIn wsX6_doubles (wsV RX6 131 RX6 yX6_isDouble wsX6_isDouble) := goodIn_app (goodIn_of _ (by decide +kernel)) ggX6_doubles_X6_isDouble
theorem dX6_doubles_0 : decode cX6_doubles 0 = .ok (.aload_n 0, 1) := by decide +kernel
theorem dX6_doubles_1 : decode cX6_doubles 1 = .ok (.iconst 0, 1) := by decide +kernel
theorem dX6_doubles_2 : decode cX6_doubles 2 = .ok (.putfield 76, 3) := by decide +kernel
theorem dX6_doubles_5 : decode cX6_doubles 5 = .ok (.iload_n 1, 1) := by decide +kernel
theorem dX6_doubles_6 : decode cX6_doubles 6 = .ok (.invokestatic 134, 3) := by decide +kernel
theorem dX6_doubles_9 : decode cX6_doubles 9 = .ok (.ifCond .eq 6, 3) := by decide +kernel
theorem dX6_doubles_12 : decode cX6_doubles 12 = .ok (.bipush (-2), 2) := by decide +kernel
theorem dX6_doubles_14 : decode cX6_doubles 14 = .ok (.ireturn, 1) := by decide +kernel
theorem dX6_doubles_15 : decode cX6_doubles 15 = .ok (.iconst 0, 1) := by decide +kernel
theorem dX6_doubles_16 : decode cX6_doubles 16 = .ok (.istore_n 2, 1) := by decide +kernel
theorem dX6_doubles_17 : decode cX6_doubles 17 = .ok (.iconst 0, 1) := by decide +kernel
theorem dX6_doubles_18 : decode cX6_doubles 18 = .ok (.istore_n 3, 1) := by decide +kernel
theorem dX6_doubles_19 : decode cX6_doubles 19 = .ok (.iload_n 3, 1) := by decide +kernel
theorem dX6_doubles_20 : decode cX6_doubles 20 = .ok (.aload_n 0, 1) := by decide +kernel
theorem dX6_doubles_21 : decode cX6_doubles 21 = .ok (.getfield 90, 3) := by decide +kernel
theorem dX6_doubles_24 : decode cX6_doubles 24 = .ok (.if_icmp .ge 45, 3) := by decide +kernel
theorem dX6_doubles_27 : decode cX6_doubles 27 = .ok (.iload_n 2, 1) := by decide +kernel
theorem dX6_doubles_28 : decode cX6_doubles 28 = .ok (.aload_n 0, 1) := by decide +kernel
theorem dX6_doubles_29 : decode cX6_doubles 29 = .ok (.getfield 35, 3) := by decide +kernel
theorem dX6_doubles_32 : decode cX6_doubles 32 = .ok (.iload_n 3, 1) := by decide +kernel
theorem dX6_doubles_33 : decode cX6_doubles 33 = .ok (.iaload, 1) := by decide +kernel
theorem dX6_doubles_34 : decode cX6_doubles 34 = .ok (.sipush 365, 3) := by decide +kernel
theorem dX6_doubles_37 : decode cX6_doubles 37 = .ok (.idiv, 1) := by decide +kernel
theorem dX6_doubles_38 : decode cX6_doubles 38 = .ok (.iload_n 1, 1) := by decide +kernel
theorem dX6_doubles_39 : decode cX6_doubles 39 = .ok (.if_icmp .ne 21, 3) := by decide +kernel
theorem dX6_doubles_42 : decode cX6_doubles 42 = .ok (.aload_n 0, 1) := by decide +kernel
theorem dX6_doubles_43 : decode cX6_doubles 43 = .ok (.iload_n 3, 1) := by decide +kernel
theorem dX6_doubles_44 : decode cX6_doubles 44 = .ok (.aload_n 0, 1) := by decide +kernel
theorem dX6_doubles_45 : decode cX6_doubles 45 = .ok (.getfield 35, 3) := by decide +kernel
theorem dX6_doubles_48 : decode cX6_doubles 48 = .ok (.iload_n 3, 1) := by decide +kernel
theorem dX6_doubles_49 : decode cX6_doubles 49 = .ok (.iaload, 1) := by decide +kernel
theorem dX6_doubles_50 : decode cX6_doubles 50 = .ok (.invokevirtual 131, 3) := by decide +kernel
theorem dX6_doubles_53 : decode cX6_doubles 53 = .ok (.ifCond .eq 7, 3) := by decide +kernel
theorem dX6_doubles_56 : decode cX6_doubles 56 = .ok (.iconst 1, 1) := by decide +kernel
theorem dX6_doubles_57 : decode cX6_doubles 57 = .ok (.goto 4, 3) := by decide +kernel
theorem dX6_doubles_60 : decode cX6_doubles 60 = .ok (.iconst 0, 1) := by decide +kernel
theorem dX6_doubles_61 : decode cX6_doubles 61 = .ok (.iadd, 1) := by decide +kernel
theorem dX6_doubles_62 : decode cX6_doubles 62 = .ok (.istore_n 2, 1) := by decide +kernel
theorem dX6_doubles_63 : decode cX6_doubles 63 = .ok (.iinc 3 1, 3) := by decide +kernel
theorem dX6_doubles_66 : decode cX6_doubles 66 = .ok (.goto (-47), 3) := by decide +kernel
theorem dX6_doubles_69 : decode cX6_doubles 69 = .ok (.iload_n 2, 1) := by decide +kernel
theorem dX6_doubles_70 : decode cX6_doubles 70 = .ok (.ireturn, 1) := by decide +kernel
set_option maxRecDepth 20000 in
theorem ggX6_onPath_X6_noYear : GoodIn wsX6_onPath wsX6_noYear := goodIn_r _ [7, 8, 9, 10, 6, 11] (by decide +kernel) (by decide +kernel)
set_option maxRecDepth 20000 in
theorem gX6_onPath_X6_noYear : GoodIn wsX6_onPath (va_wsS RX6 134 yX6_noYear wsX6_noYear) := goodIn_app (goodIn_of _ (by decide +kernel)) ggX6_onPath_X6_noYear
set_option maxRecDepth 20000 in
theorem ggX6_onPath_X6_in : GoodIn wsX6_onPath wsX6_in := goodIn_r _ [11] (by decide +kernel) (by decide +kernel)
set_option maxRecDepth 20000 in
theorem gX6_onPath_X6_in : GoodIn wsX6_onPath (va_wsS RX6 79 yX6_in wsX6_in) := goodIn_app (goodIn_of _ (by decide +kernel)) ggX6_onPath_X6_in
set_option maxRecDepth 20000 in
theorem ggX6_onPath_X6_totalOf : GoodIn wsX6_onPath wsX6_totalOf := goodIn_r _ [15, 16, 17, 18, 19, 3, 20, 21, 22, 6, 23, 24, 25, 26, 27, 28, 29, 30, 31, 2, 32, 33, 34, 35, 36, 37, 38, 39, 40, 41, 42, 43, 44, 45, 46, 47, 48, 49, 50, 51, 52, 53, 54, 55, 56, 57, 58, 59, 60, 61, 62, 63, 64, 65, 66, 67, 68, 69, 70, 71, 72, 73, 74, 75, 76, 77, 78, 79, 80, 81, 82, 83, 84, 85, 86, 87, 88] (by decide +kernel) (by decide +kernel)
set_option maxRecDepth 20000 in
theorem gX6_onPath_X6_totalOf : GoodIn wsX6_onPath (wsV RX6 158 RX6 yX6_totalOf wsX6_totalOf) := goodIn_app (goodIn_of _ (by decide +kernel)) ggX6_onPath_X6_totalOf
theorem dX6_onPath_0 : decode cX6_onPath 0 = .ok (.aload_n 0, 1) := by decide +kernel
theorem dX6_onPath_1 : decode cX6_onPath 1 = .ok (.iconst 0, 1) := by decide +kernel
theorem dX6_onPath_2 : decode cX6_onPath 2 = .ok (.putfield 76, 3) := by decide +kernel
theorem dX6_onPath_5 : decode cX6_onPath 5 = .ok (.iload_n 1, 1) := by decide +kernel
theorem dX6_onPath_6 : decode cX6_onPath 6 = .ok (.invokestatic 134, 3) := by decide +kernel
theorem dX6_onPath_9 : decode cX6_onPath 9 = .ok (.ifCond .ne 47, 3) := by decide +kernel
theorem dX6_onPath_12 : decode cX6_onPath 12 = .ok (.iload_n 2, 1) := by decide +kernel
theorem dX6_onPath_13 : decode cX6_onPath 13 = .ok (.invokestatic 134, 3) := by decide +kernel
theorem dX6_onPath_16 : decode cX6_onPath 16 = .ok (.ifCond .ne 40, 3) := by decide +kernel
theorem dX6_onPath_19 : decode cX6_onPath 19 = .ok (.iload_n 3, 1) := by decide +kernel
theorem dX6_onPath_20 : decode cX6_onPath 20 = .ok (.invokestatic 134, 3) := by decide +kernel
theorem dX6_onPath_23 : decode cX6_onPath 23 = .ok (.ifCond .ne 33, 3) := by decide +kernel
theorem dX6_onPath_26 : decode cX6_onPath 26 = .ok (.iload 4, 2) := by decide +kernel
theorem dX6_onPath_28 : decode cX6_onPath 28 = .ok (.i2l, 1) := by decide +kernel
theorem dX6_onPath_29 : decode cX6_onPath 29 = .ok (.lconst 0, 1) := by decide +kernel
theorem dX6_onPath_30 : decode cX6_onPath 30 = .ok (.ldc2_w 104, 3) := by decide +kernel
theorem dX6_onPath_33 : decode cX6_onPath 33 = .ok (.invokestatic 79, 3) := by decide +kernel
theorem dX6_onPath_36 : decode cX6_onPath 36 = .ok (.ifCond .eq 20, 3) := by decide +kernel
theorem dX6_onPath_39 : decode cX6_onPath 39 = .ok (.iload_n 3, 1) := by decide +kernel
theorem dX6_onPath_40 : decode cX6_onPath 40 = .ok (.iload_n 2, 1) := by decide +kernel
theorem dX6_onPath_41 : decode cX6_onPath 41 = .ok (.if_icmp .le 15, 3) := by decide +kernel
theorem dX6_onPath_44 : decode cX6_onPath 44 = .ok (.iload_n 1, 1) := by decide +kernel
theorem dX6_onPath_45 : decode cX6_onPath 45 = .ok (.i2l, 1) := by decide +kernel
theorem dX6_onPath_46 : decode cX6_onPath 46 = .ok (.iload_n 2, 1) := by decide +kernel
theorem dX6_onPath_47 : decode cX6_onPath 47 = .ok (.i2l, 1) := by decide +kernel
theorem dX6_onPath_48 : decode cX6_onPath 48 = .ok (.iload_n 3, 1) := by decide +kernel
theorem dX6_onPath_49 : decode cX6_onPath 49 = .ok (.i2l, 1) := by decide +kernel
theorem dX6_onPath_50 : decode cX6_onPath 50 = .ok (.invokestatic 79, 3) := by decide +kernel
theorem dX6_onPath_53 : decode cX6_onPath 53 = .ok (.ifCond .ne 6, 3) := by decide +kernel
theorem dX6_onPath_56 : decode cX6_onPath 56 = .ok (.bipush (-2), 2) := by decide +kernel
theorem dX6_onPath_58 : decode cX6_onPath 58 = .ok (.ireturn, 1) := by decide +kernel
theorem dX6_onPath_59 : decode cX6_onPath 59 = .ok (.aload_n 0, 1) := by decide +kernel
theorem dX6_onPath_60 : decode cX6_onPath 60 = .ok (.bipush (-9), 2) := by decide +kernel
theorem dX6_onPath_62 : decode cX6_onPath 62 = .ok (.iload_n 1, 1) := by decide +kernel
theorem dX6_onPath_63 : decode cX6_onPath 63 = .ok (.bipush (-9), 2) := by decide +kernel
theorem dX6_onPath_65 : decode cX6_onPath 65 = .ok (.bipush (-9), 2) := by decide +kernel
theorem dX6_onPath_67 : decode cX6_onPath 67 = .ok (.iconst 1, 1) := by decide +kernel
theorem dX6_onPath_68 : decode cX6_onPath 68 = .ok (.iconst 1, 1) := by decide +kernel
theorem dX6_onPath_69 : decode cX6_onPath 69 = .ok (.iconst 0, 1) := by decide +kernel
theorem dX6_onPath_70 : decode cX6_onPath 70 = .ok (.invokevirtual 158, 3) := by decide +kernel
theorem dX6_onPath_73 : decode cX6_onPath 73 = .ok (.lstore 5, 2) := by decide +kernel
theorem dX6_onPath_75 : decode cX6_onPath 75 = .ok (.aload_n 0, 1) := by decide +kernel
theorem dX6_onPath_76 : decode cX6_onPath 76 = .ok (.bipush (-9), 2) := by decide +kernel
theorem dX6_onPath_78 : decode cX6_onPath 78 = .ok (.iload_n 2, 1) := by decide +kernel
theorem dX6_onPath_79 : decode cX6_onPath 79 = .ok (.bipush (-9), 2) := by decide +kernel
theorem dX6_onPath_81 : decode cX6_onPath 81 = .ok (.bipush (-9), 2) := by decide +kernel
theorem dX6_onPath_83 : decode cX6_onPath 83 = .ok (.iconst 1, 1) := by decide +kernel
theorem dX6_onPath_84 : decode cX6_onPath 84 = .ok (.iconst 1, 1) := by decide +kernel
theorem dX6_onPath_85 : decode cX6_onPath 85 = .ok (.iconst 1, 1) := by decide +kernel
theorem dX6_onPath_86 : decode cX6_onPath 86 = .ok (.invokevirtual 158, 3) := by decide +kernel
theorem dX6_onPath_89 : decode cX6_onPath 89 = .ok (.lstore 7, 2) := by decide +kernel
theorem dX6_onPath_91 : decode cX6_onPath 91 = .ok (.lload 5, 2) := by decide +kernel
theorem dX6_onPath_93 : decode cX6_onPath 93 = .ok (.ldc2_w 148, 3) := by decide +kernel
theorem dX6_onPath_96 : decode cX6_onPath 96 = .ok (.lcmp, 1) := by decide +kernel
theorem dX6_onPath_97 : decode cX6_onPath 97 = .ok (.ifCond .eq 12, 3) := by decide +kernel
theorem dX6_onPath_100 : decode cX6_onPath 100 = .ok (.lload 7, 2) := by decide +kernel
theorem dX6_onPath_102 : decode cX6_onPath 102 = .ok (.ldc2_w 148, 3) := by decide +kernel
theorem dX6_onPath_105 : decode cX6_onPath 105 = .ok (.lcmp, 1) := by decide +kernel
theorem dX6_onPath_106 : decode cX6_onPath 106 = .ok (.ifCond .ne 6, 3) := by decide +kernel
theorem dX6_onPath_109 : decode cX6_onPath 109 = .ok (.bipush (-9), 2) := by decide +kernel
theorem dX6_onPath_111 : decode cX6_onPath 111 = .ok (.ireturn, 1) := by decide +kernel
theorem dX6_onPath_112 : decode cX6_onPath 112 = .ok (.ldc2_w 104, 3) := by decide +kernel
theorem dX6_onPath_115 : decode cX6_onPath 115 = .ok (.iload_n 3, 1) := by decide +kernel
theorem dX6_onPath_116 : decode cX6_onPath 116 = .ok (.iload_n 2, 1) := by decide +kernel
theorem dX6_onPath_117 : decode cX6_onPath 117 = .ok (.isub, 1) := by decide +kernel
theorem dX6_onPath_118 : decode cX6_onPath 118 = .ok (.i2l, 1) := by decide +kernel
theorem dX6_onPath_119 : decode cX6_onPath 119 = .ok (.lmul, 1) := by decide +kernel
theorem dX6_onPath_120 : decode cX6_onPath 120 = .ok (.lstore 9, 2) := by decide +kernel
theorem dX6_onPath_122 : decode cX6_onPath 122 = .ok (.lload 9, 2) := by decide +kernel
theorem dX6_onPath_124 : decode cX6_onPath 124 = .ok (.iload 4, 2) := by decide +kernel
theorem dX6_onPath_126 : decode cX6_onPath 126 = .ok (.i2l, 1) := by decide +kernel
theorem dX6_onPath_127 : decode cX6_onPath 127 = .ok (.iload_n 1, 1) := by decide +kernel
theorem dX6_onPath_128 : decode cX6_onPath 128 = .ok (.iload_n 2, 1) := by decide +kernel
theorem dX6_onPath_129 : decode cX6_onPath 129 = .ok (.isub, 1) := by decide +kernel
theorem dX6_onPath_130 : decode cX6_onPath 130 = .ok (.i2l, 1) := by decide +kernel
theorem dX6_onPath_131 : decode cX6_onPath 131 = .ok (.lmul, 1) := by decide +kernel
theorem dX6_onPath_132 : decode cX6_onPath 132 = .ok (.lsub, 1) := by decide +kernel
theorem dX6_onPath_133 : decode cX6_onPath 133 = .ok (.lstore 11, 2) := by decide +kernel
theorem dX6_onPath_135 : decode cX6_onPath 135 = .ok (.lload 7, 2) := by decide +kernel
theorem dX6_onPath_137 : decode cX6_onPath 137 = .ok (.lload 9, 2) := by decide +kernel
theorem dX6_onPath_139 : decode cX6_onPath 139 = .ok (.ldiv, 1) := by decide +kernel
theorem dX6_onPath_140 : decode cX6_onPath 140 = .ok (.lload 11, 2) := by decide +kernel
theorem dX6_onPath_142 : decode cX6_onPath 142 = .ok (.lmul, 1) := by decide +kernel
theorem dX6_onPath_143 : decode cX6_onPath 143 = .ok (.lload 7, 2) := by decide +kernel
theorem dX6_onPath_145 : decode cX6_onPath 145 = .ok (.lload 9, 2) := by decide +kernel
theorem dX6_onPath_147 : decode cX6_onPath 147 = .ok (.lrem, 1) := by decide +kernel
theorem dX6_onPath_148 : decode cX6_onPath 148 = .ok (.lload 11, 2) := by decide +kernel
theorem dX6_onPath_150 : decode cX6_onPath 150 = .ok (.lmul, 1) := by decide +kernel
theorem dX6_onPath_151 : decode cX6_onPath 151 = .ok (.lload 9, 2) := by decide +kernel
theorem dX6_onPath_153 : decode cX6_onPath 153 = .ok (.ldiv, 1) := by decide +kernel
theorem dX6_onPath_154 : decode cX6_onPath 154 = .ok (.ladd, 1) := by decide +kernel
theorem dX6_onPath_155 : decode cX6_onPath 155 = .ok (.lstore 13, 2) := by decide +kernel
theorem dX6_onPath_157 : decode cX6_onPath 157 = .ok (.lload 5, 2) := by decide +kernel
theorem dX6_onPath_159 : decode cX6_onPath 159 = .ok (.lload 13, 2) := by decide +kernel
theorem dX6_onPath_161 : decode cX6_onPath 161 = .ok (.lcmp, 1) := by decide +kernel
theorem dX6_onPath_162 : decode cX6_onPath 162 = .ok (.ifCond .gt 7, 3) := by decide +kernel
theorem dX6_onPath_165 : decode cX6_onPath 165 = .ok (.iconst 1, 1) := by decide +kernel
theorem dX6_onPath_166 : decode cX6_onPath 166 = .ok (.goto 4, 3) := by decide +kernel
theorem dX6_onPath_169 : decode cX6_onPath 169 = .ok (.iconst 0, 1) := by decide +kernel
theorem dX6_onPath_170 : decode cX6_onPath 170 = .ok (.ireturn, 1) := by decide +kernel
set_option maxRecDepth 20000 in
theorem ggX6_issue_X6_noUnit : GoodIn wsX6_issue wsX6_noUnit := goodIn_r _ [10, 11, 12, 13, 9, 14, 15, 16, 17, 18, 19, 20, 21, 22, 23, 24, 25, 26, 27, 28, 29, 30, 31, 32, 33, 34, 35, 36, 37, 38, 39, 40] (by decide +kernel) (by decide +kernel)
set_option maxRecDepth 20000 in
theorem gX6_issue_X6_noUnit : GoodIn wsX6_issue (wsV RX6 106 RX6 yX6_noUnit wsX6_noUnit) := goodIn_app (goodIn_of _ (by decide +kernel)) ggX6_issue_X6_noUnit
set_option maxRecDepth 20000 in
theorem ggX6_issue_X6_in : GoodIn wsX6_issue wsX6_in := goodIn_r _ [14] (by decide +kernel) (by decide +kernel)
set_option maxRecDepth 20000 in
theorem gX6_issue_X6_in : GoodIn wsX6_issue (va_wsS RX6 79 yX6_in wsX6_in) := goodIn_app (goodIn_of _ (by decide +kernel)) ggX6_issue_X6_in
theorem dX6_issue_0 : decode cX6_issue 0 = .ok (.aload_n 0, 1) := by decide +kernel
theorem dX6_issue_1 : decode cX6_issue 1 = .ok (.iconst 0, 1) := by decide +kernel
theorem dX6_issue_2 : decode cX6_issue 2 = .ok (.putfield 76, 3) := by decide +kernel
theorem dX6_issue_5 : decode cX6_issue 5 = .ok (.aload_n 0, 1) := by decide +kernel
theorem dX6_issue_6 : decode cX6_issue 6 = .ok (.iload_n 1, 1) := by decide +kernel
theorem dX6_issue_7 : decode cX6_issue 7 = .ok (.invokevirtual 106, 3) := by decide +kernel
theorem dX6_issue_10 : decode cX6_issue 10 = .ok (.ifCond .eq 5, 3) := by decide +kernel
theorem dX6_issue_13 : decode cX6_issue 13 = .ok (.iconst (-1), 1) := by decide +kernel
end
section
theorem dX6_issue_14 : decode cX6_issue 14 = .ok (.ireturn, 1) := by decide +kernel
theorem dX6_issue_15 : decode cX6_issue 15 = .ok (.iload_n 2, 1) := by decide +kernel
theorem dX6_issue_16 : decode cX6_issue 16 = .ok (.i2l, 1) := by decide +kernel
theorem dX6_issue_17 : decode cX6_issue 17 = .ok (.lconst 1, 1) := by decide +kernel
theorem dX6_issue_18 : decode cX6_issue 18 = .ok (.ldc2_w 162, 3) := by decide +kernel
theorem dX6_issue_21 : decode cX6_issue 21 = .ok (.invokestatic 79, 3) := by decide +kernel
theorem dX6_issue_24 : decode cX6_issue 24 = .ok (.ifCond .ne 6, 3) := by decide +kernel
theorem dX6_issue_27 : decode cX6_issue 27 = .ok (.bipush (-2), 2) := by decide +kernel
theorem dX6_issue_29 : decode cX6_issue 29 = .ok (.ireturn, 1) := by decide +kernel
theorem dX6_issue_30 : decode cX6_issue 30 = .ok (.aload_n 0, 1) := by decide +kernel
theorem dX6_issue_31 : decode cX6_issue 31 = .ok (.getfield 164, 3) := by decide +kernel
theorem dX6_issue_34 : decode cX6_issue 34 = .ok (.iload_n 2, 1) := by decide +kernel
theorem dX6_issue_35 : decode cX6_issue 35 = .ok (.iadd, 1) := by decide +kernel
theorem dX6_issue_36 : decode cX6_issue 36 = .ok (.sipush 20000, 3) := by decide +kernel
theorem dX6_issue_39 : decode cX6_issue 39 = .ok (.if_icmp .le 6, 3) := by decide +kernel
theorem dX6_issue_42 : decode cX6_issue 42 = .ok (.bipush (-4), 2) := by decide +kernel
theorem dX6_issue_44 : decode cX6_issue 44 = .ok (.ireturn, 1) := by decide +kernel
theorem dX6_issue_45 : decode cX6_issue 45 = .ok (.aload_n 0, 1) := by decide +kernel
theorem dX6_issue_46 : decode cX6_issue 46 = .ok (.getfield 164, 3) := by decide +kernel
theorem dX6_issue_49 : decode cX6_issue 49 = .ok (.iconst 1, 1) := by decide +kernel
theorem dX6_issue_50 : decode cX6_issue 50 = .ok (.iadd, 1) := by decide +kernel
theorem dX6_issue_51 : decode cX6_issue 51 = .ok (.istore_n 3, 1) := by decide +kernel
theorem dX6_issue_52 : decode cX6_issue 52 = .ok (.iconst 0, 1) := by decide +kernel
theorem dX6_issue_53 : decode cX6_issue 53 = .ok (.istore 4, 2) := by decide +kernel
theorem dX6_issue_55 : decode cX6_issue 55 = .ok (.iload 4, 2) := by decide +kernel
theorem dX6_issue_57 : decode cX6_issue 57 = .ok (.iload_n 2, 1) := by decide +kernel
theorem dX6_issue_58 : decode cX6_issue 58 = .ok (.if_icmp .ge 40, 3) := by decide +kernel
theorem dX6_issue_61 : decode cX6_issue 61 = .ok (.aload_n 0, 1) := by decide +kernel
theorem dX6_issue_62 : decode cX6_issue 62 = .ok (.dup, 1) := by decide +kernel
theorem dX6_issue_63 : decode cX6_issue 63 = .ok (.getfield 164, 3) := by decide +kernel
theorem dX6_issue_66 : decode cX6_issue 66 = .ok (.iconst 1, 1) := by decide +kernel
theorem dX6_issue_67 : decode cX6_issue 67 = .ok (.iadd, 1) := by decide +kernel
theorem dX6_issue_68 : decode cX6_issue 68 = .ok (.putfield 164, 3) := by decide +kernel
theorem dX6_issue_71 : decode cX6_issue 71 = .ok (.aload_n 0, 1) := by decide +kernel
theorem dX6_issue_72 : decode cX6_issue 72 = .ok (.getfield 56, 3) := by decide +kernel
theorem dX6_issue_75 : decode cX6_issue 75 = .ok (.aload_n 0, 1) := by decide +kernel
theorem dX6_issue_76 : decode cX6_issue 76 = .ok (.getfield 164, 3) := by decide +kernel
theorem dX6_issue_79 : decode cX6_issue 79 = .ok (.iload_n 1, 1) := by decide +kernel
theorem dX6_issue_80 : decode cX6_issue 80 = .ok (.iastore, 1) := by decide +kernel
theorem dX6_issue_81 : decode cX6_issue 81 = .ok (.aload_n 0, 1) := by decide +kernel
theorem dX6_issue_82 : decode cX6_issue 82 = .ok (.getfield 59, 3) := by decide +kernel
theorem dX6_issue_85 : decode cX6_issue 85 = .ok (.aload_n 0, 1) := by decide +kernel
theorem dX6_issue_86 : decode cX6_issue 86 = .ok (.getfield 164, 3) := by decide +kernel
theorem dX6_issue_89 : decode cX6_issue 89 = .ok (.bipush (-9), 2) := by decide +kernel
theorem dX6_issue_91 : decode cX6_issue 91 = .ok (.iastore, 1) := by decide +kernel
theorem dX6_issue_92 : decode cX6_issue 92 = .ok (.iinc 4 1, 3) := by decide +kernel
theorem dX6_issue_95 : decode cX6_issue 95 = .ok (.goto (-40), 3) := by decide +kernel
theorem dX6_issue_98 : decode cX6_issue 98 = .ok (.iload_n 3, 1) := by decide +kernel
theorem dX6_issue_99 : decode cX6_issue 99 = .ok (.ireturn, 1) := by decide +kernel
theorem dX6_noSerials_0 : decode cX6_noSerials 0 = .ok (.iload_n 1, 1) := by decide +kernel
theorem dX6_noSerials_1 : decode cX6_noSerials 1 = .ok (.iconst 1, 1) := by decide +kernel
theorem dX6_noSerials_2 : decode cX6_noSerials 2 = .ok (.if_icmp .lt 19, 3) := by decide +kernel
theorem dX6_noSerials_5 : decode cX6_noSerials 5 = .ok (.iload_n 1, 1) := by decide +kernel
theorem dX6_noSerials_6 : decode cX6_noSerials 6 = .ok (.i2l, 1) := by decide +kernel
theorem dX6_noSerials_7 : decode cX6_noSerials 7 = .ok (.iload_n 2, 1) := by decide +kernel
theorem dX6_noSerials_8 : decode cX6_noSerials 8 = .ok (.i2l, 1) := by decide +kernel
theorem dX6_noSerials_9 : decode cX6_noSerials 9 = .ok (.ladd, 1) := by decide +kernel
theorem dX6_noSerials_10 : decode cX6_noSerials 10 = .ok (.lconst 1, 1) := by decide +kernel
theorem dX6_noSerials_11 : decode cX6_noSerials 11 = .ok (.lsub, 1) := by decide +kernel
theorem dX6_noSerials_12 : decode cX6_noSerials 12 = .ok (.aload_n 0, 1) := by decide +kernel
theorem dX6_noSerials_13 : decode cX6_noSerials 13 = .ok (.getfield 164, 3) := by decide +kernel
theorem dX6_noSerials_16 : decode cX6_noSerials 16 = .ok (.i2l, 1) := by decide +kernel
theorem dX6_noSerials_17 : decode cX6_noSerials 17 = .ok (.lcmp, 1) := by decide +kernel
theorem dX6_noSerials_18 : decode cX6_noSerials 18 = .ok (.ifCond .le 7, 3) := by decide +kernel
theorem dX6_noSerials_21 : decode cX6_noSerials 21 = .ok (.iconst 1, 1) := by decide +kernel
theorem dX6_noSerials_22 : decode cX6_noSerials 22 = .ok (.goto 4, 3) := by decide +kernel
theorem dX6_noSerials_25 : decode cX6_noSerials 25 = .ok (.iconst 0, 1) := by decide +kernel
theorem dX6_noSerials_26 : decode cX6_noSerials 26 = .ok (.ireturn, 1) := by decide +kernel
theorem dX6_hasUsed_0 : decode cX6_hasUsed 0 = .ok (.iconst 0, 1) := by decide +kernel
theorem dX6_hasUsed_1 : decode cX6_hasUsed 1 = .ok (.istore_n 3, 1) := by decide +kernel
theorem dX6_hasUsed_2 : decode cX6_hasUsed 2 = .ok (.iload_n 1, 1) := by decide +kernel
theorem dX6_hasUsed_3 : decode cX6_hasUsed 3 = .ok (.istore 4, 2) := by decide +kernel
theorem dX6_hasUsed_5 : decode cX6_hasUsed 5 = .ok (.iload 4, 2) := by decide +kernel
theorem dX6_hasUsed_7 : decode cX6_hasUsed 7 = .ok (.iload_n 1, 1) := by decide +kernel
theorem dX6_hasUsed_8 : decode cX6_hasUsed 8 = .ok (.iload_n 2, 1) := by decide +kernel
theorem dX6_hasUsed_9 : decode cX6_hasUsed 9 = .ok (.iadd, 1) := by decide +kernel
theorem dX6_hasUsed_10 : decode cX6_hasUsed 10 = .ok (.if_icmp .ge 31, 3) := by decide +kernel
theorem dX6_hasUsed_13 : decode cX6_hasUsed 13 = .ok (.iload_n 3, 1) := by decide +kernel
theorem dX6_hasUsed_14 : decode cX6_hasUsed 14 = .ok (.ifCond .ne 15, 3) := by decide +kernel
theorem dX6_hasUsed_17 : decode cX6_hasUsed 17 = .ok (.aload_n 0, 1) := by decide +kernel
theorem dX6_hasUsed_18 : decode cX6_hasUsed 18 = .ok (.getfield 59, 3) := by decide +kernel
theorem dX6_hasUsed_21 : decode cX6_hasUsed 21 = .ok (.iload 4, 2) := by decide +kernel
theorem dX6_hasUsed_23 : decode cX6_hasUsed 23 = .ok (.iaload, 1) := by decide +kernel
theorem dX6_hasUsed_24 : decode cX6_hasUsed 24 = .ok (.bipush (-9), 2) := by decide +kernel
theorem dX6_hasUsed_26 : decode cX6_hasUsed 26 = .ok (.if_icmp .eq 7, 3) := by decide +kernel
theorem dX6_hasUsed_29 : decode cX6_hasUsed 29 = .ok (.iconst 1, 1) := by decide +kernel
theorem dX6_hasUsed_30 : decode cX6_hasUsed 30 = .ok (.goto 4, 3) := by decide +kernel
theorem dX6_hasUsed_33 : decode cX6_hasUsed 33 = .ok (.iconst 0, 1) := by decide +kernel
theorem dX6_hasUsed_34 : decode cX6_hasUsed 34 = .ok (.istore_n 3, 1) := by decide +kernel
theorem dX6_hasUsed_35 : decode cX6_hasUsed 35 = .ok (.iinc 4 1, 3) := by decide +kernel
theorem dX6_hasUsed_38 : decode cX6_hasUsed 38 = .ok (.goto (-33), 3) := by decide +kernel
theorem dX6_hasUsed_41 : decode cX6_hasUsed 41 = .ok (.iload_n 3, 1) := by decide +kernel
theorem dX6_hasUsed_42 : decode cX6_hasUsed 42 = .ok (.ireturn, 1) := by decide +kernel
set_option maxRecDepth 20000 in
theorem ggX6_move_X6_noUnit : GoodIn wsX6_move wsX6_noUnit := goodIn_r _ [7, 8, 9, 10, 6, 11, 22, 23, 24, 25, 26, 27, 28, 29, 30, 31, 32, 33, 34, 35, 36, 37, 38, 39, 40, 41, 42, 43, 44, 45, 46, 47] (by decide +kernel) (by decide +kernel)
set_option maxRecDepth 20000 in
theorem gX6_move_X6_noUnit : GoodIn wsX6_move (wsV RX6 106 RX6 yX6_noUnit wsX6_noUnit) := goodIn_app (goodIn_of _ (by decide +kernel)) ggX6_move_X6_noUnit
set_option maxRecDepth 20000 in
theorem ggX6_move_X6_noSerials : GoodIn wsX6_move wsX6_noSerials := goodIn_r _ [15, 16, 22, 23, 24, 25, 26, 27, 28, 29, 30, 31, 32, 33, 34, 35, 36, 37, 38, 39, 40, 41, 42, 43, 44, 45, 46, 47] (by decide +kernel) (by decide +kernel)
set_option maxRecDepth 20000 in
theorem gX6_move_X6_noSerials : GoodIn wsX6_move (wsV RX6 167 RX6 yX6_noSerials wsX6_noSerials) := goodIn_app (goodIn_of _ (by decide +kernel)) ggX6_move_X6_noSerials
set_option maxRecDepth 20000 in
theorem ggX6_move_X6_hasUsed : GoodIn wsX6_move wsX6_hasUsed := goodIn_r _ [20, 21, 22, 23, 24, 25, 26, 27, 28, 29, 30, 31, 32, 33, 34, 35, 36, 37, 38, 39, 40, 41, 42, 43, 44, 45, 46, 47] (by decide +kernel) (by decide +kernel)
set_option maxRecDepth 20000 in
theorem gX6_move_X6_hasUsed : GoodIn wsX6_move (wsV RX6 170 RX6 yX6_hasUsed wsX6_hasUsed) := goodIn_app (goodIn_of _ (by decide +kernel)) ggX6_move_X6_hasUsed
theorem dX6_move_0 : decode cX6_move 0 = .ok (.aload_n 0, 1) := by decide +kernel
theorem dX6_move_1 : decode cX6_move 1 = .ok (.iconst 0, 1) := by decide +kernel
theorem dX6_move_2 : decode cX6_move 2 = .ok (.putfield 76, 3) := by decide +kernel
theorem dX6_move_5 : decode cX6_move 5 = .ok (.aload_n 0, 1) := by decide +kernel
theorem dX6_move_6 : decode cX6_move 6 = .ok (.iload_n 3, 1) := by decide +kernel
theorem dX6_move_7 : decode cX6_move 7 = .ok (.invokevirtual 106, 3) := by decide +kernel
theorem dX6_move_10 : decode cX6_move 10 = .ok (.ifCond .eq 5, 3) := by decide +kernel
theorem dX6_move_13 : decode cX6_move 13 = .ok (.iconst (-1), 1) := by decide +kernel
theorem dX6_move_14 : decode cX6_move 14 = .ok (.ireturn, 1) := by decide +kernel
theorem dX6_move_15 : decode cX6_move 15 = .ok (.iload_n 2, 1) := by decide +kernel
theorem dX6_move_16 : decode cX6_move 16 = .ok (.iconst 1, 1) := by decide +kernel
theorem dX6_move_17 : decode cX6_move 17 = .ok (.if_icmp .ge 6, 3) := by decide +kernel
theorem dX6_move_20 : decode cX6_move 20 = .ok (.bipush (-2), 2) := by decide +kernel
theorem dX6_move_22 : decode cX6_move 22 = .ok (.ireturn, 1) := by decide +kernel
theorem dX6_move_23 : decode cX6_move 23 = .ok (.aload_n 0, 1) := by decide +kernel
theorem dX6_move_24 : decode cX6_move 24 = .ok (.iload_n 1, 1) := by decide +kernel
theorem dX6_move_25 : decode cX6_move 25 = .ok (.iload_n 2, 1) := by decide +kernel
theorem dX6_move_26 : decode cX6_move 26 = .ok (.invokevirtual 167, 3) := by decide +kernel
theorem dX6_move_29 : decode cX6_move 29 = .ok (.ifCond .eq 5, 3) := by decide +kernel
theorem dX6_move_32 : decode cX6_move 32 = .ok (.iconst (-1), 1) := by decide +kernel
theorem dX6_move_33 : decode cX6_move 33 = .ok (.ireturn, 1) := by decide +kernel
theorem dX6_move_34 : decode cX6_move 34 = .ok (.aload_n 0, 1) := by decide +kernel
theorem dX6_move_35 : decode cX6_move 35 = .ok (.iload_n 1, 1) := by decide +kernel
theorem dX6_move_36 : decode cX6_move 36 = .ok (.iload_n 2, 1) := by decide +kernel
theorem dX6_move_37 : decode cX6_move 37 = .ok (.invokevirtual 170, 3) := by decide +kernel
theorem dX6_move_40 : decode cX6_move 40 = .ok (.ifCond .eq 6, 3) := by decide +kernel
theorem dX6_move_43 : decode cX6_move 43 = .ok (.bipush (-3), 2) := by decide +kernel
theorem dX6_move_45 : decode cX6_move 45 = .ok (.ireturn, 1) := by decide +kernel
theorem dX6_move_46 : decode cX6_move 46 = .ok (.iconst 0, 1) := by decide +kernel
theorem dX6_move_47 : decode cX6_move 47 = .ok (.istore 4, 2) := by decide +kernel
theorem dX6_move_49 : decode cX6_move 49 = .ok (.iload_n 1, 1) := by decide +kernel
theorem dX6_move_50 : decode cX6_move 50 = .ok (.istore 5, 2) := by decide +kernel
theorem dX6_move_52 : decode cX6_move 52 = .ok (.iload 5, 2) := by decide +kernel
theorem dX6_move_54 : decode cX6_move 54 = .ok (.iload_n 1, 1) := by decide +kernel
theorem dX6_move_55 : decode cX6_move 55 = .ok (.iload_n 2, 1) := by decide +kernel
theorem dX6_move_56 : decode cX6_move 56 = .ok (.iadd, 1) := by decide +kernel
theorem dX6_move_57 : decode cX6_move 57 = .ok (.if_icmp .ge 38, 3) := by decide +kernel
theorem dX6_move_60 : decode cX6_move 60 = .ok (.iload 4, 2) := by decide +kernel
theorem dX6_move_62 : decode cX6_move 62 = .ok (.aload_n 0, 1) := by decide +kernel
theorem dX6_move_63 : decode cX6_move 63 = .ok (.getfield 56, 3) := by decide +kernel
theorem dX6_move_66 : decode cX6_move 66 = .ok (.iload 5, 2) := by decide +kernel
theorem dX6_move_68 : decode cX6_move 68 = .ok (.iaload, 1) := by decide +kernel
theorem dX6_move_69 : decode cX6_move 69 = .ok (.iload_n 3, 1) := by decide +kernel
theorem dX6_move_70 : decode cX6_move 70 = .ok (.if_icmp .ne 7, 3) := by decide +kernel
theorem dX6_move_73 : decode cX6_move 73 = .ok (.iconst 0, 1) := by decide +kernel
theorem dX6_move_74 : decode cX6_move 74 = .ok (.goto 4, 3) := by decide +kernel
theorem dX6_move_77 : decode cX6_move 77 = .ok (.iconst 1, 1) := by decide +kernel
theorem dX6_move_78 : decode cX6_move 78 = .ok (.iadd, 1) := by decide +kernel
theorem dX6_move_79 : decode cX6_move 79 = .ok (.istore 4, 2) := by decide +kernel
theorem dX6_move_81 : decode cX6_move 81 = .ok (.aload_n 0, 1) := by decide +kernel
theorem dX6_move_82 : decode cX6_move 82 = .ok (.getfield 56, 3) := by decide +kernel
theorem dX6_move_85 : decode cX6_move 85 = .ok (.iload 5, 2) := by decide +kernel
theorem dX6_move_87 : decode cX6_move 87 = .ok (.iload_n 3, 1) := by decide +kernel
theorem dX6_move_88 : decode cX6_move 88 = .ok (.iastore, 1) := by decide +kernel
theorem dX6_move_89 : decode cX6_move 89 = .ok (.iinc 5 1, 3) := by decide +kernel
theorem dX6_move_92 : decode cX6_move 92 = .ok (.goto (-40), 3) := by decide +kernel
theorem dX6_move_95 : decode cX6_move 95 = .ok (.iload 4, 2) := by decide +kernel
theorem dX6_move_97 : decode cX6_move 97 = .ok (.ireturn, 1) := by decide +kernel
set_option maxRecDepth 20000 in
theorem ggX6_use_X6_noRow : GoodIn wsX6_use wsX6_noRow := goodIn_r _ [12, 13, 14, 15, 11, 16, 26, 27, 28, 29, 30, 31, 32, 33, 34, 35, 36, 37, 38, 39, 40, 41, 42, 43, 44, 45, 46, 47, 48, 49, 50, 51] (by decide +kernel) (by decide +kernel)
set_option maxRecDepth 20000 in
theorem gX6_use_X6_noRow : GoodIn wsX6_use (wsV RX6 128 RX6 yX6_noRow wsX6_noRow) := goodIn_app (goodIn_of _ (by decide +kernel)) ggX6_use_X6_noRow
set_option maxRecDepth 20000 in
theorem ggX6_use_X6_noSerials : GoodIn wsX6_use wsX6_noSerials := goodIn_r _ [20, 21, 26, 27, 28, 29, 30, 31, 32, 33, 34, 35, 36, 37, 38, 39, 40, 41, 42, 43, 44, 45, 46, 47, 48, 49, 50, 51] (by decide +kernel) (by decide +kernel)
set_option maxRecDepth 20000 in
theorem gX6_use_X6_noSerials : GoodIn wsX6_use (wsV RX6 167 RX6 yX6_noSerials wsX6_noSerials) := goodIn_app (goodIn_of _ (by decide +kernel)) ggX6_use_X6_noSerials
set_option maxRecDepth 20000 in
theorem ggX6_use_X6_hasUsed : GoodIn wsX6_use wsX6_hasUsed := goodIn_r _ [25, 7, 26, 27, 28, 29, 30, 31, 32, 33, 34, 35, 36, 37, 38, 39, 40, 41, 42, 43, 44, 45, 46, 47, 48, 49, 50, 51] (by decide +kernel) (by decide +kernel)
set_option maxRecDepth 20000 in
theorem gX6_use_X6_hasUsed : GoodIn wsX6_use (wsV RX6 170 RX6 yX6_hasUsed wsX6_hasUsed) := goodIn_app (goodIn_of _ (by decide +kernel)) ggX6_use_X6_hasUsed
theorem dX6_use_0 : decode cX6_use 0 = .ok (.aload_n 0, 1) := by decide +kernel
theorem dX6_use_1 : decode cX6_use 1 = .ok (.iconst 0, 1) := by decide +kernel
theorem dX6_use_2 : decode cX6_use 2 = .ok (.putfield 76, 3) := by decide +kernel
theorem dX6_use_5 : decode cX6_use 5 = .ok (.aload_n 0, 1) := by decide +kernel
theorem dX6_use_6 : decode cX6_use 6 = .ok (.iload_n 3, 1) := by decide +kernel
theorem dX6_use_7 : decode cX6_use 7 = .ok (.invokevirtual 128, 3) := by decide +kernel
theorem dX6_use_10 : decode cX6_use 10 = .ok (.ifCond .eq 5, 3) := by decide +kernel
theorem dX6_use_13 : decode cX6_use 13 = .ok (.iconst (-1), 1) := by decide +kernel
theorem dX6_use_14 : decode cX6_use 14 = .ok (.ireturn, 1) := by decide +kernel
theorem dX6_use_15 : decode cX6_use 15 = .ok (.iload_n 2, 1) := by decide +kernel
theorem dX6_use_16 : decode cX6_use 16 = .ok (.iconst 1, 1) := by decide +kernel
theorem dX6_use_17 : decode cX6_use 17 = .ok (.if_icmp .ge 6, 3) := by decide +kernel
theorem dX6_use_20 : decode cX6_use 20 = .ok (.bipush (-2), 2) := by decide +kernel
theorem dX6_use_22 : decode cX6_use 22 = .ok (.ireturn, 1) := by decide +kernel
theorem dX6_use_23 : decode cX6_use 23 = .ok (.aload_n 0, 1) := by decide +kernel
theorem dX6_use_24 : decode cX6_use 24 = .ok (.iload_n 1, 1) := by decide +kernel
theorem dX6_use_25 : decode cX6_use 25 = .ok (.iload_n 2, 1) := by decide +kernel
theorem dX6_use_26 : decode cX6_use 26 = .ok (.invokevirtual 167, 3) := by decide +kernel
theorem dX6_use_29 : decode cX6_use 29 = .ok (.ifCond .eq 5, 3) := by decide +kernel
theorem dX6_use_32 : decode cX6_use 32 = .ok (.iconst (-1), 1) := by decide +kernel
theorem dX6_use_33 : decode cX6_use 33 = .ok (.ireturn, 1) := by decide +kernel
theorem dX6_use_34 : decode cX6_use 34 = .ok (.aload_n 0, 1) := by decide +kernel
theorem dX6_use_35 : decode cX6_use 35 = .ok (.getfield 29, 3) := by decide +kernel
theorem dX6_use_38 : decode cX6_use 38 = .ok (.iload_n 3, 1) := by decide +kernel
theorem dX6_use_39 : decode cX6_use 39 = .ok (.iaload, 1) := by decide +kernel
theorem dX6_use_40 : decode cX6_use 40 = .ok (.iconst 1, 1) := by decide +kernel
theorem dX6_use_41 : decode cX6_use 41 = .ok (.if_icmp .ne 12, 3) := by decide +kernel
theorem dX6_use_44 : decode cX6_use 44 = .ok (.aload_n 0, 1) := by decide +kernel
theorem dX6_use_45 : decode cX6_use 45 = .ok (.iload_n 1, 1) := by decide +kernel
theorem dX6_use_46 : decode cX6_use 46 = .ok (.iload_n 2, 1) := by decide +kernel
theorem dX6_use_47 : decode cX6_use 47 = .ok (.invokevirtual 170, 3) := by decide +kernel
theorem dX6_use_50 : decode cX6_use 50 = .ok (.ifCond .eq 7, 3) := by decide +kernel
theorem dX6_use_53 : decode cX6_use 53 = .ok (.iconst 1, 1) := by decide +kernel
theorem dX6_use_54 : decode cX6_use 54 = .ok (.goto 4, 3) := by decide +kernel
theorem dX6_use_57 : decode cX6_use 57 = .ok (.iconst 0, 1) := by decide +kernel
theorem dX6_use_58 : decode cX6_use 58 = .ok (.istore 4, 2) := by decide +kernel
theorem dX6_use_60 : decode cX6_use 60 = .ok (.iload_n 1, 1) := by decide +kernel
theorem dX6_use_61 : decode cX6_use 61 = .ok (.istore 5, 2) := by decide +kernel
theorem dX6_use_63 : decode cX6_use 63 = .ok (.iload 5, 2) := by decide +kernel
theorem dX6_use_65 : decode cX6_use 65 = .ok (.iload_n 1, 1) := by decide +kernel
theorem dX6_use_66 : decode cX6_use 66 = .ok (.iload_n 2, 1) := by decide +kernel
theorem dX6_use_67 : decode cX6_use 67 = .ok (.iadd, 1) := by decide +kernel
theorem dX6_use_68 : decode cX6_use 68 = .ok (.if_icmp .ge 37, 3) := by decide +kernel
theorem dX6_use_71 : decode cX6_use 71 = .ok (.iload 4, 2) := by decide +kernel
theorem dX6_use_73 : decode cX6_use 73 = .ok (.ifCond .ne 19, 3) := by decide +kernel
theorem dX6_use_76 : decode cX6_use 76 = .ok (.aload_n 0, 1) := by decide +kernel
theorem dX6_use_77 : decode cX6_use 77 = .ok (.getfield 56, 3) := by decide +kernel
theorem dX6_use_80 : decode cX6_use 80 = .ok (.iload 5, 2) := by decide +kernel
theorem dX6_use_82 : decode cX6_use 82 = .ok (.iaload, 1) := by decide +kernel
theorem dX6_use_83 : decode cX6_use 83 = .ok (.aload_n 0, 1) := by decide +kernel
theorem dX6_use_84 : decode cX6_use 84 = .ok (.getfield 26, 3) := by decide +kernel
theorem dX6_use_87 : decode cX6_use 87 = .ok (.iload_n 3, 1) := by decide +kernel
theorem dX6_use_88 : decode cX6_use 88 = .ok (.iaload, 1) := by decide +kernel
theorem dX6_use_89 : decode cX6_use 89 = .ok (.if_icmp .eq 7, 3) := by decide +kernel
theorem dX6_use_92 : decode cX6_use 92 = .ok (.iconst 1, 1) := by decide +kernel
theorem dX6_use_93 : decode cX6_use 93 = .ok (.goto 4, 3) := by decide +kernel
theorem dX6_use_96 : decode cX6_use 96 = .ok (.iconst 0, 1) := by decide +kernel
theorem dX6_use_97 : decode cX6_use 97 = .ok (.istore 4, 2) := by decide +kernel
theorem dX6_use_99 : decode cX6_use 99 = .ok (.iinc 5 1, 3) := by decide +kernel
theorem dX6_use_102 : decode cX6_use 102 = .ok (.goto (-39), 3) := by decide +kernel
theorem dX6_use_105 : decode cX6_use 105 = .ok (.iload 4, 2) := by decide +kernel
theorem dX6_use_107 : decode cX6_use 107 = .ok (.ifCond .eq 6, 3) := by decide +kernel
theorem dX6_use_110 : decode cX6_use 110 = .ok (.bipush (-3), 2) := by decide +kernel
theorem dX6_use_112 : decode cX6_use 112 = .ok (.ireturn, 1) := by decide +kernel
theorem dX6_use_113 : decode cX6_use 113 = .ok (.aload_n 0, 1) := by decide +kernel
theorem dX6_use_114 : decode cX6_use 114 = .ok (.getfield 41, 3) := by decide +kernel
theorem dX6_use_117 : decode cX6_use 117 = .ok (.iload_n 3, 1) := by decide +kernel
theorem dX6_use_118 : decode cX6_use 118 = .ok (.iaload, 1) := by decide +kernel
theorem dX6_use_119 : decode cX6_use 119 = .ok (.iload_n 2, 1) := by decide +kernel
theorem dX6_use_120 : decode cX6_use 120 = .ok (.iadd, 1) := by decide +kernel
theorem dX6_use_121 : decode cX6_use 121 = .ok (.aload_n 0, 1) := by decide +kernel
theorem dX6_use_122 : decode cX6_use 122 = .ok (.getfield 32, 3) := by decide +kernel
theorem dX6_use_125 : decode cX6_use 125 = .ok (.iload_n 3, 1) := by decide +kernel
theorem dX6_use_126 : decode cX6_use 126 = .ok (.iaload, 1) := by decide +kernel
theorem dX6_use_127 : decode cX6_use 127 = .ok (.if_icmp .le 6, 3) := by decide +kernel
theorem dX6_use_130 : decode cX6_use 130 = .ok (.bipush (-4), 2) := by decide +kernel
theorem dX6_use_132 : decode cX6_use 132 = .ok (.ireturn, 1) := by decide +kernel
theorem dX6_use_133 : decode cX6_use 133 = .ok (.iload_n 1, 1) := by decide +kernel
theorem dX6_use_134 : decode cX6_use 134 = .ok (.istore 5, 2) := by decide +kernel
theorem dX6_use_136 : decode cX6_use 136 = .ok (.iload 5, 2) := by decide +kernel
theorem dX6_use_138 : decode cX6_use 138 = .ok (.iload_n 1, 1) := by decide +kernel
theorem dX6_use_139 : decode cX6_use 139 = .ok (.iload_n 2, 1) := by decide +kernel
theorem dX6_use_140 : decode cX6_use 140 = .ok (.iadd, 1) := by decide +kernel
theorem dX6_use_141 : decode cX6_use 141 = .ok (.if_icmp .ge 17, 3) := by decide +kernel
theorem dX6_use_144 : decode cX6_use 144 = .ok (.aload_n 0, 1) := by decide +kernel
theorem dX6_use_145 : decode cX6_use 145 = .ok (.getfield 59, 3) := by decide +kernel
theorem dX6_use_148 : decode cX6_use 148 = .ok (.iload 5, 2) := by decide +kernel
theorem dX6_use_150 : decode cX6_use 150 = .ok (.iload_n 3, 1) := by decide +kernel
theorem dX6_use_151 : decode cX6_use 151 = .ok (.iastore, 1) := by decide +kernel
theorem dX6_use_152 : decode cX6_use 152 = .ok (.iinc 5 1, 3) := by decide +kernel
theorem dX6_use_155 : decode cX6_use 155 = .ok (.goto (-19), 3) := by decide +kernel
theorem dX6_use_158 : decode cX6_use 158 = .ok (.aload_n 0, 1) := by decide +kernel
theorem dX6_use_159 : decode cX6_use 159 = .ok (.getfield 41, 3) := by decide +kernel
theorem dX6_use_162 : decode cX6_use 162 = .ok (.iload_n 3, 1) := by decide +kernel
theorem dX6_use_163 : decode cX6_use 163 = .ok (.dup2, 1) := by decide +kernel
theorem dX6_use_164 : decode cX6_use 164 = .ok (.iaload, 1) := by decide +kernel
theorem dX6_use_165 : decode cX6_use 165 = .ok (.iload_n 2, 1) := by decide +kernel
theorem dX6_use_166 : decode cX6_use 166 = .ok (.iadd, 1) := by decide +kernel
theorem dX6_use_167 : decode cX6_use 167 = .ok (.iastore, 1) := by decide +kernel
theorem dX6_use_168 : decode cX6_use 168 = .ok (.aload_n 0, 1) := by decide +kernel
theorem dX6_use_169 : decode cX6_use 169 = .ok (.getfield 41, 3) := by decide +kernel
theorem dX6_use_172 : decode cX6_use 172 = .ok (.iload_n 3, 1) := by decide +kernel
theorem dX6_use_173 : decode cX6_use 173 = .ok (.iaload, 1) := by decide +kernel
theorem dX6_use_174 : decode cX6_use 174 = .ok (.ireturn, 1) := by decide +kernel
set_option maxRecDepth 20000 in
theorem ggX6_owner_X6_in : GoodIn wsX6_owner wsX6_in := goodIn_r _ [7] (by decide +kernel) (by decide +kernel)
set_option maxRecDepth 20000 in
theorem gX6_owner_X6_in : GoodIn wsX6_owner (va_wsS RX6 79 yX6_in wsX6_in) := goodIn_app (goodIn_of _ (by decide +kernel)) ggX6_owner_X6_in
theorem dX6_owner_0 : decode cX6_owner 0 = .ok (.aload_n 0, 1) := by decide +kernel
theorem dX6_owner_1 : decode cX6_owner 1 = .ok (.iconst 0, 1) := by decide +kernel
theorem dX6_owner_2 : decode cX6_owner 2 = .ok (.putfield 76, 3) := by decide +kernel
theorem dX6_owner_5 : decode cX6_owner 5 = .ok (.iload_n 1, 1) := by decide +kernel
theorem dX6_owner_6 : decode cX6_owner 6 = .ok (.i2l, 1) := by decide +kernel
theorem dX6_owner_7 : decode cX6_owner 7 = .ok (.lconst 1, 1) := by decide +kernel
theorem dX6_owner_8 : decode cX6_owner 8 = .ok (.aload_n 0, 1) := by decide +kernel
theorem dX6_owner_9 : decode cX6_owner 9 = .ok (.getfield 164, 3) := by decide +kernel
theorem dX6_owner_12 : decode cX6_owner 12 = .ok (.i2l, 1) := by decide +kernel
theorem dX6_owner_13 : decode cX6_owner 13 = .ok (.invokestatic 79, 3) := by decide +kernel
theorem dX6_owner_16 : decode cX6_owner 16 = .ok (.ifCond .eq 12, 3) := by decide +kernel
theorem dX6_owner_19 : decode cX6_owner 19 = .ok (.aload_n 0, 1) := by decide +kernel
theorem dX6_owner_20 : decode cX6_owner 20 = .ok (.getfield 56, 3) := by decide +kernel
theorem dX6_owner_23 : decode cX6_owner 23 = .ok (.iload_n 1, 1) := by decide +kernel
theorem dX6_owner_24 : decode cX6_owner 24 = .ok (.iaload, 1) := by decide +kernel
theorem dX6_owner_25 : decode cX6_owner 25 = .ok (.goto 4, 3) := by decide +kernel
theorem dX6_owner_28 : decode cX6_owner 28 = .ok (.iconst (-1), 1) := by decide +kernel
theorem dX6_owner_29 : decode cX6_owner 29 = .ok (.ireturn, 1) := by decide +kernel
set_option maxRecDepth 20000 in
theorem ggX6_usedFor_X6_in : GoodIn wsX6_usedFor wsX6_in := goodIn_r _ [7] (by decide +kernel) (by decide +kernel)
set_option maxRecDepth 20000 in
theorem gX6_usedFor_X6_in : GoodIn wsX6_usedFor (va_wsS RX6 79 yX6_in wsX6_in) := goodIn_app (goodIn_of _ (by decide +kernel)) ggX6_usedFor_X6_in
theorem dX6_usedFor_0 : decode cX6_usedFor 0 = .ok (.aload_n 0, 1) := by decide +kernel
theorem dX6_usedFor_1 : decode cX6_usedFor 1 = .ok (.iconst 0, 1) := by decide +kernel
theorem dX6_usedFor_2 : decode cX6_usedFor 2 = .ok (.putfield 76, 3) := by decide +kernel
theorem dX6_usedFor_5 : decode cX6_usedFor 5 = .ok (.iload_n 1, 1) := by decide +kernel
theorem dX6_usedFor_6 : decode cX6_usedFor 6 = .ok (.i2l, 1) := by decide +kernel
theorem dX6_usedFor_7 : decode cX6_usedFor 7 = .ok (.lconst 1, 1) := by decide +kernel
theorem dX6_usedFor_8 : decode cX6_usedFor 8 = .ok (.aload_n 0, 1) := by decide +kernel
theorem dX6_usedFor_9 : decode cX6_usedFor 9 = .ok (.getfield 164, 3) := by decide +kernel
theorem dX6_usedFor_12 : decode cX6_usedFor 12 = .ok (.i2l, 1) := by decide +kernel
theorem dX6_usedFor_13 : decode cX6_usedFor 13 = .ok (.invokestatic 79, 3) := by decide +kernel
theorem dX6_usedFor_16 : decode cX6_usedFor 16 = .ok (.ifCond .eq 12, 3) := by decide +kernel
theorem dX6_usedFor_19 : decode cX6_usedFor 19 = .ok (.aload_n 0, 1) := by decide +kernel
theorem dX6_usedFor_20 : decode cX6_usedFor 20 = .ok (.getfield 59, 3) := by decide +kernel
theorem dX6_usedFor_23 : decode cX6_usedFor 23 = .ok (.iload_n 1, 1) := by decide +kernel
theorem dX6_usedFor_24 : decode cX6_usedFor 24 = .ok (.iaload, 1) := by decide +kernel
theorem dX6_usedFor_25 : decode cX6_usedFor 25 = .ok (.goto 4, 3) := by decide +kernel
theorem dX6_usedFor_28 : decode cX6_usedFor 28 = .ok (.iconst (-1), 1) := by decide +kernel
theorem dX6_usedFor_29 : decode cX6_usedFor 29 = .ok (.ireturn, 1) := by decide +kernel
set_option maxRecDepth 20000 in
theorem ggX6_free_X6_noUnit : GoodIn wsX6_free wsX6_noUnit := goodIn_r _ [9, 10, 11, 12, 8, 13, 14, 15, 16, 17, 18, 19, 20, 21, 22, 23, 24, 25, 26, 27, 28, 29, 30, 31, 32, 33, 34, 35, 36, 37, 38, 39] (by decide +kernel) (by decide +kernel)
set_option maxRecDepth 20000 in
theorem gX6_free_X6_noUnit : GoodIn wsX6_free (wsV RX6 106 RX6 yX6_noUnit wsX6_noUnit) := goodIn_app (goodIn_of _ (by decide +kernel)) ggX6_free_X6_noUnit
theorem dX6_free_0 : decode cX6_free 0 = .ok (.aload_n 0, 1) := by decide +kernel
theorem dX6_free_1 : decode cX6_free 1 = .ok (.iconst 0, 1) := by decide +kernel
theorem dX6_free_2 : decode cX6_free 2 = .ok (.putfield 76, 3) := by decide +kernel
theorem dX6_free_5 : decode cX6_free 5 = .ok (.aload_n 0, 1) := by decide +kernel
theorem dX6_free_6 : decode cX6_free 6 = .ok (.iload_n 1, 1) := by decide +kernel
theorem dX6_free_7 : decode cX6_free 7 = .ok (.invokevirtual 106, 3) := by decide +kernel
theorem dX6_free_10 : decode cX6_free 10 = .ok (.ifCond .eq 5, 3) := by decide +kernel
theorem dX6_free_13 : decode cX6_free 13 = .ok (.iconst (-1), 1) := by decide +kernel
theorem dX6_free_14 : decode cX6_free 14 = .ok (.ireturn, 1) := by decide +kernel
theorem dX6_free_15 : decode cX6_free 15 = .ok (.iconst 0, 1) := by decide +kernel
theorem dX6_free_16 : decode cX6_free 16 = .ok (.istore_n 2, 1) := by decide +kernel
theorem dX6_free_17 : decode cX6_free 17 = .ok (.iconst 1, 1) := by decide +kernel
theorem dX6_free_18 : decode cX6_free 18 = .ok (.istore_n 3, 1) := by decide +kernel
theorem dX6_free_19 : decode cX6_free 19 = .ok (.iload_n 3, 1) := by decide +kernel
theorem dX6_free_20 : decode cX6_free 20 = .ok (.aload_n 0, 1) := by decide +kernel
theorem dX6_free_21 : decode cX6_free 21 = .ok (.getfield 164, 3) := by decide +kernel
theorem dX6_free_24 : decode cX6_free 24 = .ok (.if_icmp .gt 38, 3) := by decide +kernel
theorem dX6_free_27 : decode cX6_free 27 = .ok (.iload_n 2, 1) := by decide +kernel
theorem dX6_free_28 : decode cX6_free 28 = .ok (.aload_n 0, 1) := by decide +kernel
theorem dX6_free_29 : decode cX6_free 29 = .ok (.getfield 56, 3) := by decide +kernel
theorem dX6_free_32 : decode cX6_free 32 = .ok (.iload_n 3, 1) := by decide +kernel
theorem dX6_free_33 : decode cX6_free 33 = .ok (.iaload, 1) := by decide +kernel
theorem dX6_free_34 : decode cX6_free 34 = .ok (.iload_n 1, 1) := by decide +kernel
theorem dX6_free_35 : decode cX6_free 35 = .ok (.if_icmp .ne 18, 3) := by decide +kernel
theorem dX6_free_38 : decode cX6_free 38 = .ok (.aload_n 0, 1) := by decide +kernel
theorem dX6_free_39 : decode cX6_free 39 = .ok (.getfield 59, 3) := by decide +kernel
theorem dX6_free_42 : decode cX6_free 42 = .ok (.iload_n 3, 1) := by decide +kernel
theorem dX6_free_43 : decode cX6_free 43 = .ok (.iaload, 1) := by decide +kernel
theorem dX6_free_44 : decode cX6_free 44 = .ok (.bipush (-9), 2) := by decide +kernel
theorem dX6_free_46 : decode cX6_free 46 = .ok (.if_icmp .ne 7, 3) := by decide +kernel
theorem dX6_free_49 : decode cX6_free 49 = .ok (.iconst 1, 1) := by decide +kernel
theorem dX6_free_50 : decode cX6_free 50 = .ok (.goto 4, 3) := by decide +kernel
theorem dX6_free_53 : decode cX6_free 53 = .ok (.iconst 0, 1) := by decide +kernel
theorem dX6_free_54 : decode cX6_free 54 = .ok (.iadd, 1) := by decide +kernel
theorem dX6_free_55 : decode cX6_free 55 = .ok (.istore_n 2, 1) := by decide +kernel
theorem dX6_free_56 : decode cX6_free 56 = .ok (.iinc 3 1, 3) := by decide +kernel
theorem dX6_free_59 : decode cX6_free 59 = .ok (.goto (-40), 3) := by decide +kernel
theorem dX6_free_62 : decode cX6_free 62 = .ok (.iload_n 2, 1) := by decide +kernel
theorem dX6_free_63 : decode cX6_free 63 = .ok (.ireturn, 1) := by decide +kernel
theorem dX6_begins_0 : decode cX6_begins 0 = .ok (.iload_n 1, 1) := by decide +kernel
theorem dX6_begins_1 : decode cX6_begins 1 = .ok (.iconst 1, 1) := by decide +kernel
theorem dX6_begins_2 : decode cX6_begins 2 = .ok (.if_icmp .eq 37, 3) := by decide +kernel
theorem dX6_begins_5 : decode cX6_begins 5 = .ok (.aload_n 0, 1) := by decide +kernel
theorem dX6_begins_6 : decode cX6_begins 6 = .ok (.getfield 56, 3) := by decide +kernel
theorem dX6_begins_9 : decode cX6_begins 9 = .ok (.iload_n 1, 1) := by decide +kernel
theorem dX6_begins_10 : decode cX6_begins 10 = .ok (.iaload, 1) := by decide +kernel
theorem dX6_begins_11 : decode cX6_begins 11 = .ok (.aload_n 0, 1) := by decide +kernel
theorem dX6_begins_12 : decode cX6_begins 12 = .ok (.getfield 56, 3) := by decide +kernel
theorem dX6_begins_15 : decode cX6_begins 15 = .ok (.iload_n 1, 1) := by decide +kernel
theorem dX6_begins_16 : decode cX6_begins 16 = .ok (.iconst 1, 1) := by decide +kernel
theorem dX6_begins_17 : decode cX6_begins 17 = .ok (.isub, 1) := by decide +kernel
theorem dX6_begins_18 : decode cX6_begins 18 = .ok (.iaload, 1) := by decide +kernel
theorem dX6_begins_19 : decode cX6_begins 19 = .ok (.if_icmp .ne 20, 3) := by decide +kernel
theorem dX6_begins_22 : decode cX6_begins 22 = .ok (.aload_n 0, 1) := by decide +kernel
theorem dX6_begins_23 : decode cX6_begins 23 = .ok (.getfield 59, 3) := by decide +kernel
theorem dX6_begins_26 : decode cX6_begins 26 = .ok (.iload_n 1, 1) := by decide +kernel
theorem dX6_begins_27 : decode cX6_begins 27 = .ok (.iaload, 1) := by decide +kernel
theorem dX6_begins_28 : decode cX6_begins 28 = .ok (.aload_n 0, 1) := by decide +kernel
theorem dX6_begins_29 : decode cX6_begins 29 = .ok (.getfield 59, 3) := by decide +kernel
theorem dX6_begins_32 : decode cX6_begins 32 = .ok (.iload_n 1, 1) := by decide +kernel
theorem dX6_begins_33 : decode cX6_begins 33 = .ok (.iconst 1, 1) := by decide +kernel
theorem dX6_begins_34 : decode cX6_begins 34 = .ok (.isub, 1) := by decide +kernel
theorem dX6_begins_35 : decode cX6_begins 35 = .ok (.iaload, 1) := by decide +kernel
theorem dX6_begins_36 : decode cX6_begins 36 = .ok (.if_icmp .eq 7, 3) := by decide +kernel
theorem dX6_begins_39 : decode cX6_begins 39 = .ok (.iconst 1, 1) := by decide +kernel
theorem dX6_begins_40 : decode cX6_begins 40 = .ok (.goto 4, 3) := by decide +kernel
theorem dX6_begins_43 : decode cX6_begins 43 = .ok (.iconst 0, 1) := by decide +kernel
theorem dX6_begins_44 : decode cX6_begins 44 = .ok (.ireturn, 1) := by decide +kernel
set_option maxRecDepth 20000 in
theorem ggX6_runs_X6_begins : GoodIn wsX6_runs wsX6_begins := goodIn_r _ [7, 8, 9, 10, 11, 12, 13, 14, 15, 16, 17, 18, 19, 20, 21, 22, 23, 24, 25, 26, 27, 28, 29, 30, 31, 32, 33, 34, 35] (by decide +kernel) (by decide +kernel)
set_option maxRecDepth 20000 in
theorem gX6_runs_X6_begins : GoodIn wsX6_runs (wsV RX6 173 RX6 yX6_begins wsX6_begins) := goodIn_app (goodIn_of _ (by decide +kernel)) ggX6_runs_X6_begins
theorem dX6_runs_0 : decode cX6_runs 0 = .ok (.aload_n 0, 1) := by decide +kernel
theorem dX6_runs_1 : decode cX6_runs 1 = .ok (.iconst 0, 1) := by decide +kernel
theorem dX6_runs_2 : decode cX6_runs 2 = .ok (.putfield 76, 3) := by decide +kernel
theorem dX6_runs_5 : decode cX6_runs 5 = .ok (.iconst 0, 1) := by decide +kernel
theorem dX6_runs_6 : decode cX6_runs 6 = .ok (.istore_n 1, 1) := by decide +kernel
theorem dX6_runs_7 : decode cX6_runs 7 = .ok (.iconst 1, 1) := by decide +kernel
theorem dX6_runs_8 : decode cX6_runs 8 = .ok (.istore_n 2, 1) := by decide +kernel
theorem dX6_runs_9 : decode cX6_runs 9 = .ok (.iload_n 2, 1) := by decide +kernel
theorem dX6_runs_10 : decode cX6_runs 10 = .ok (.aload_n 0, 1) := by decide +kernel
theorem dX6_runs_11 : decode cX6_runs 11 = .ok (.getfield 164, 3) := by decide +kernel
theorem dX6_runs_14 : decode cX6_runs 14 = .ok (.if_icmp .gt 25, 3) := by decide +kernel
theorem dX6_runs_17 : decode cX6_runs 17 = .ok (.iload_n 1, 1) := by decide +kernel
theorem dX6_runs_18 : decode cX6_runs 18 = .ok (.aload_n 0, 1) := by decide +kernel
theorem dX6_runs_19 : decode cX6_runs 19 = .ok (.iload_n 2, 1) := by decide +kernel
theorem dX6_runs_20 : decode cX6_runs 20 = .ok (.invokevirtual 173, 3) := by decide +kernel
theorem dX6_runs_23 : decode cX6_runs 23 = .ok (.ifCond .eq 7, 3) := by decide +kernel
theorem dX6_runs_26 : decode cX6_runs 26 = .ok (.iconst 1, 1) := by decide +kernel
theorem dX6_runs_27 : decode cX6_runs 27 = .ok (.goto 4, 3) := by decide +kernel
theorem dX6_runs_30 : decode cX6_runs 30 = .ok (.iconst 0, 1) := by decide +kernel
theorem dX6_runs_31 : decode cX6_runs 31 = .ok (.iadd, 1) := by decide +kernel
theorem dX6_runs_32 : decode cX6_runs 32 = .ok (.istore_n 1, 1) := by decide +kernel
theorem dX6_runs_33 : decode cX6_runs 33 = .ok (.iinc 2 1, 3) := by decide +kernel
theorem dX6_runs_36 : decode cX6_runs 36 = .ok (.goto (-27), 3) := by decide +kernel
theorem dX6_runs_39 : decode cX6_runs 39 = .ok (.iload_n 1, 1) := by decide +kernel
theorem dX6_runs_40 : decode cX6_runs 40 = .ok (.ireturn, 1) := by decide +kernel
set_option maxRecDepth 20000 in
theorem ggX6_run_X6_begins : GoodIn wsX6_run wsX6_begins := goodIn_r _ [9, 3, 4, 10, 11, 12, 13, 14, 15, 16, 17, 18, 19, 20, 21, 22, 23, 24, 25, 26, 27, 28, 29, 30, 31, 32, 33, 34, 35] (by decide +kernel) (by decide +kernel)
set_option maxRecDepth 20000 in
theorem gX6_run_X6_begins : GoodIn wsX6_run (wsV RX6 173 RX6 yX6_begins wsX6_begins) := goodIn_app (goodIn_of _ (by decide +kernel)) ggX6_run_X6_begins
theorem dX6_run_0 : decode cX6_run 0 = .ok (.aload_n 0, 1) := by decide +kernel
theorem dX6_run_1 : decode cX6_run 1 = .ok (.iconst 0, 1) := by decide +kernel
theorem dX6_run_2 : decode cX6_run 2 = .ok (.putfield 76, 3) := by decide +kernel
theorem dX6_run_5 : decode cX6_run 5 = .ok (.iconst (-1), 1) := by decide +kernel
theorem dX6_run_6 : decode cX6_run 6 = .ok (.istore_n 3, 1) := by decide +kernel
theorem dX6_run_7 : decode cX6_run 7 = .ok (.iconst 0, 1) := by decide +kernel
theorem dX6_run_8 : decode cX6_run 8 = .ok (.istore 4, 2) := by decide +kernel
theorem dX6_run_10 : decode cX6_run 10 = .ok (.iconst 0, 1) := by decide +kernel
theorem dX6_run_11 : decode cX6_run 11 = .ok (.istore 5, 2) := by decide +kernel
theorem dX6_run_13 : decode cX6_run 13 = .ok (.iconst 1, 1) := by decide +kernel
theorem dX6_run_14 : decode cX6_run 14 = .ok (.istore 6, 2) := by decide +kernel
theorem dX6_run_16 : decode cX6_run 16 = .ok (.iload 6, 2) := by decide +kernel
theorem dX6_run_18 : decode cX6_run 18 = .ok (.aload_n 0, 1) := by decide +kernel
theorem dX6_run_19 : decode cX6_run 19 = .ok (.getfield 164, 3) := by decide +kernel
theorem dX6_run_22 : decode cX6_run 22 = .ok (.if_icmp .gt 60, 3) := by decide +kernel
theorem dX6_run_25 : decode cX6_run 25 = .ok (.iload_n 3, 1) := by decide +kernel
theorem dX6_run_26 : decode cX6_run 26 = .ok (.aload_n 0, 1) := by decide +kernel
theorem dX6_run_27 : decode cX6_run 27 = .ok (.iload 6, 2) := by decide +kernel
theorem dX6_run_29 : decode cX6_run 29 = .ok (.invokevirtual 173, 3) := by decide +kernel
theorem dX6_run_32 : decode cX6_run 32 = .ok (.ifCond .eq 7, 3) := by decide +kernel
theorem dX6_run_35 : decode cX6_run 35 = .ok (.iconst 1, 1) := by decide +kernel
theorem dX6_run_36 : decode cX6_run 36 = .ok (.goto 4, 3) := by decide +kernel
theorem dX6_run_39 : decode cX6_run 39 = .ok (.iconst 0, 1) := by decide +kernel
theorem dX6_run_40 : decode cX6_run 40 = .ok (.iadd, 1) := by decide +kernel
theorem dX6_run_41 : decode cX6_run 41 = .ok (.istore_n 3, 1) := by decide +kernel
theorem dX6_run_42 : decode cX6_run 42 = .ok (.iload_n 3, 1) := by decide +kernel
theorem dX6_run_43 : decode cX6_run 43 = .ok (.iload_n 1, 1) := by decide +kernel
theorem dX6_run_44 : decode cX6_run 44 = .ok (.if_icmp .ne 13, 3) := by decide +kernel
theorem dX6_run_47 : decode cX6_run 47 = .ok (.iload 4, 2) := by decide +kernel
theorem dX6_run_49 : decode cX6_run 49 = .ok (.ifCond .ne 8, 3) := by decide +kernel
theorem dX6_run_52 : decode cX6_run 52 = .ok (.iload 6, 2) := by decide +kernel
theorem dX6_run_54 : decode cX6_run 54 = .ok (.goto 5, 3) := by decide +kernel
theorem dX6_run_57 : decode cX6_run 57 = .ok (.iload 4, 2) := by decide +kernel
theorem dX6_run_59 : decode cX6_run 59 = .ok (.istore 4, 2) := by decide +kernel
theorem dX6_run_61 : decode cX6_run 61 = .ok (.iload 5, 2) := by decide +kernel
theorem dX6_run_63 : decode cX6_run 63 = .ok (.iload_n 3, 1) := by decide +kernel
theorem dX6_run_64 : decode cX6_run 64 = .ok (.iload_n 1, 1) := by decide +kernel
theorem dX6_run_65 : decode cX6_run 65 = .ok (.if_icmp .ne 7, 3) := by decide +kernel
theorem dX6_run_68 : decode cX6_run 68 = .ok (.iconst 1, 1) := by decide +kernel
theorem dX6_run_69 : decode cX6_run 69 = .ok (.goto 4, 3) := by decide +kernel
theorem dX6_run_72 : decode cX6_run 72 = .ok (.iconst 0, 1) := by decide +kernel
theorem dX6_run_73 : decode cX6_run 73 = .ok (.iadd, 1) := by decide +kernel
theorem dX6_run_74 : decode cX6_run 74 = .ok (.istore 5, 2) := by decide +kernel
theorem dX6_run_76 : decode cX6_run 76 = .ok (.iinc 6 1, 3) := by decide +kernel
theorem dX6_run_79 : decode cX6_run 79 = .ok (.goto (-63), 3) := by decide +kernel
theorem dX6_run_82 : decode cX6_run 82 = .ok (.iload_n 1, 1) := by decide +kernel
theorem dX6_run_83 : decode cX6_run 83 = .ok (.ifCond .lt 8, 3) := by decide +kernel
theorem dX6_run_86 : decode cX6_run 86 = .ok (.iload 5, 2) := by decide +kernel
theorem dX6_run_88 : decode cX6_run 88 = .ok (.ifCond .ne 5, 3) := by decide +kernel
theorem dX6_run_91 : decode cX6_run 91 = .ok (.iconst (-1), 1) := by decide +kernel
theorem dX6_run_92 : decode cX6_run 92 = .ok (.ireturn, 1) := by decide +kernel
theorem dX6_run_93 : decode cX6_run 93 = .ok (.iload_n 2, 1) := by decide +kernel
theorem dX6_run_94 : decode cX6_run 94 = .ok (.ifCond .ne 8, 3) := by decide +kernel
theorem dX6_run_97 : decode cX6_run 97 = .ok (.iload 4, 2) := by decide +kernel
theorem dX6_run_99 : decode cX6_run 99 = .ok (.goto 45, 3) := by decide +kernel
theorem dX6_run_102 : decode cX6_run 102 = .ok (.iload_n 2, 1) := by decide +kernel
theorem dX6_run_103 : decode cX6_run 103 = .ok (.iconst 1, 1) := by decide +kernel
theorem dX6_run_104 : decode cX6_run 104 = .ok (.if_icmp .ne 8, 3) := by decide +kernel
theorem dX6_run_107 : decode cX6_run 107 = .ok (.iload 5, 2) := by decide +kernel
theorem dX6_run_109 : decode cX6_run 109 = .ok (.goto 35, 3) := by decide +kernel
theorem dX6_run_112 : decode cX6_run 112 = .ok (.iload_n 2, 1) := by decide +kernel
theorem dX6_run_113 : decode cX6_run 113 = .ok (.iconst 2, 1) := by decide +kernel
theorem dX6_run_114 : decode cX6_run 114 = .ok (.if_icmp .ne 13, 3) := by decide +kernel
theorem dX6_run_117 : decode cX6_run 117 = .ok (.aload_n 0, 1) := by decide +kernel
theorem dX6_run_118 : decode cX6_run 118 = .ok (.getfield 56, 3) := by decide +kernel
theorem dX6_run_121 : decode cX6_run 121 = .ok (.iload 4, 2) := by decide +kernel
theorem dX6_run_123 : decode cX6_run 123 = .ok (.iaload, 1) := by decide +kernel
theorem dX6_run_124 : decode cX6_run 124 = .ok (.goto 20, 3) := by decide +kernel
theorem dX6_run_127 : decode cX6_run 127 = .ok (.iload_n 2, 1) := by decide +kernel
theorem dX6_run_128 : decode cX6_run 128 = .ok (.iconst 3, 1) := by decide +kernel
theorem dX6_run_129 : decode cX6_run 129 = .ok (.if_icmp .ne 13, 3) := by decide +kernel
theorem dX6_run_132 : decode cX6_run 132 = .ok (.aload_n 0, 1) := by decide +kernel
theorem dX6_run_133 : decode cX6_run 133 = .ok (.getfield 59, 3) := by decide +kernel
theorem dX6_run_136 : decode cX6_run 136 = .ok (.iload 4, 2) := by decide +kernel
theorem dX6_run_138 : decode cX6_run 138 = .ok (.iaload, 1) := by decide +kernel
theorem dX6_run_139 : decode cX6_run 139 = .ok (.goto 5, 3) := by decide +kernel
theorem dX6_run_142 : decode cX6_run 142 = .ok (.bipush (-2), 2) := by decide +kernel
theorem dX6_run_144 : decode cX6_run 144 = .ok (.ireturn, 1) := by decide +kernel
theorem dX6_count_0 : decode cX6_count 0 = .ok (.aload_n 0, 1) := by decide +kernel
theorem dX6_count_1 : decode cX6_count 1 = .ok (.iconst 0, 1) := by decide +kernel
theorem dX6_count_2 : decode cX6_count 2 = .ok (.putfield 76, 3) := by decide +kernel
theorem dX6_count_5 : decode cX6_count 5 = .ok (.iload_n 1, 1) := by decide +kernel
theorem dX6_count_6 : decode cX6_count 6 = .ok (.tableswitch 59 0 4 #[34, 39, 44, 49, 54], 34) := by decide +kernel
theorem dX6_count_40 : decode cX6_count 40 = .ok (.aload_n 0, 1) := by decide +kernel
theorem dX6_count_41 : decode cX6_count 41 = .ok (.getfield 7, 3) := by decide +kernel
theorem dX6_count_44 : decode cX6_count 44 = .ok (.ireturn, 1) := by decide +kernel
theorem dX6_count_45 : decode cX6_count 45 = .ok (.aload_n 0, 1) := by decide +kernel
theorem dX6_count_46 : decode cX6_count 46 = .ok (.getfield 90, 3) := by decide +kernel
theorem dX6_count_49 : decode cX6_count 49 = .ok (.ireturn, 1) := by decide +kernel
theorem dX6_count_50 : decode cX6_count 50 = .ok (.aload_n 0, 1) := by decide +kernel
theorem dX6_count_51 : decode cX6_count 51 = .ok (.getfield 87, 3) := by decide +kernel
theorem dX6_count_54 : decode cX6_count 54 = .ok (.ireturn, 1) := by decide +kernel
theorem dX6_count_55 : decode cX6_count 55 = .ok (.aload_n 0, 1) := by decide +kernel
theorem dX6_count_56 : decode cX6_count 56 = .ok (.getfield 164, 3) := by decide +kernel
theorem dX6_count_59 : decode cX6_count 59 = .ok (.ireturn, 1) := by decide +kernel
theorem dX6_count_60 : decode cX6_count 60 = .ok (.aload_n 0, 1) := by decide +kernel
theorem dX6_count_61 : decode cX6_count 61 = .ok (.getfield 93, 3) := by decide +kernel
theorem dX6_count_64 : decode cX6_count 64 = .ok (.ireturn, 1) := by decide +kernel
theorem dX6_count_65 : decode cX6_count 65 = .ok (.bipush (-2), 2) := by decide +kernel
theorem dX6_count_67 : decode cX6_count 67 = .ok (.ireturn, 1) := by decide +kernel
theorem dJ9_max_7cf53_0 : decode cJ9_max_7cf53 0 = .ok (.iload_n 0, 1) := by decide +kernel
theorem dJ9_max_7cf53_1 : decode cJ9_max_7cf53 1 = .ok (.iload_n 1, 1) := by decide +kernel
theorem dJ9_max_7cf53_2 : decode cJ9_max_7cf53 2 = .ok (.if_icmp .lt 7, 3) := by decide +kernel
theorem dJ9_max_7cf53_5 : decode cJ9_max_7cf53 5 = .ok (.iload_n 0, 1) := by decide +kernel
theorem dJ9_max_7cf53_6 : decode cJ9_max_7cf53 6 = .ok (.goto 4, 3) := by decide +kernel
theorem dJ9_max_7cf53_9 : decode cJ9_max_7cf53 9 = .ok (.iload_n 1, 1) := by decide +kernel
theorem dJ9_max_7cf53_10 : decode cJ9_max_7cf53 10 = .ok (.ireturn, 1) := by decide +kernel
theorem dJ9_min_7cf53_0 : decode cJ9_min_7cf53 0 = .ok (.iload_n 0, 1) := by decide +kernel
theorem dJ9_min_7cf53_1 : decode cJ9_min_7cf53 1 = .ok (.iload_n 1, 1) := by decide +kernel
theorem dJ9_min_7cf53_2 : decode cJ9_min_7cf53 2 = .ok (.if_icmp .gt 7, 3) := by decide +kernel
theorem dJ9_min_7cf53_5 : decode cJ9_min_7cf53 5 = .ok (.iload_n 0, 1) := by decide +kernel
theorem dJ9_min_7cf53_6 : decode cJ9_min_7cf53 6 = .ok (.goto 4, 3) := by decide +kernel
theorem dJ9_min_7cf53_9 : decode cJ9_min_7cf53 9 = .ok (.iload_n 1, 1) := by decide +kernel
theorem dJ9_min_7cf53_10 : decode cJ9_min_7cf53 10 = .ok (.ireturn, 1) := by decide +kernel
theorem dJ7_fill_d0a16_0 : decode cJ7_fill_d0a16 0 = .ok (.iconst 0, 1) := by decide +kernel
theorem dJ7_fill_d0a16_1 : decode cJ7_fill_d0a16 1 = .ok (.istore_n 3, 1) := by decide +kernel
theorem dJ7_fill_d0a16_2 : decode cJ7_fill_d0a16 2 = .ok (.aload_n 0, 1) := by decide +kernel
theorem dJ7_fill_d0a16_3 : decode cJ7_fill_d0a16 3 = .ok (.arraylength, 1) := by decide +kernel
theorem dJ7_fill_d0a16_4 : decode cJ7_fill_d0a16 4 = .ok (.istore 4, 2) := by decide +kernel
theorem dJ7_fill_d0a16_6 : decode cJ7_fill_d0a16 6 = .ok (.iload_n 3, 1) := by decide +kernel
theorem dJ7_fill_d0a16_7 : decode cJ7_fill_d0a16 7 = .ok (.iload 4, 2) := by decide +kernel
theorem dJ7_fill_d0a16_9 : decode cJ7_fill_d0a16 9 = .ok (.if_icmp .ge 13, 3) := by decide +kernel
theorem dJ7_fill_d0a16_12 : decode cJ7_fill_d0a16 12 = .ok (.aload_n 0, 1) := by decide +kernel
theorem dJ7_fill_d0a16_13 : decode cJ7_fill_d0a16 13 = .ok (.iload_n 3, 1) := by decide +kernel
theorem dJ7_fill_d0a16_14 : decode cJ7_fill_d0a16 14 = .ok (.lload_n 1, 1) := by decide +kernel
theorem dJ7_fill_d0a16_15 : decode cJ7_fill_d0a16 15 = .ok (.lastore, 1) := by decide +kernel
theorem dJ7_fill_d0a16_16 : decode cJ7_fill_d0a16 16 = .ok (.iinc 3 1, 3) := by decide +kernel
theorem dJ7_fill_d0a16_19 : decode cJ7_fill_d0a16 19 = .ok (.goto (-13), 3) := by decide +kernel
theorem dJ7_fill_d0a16_22 : decode cJ7_fill_d0a16 22 = .ok (.return_, 1) := by decide +kernel
theorem dJ7_fill_53178_0 : decode cJ7_fill_53178 0 = .ok (.iconst 0, 1) := by decide +kernel
theorem dJ7_fill_53178_1 : decode cJ7_fill_53178 1 = .ok (.istore_n 2, 1) := by decide +kernel
theorem dJ7_fill_53178_2 : decode cJ7_fill_53178 2 = .ok (.aload_n 0, 1) := by decide +kernel
theorem dJ7_fill_53178_3 : decode cJ7_fill_53178 3 = .ok (.arraylength, 1) := by decide +kernel
theorem dJ7_fill_53178_4 : decode cJ7_fill_53178 4 = .ok (.istore_n 3, 1) := by decide +kernel
theorem dJ7_fill_53178_5 : decode cJ7_fill_53178 5 = .ok (.iload_n 2, 1) := by decide +kernel
theorem dJ7_fill_53178_6 : decode cJ7_fill_53178 6 = .ok (.iload_n 3, 1) := by decide +kernel
theorem dJ7_fill_53178_7 : decode cJ7_fill_53178 7 = .ok (.if_icmp .ge 13, 3) := by decide +kernel
theorem dJ7_fill_53178_10 : decode cJ7_fill_53178 10 = .ok (.aload_n 0, 1) := by decide +kernel
theorem dJ7_fill_53178_11 : decode cJ7_fill_53178 11 = .ok (.iload_n 2, 1) := by decide +kernel
theorem dJ7_fill_53178_12 : decode cJ7_fill_53178 12 = .ok (.iload_n 1, 1) := by decide +kernel
theorem dJ7_fill_53178_13 : decode cJ7_fill_53178 13 = .ok (.iastore, 1) := by decide +kernel
theorem dJ7_fill_53178_14 : decode cJ7_fill_53178 14 = .ok (.iinc 2 1, 3) := by decide +kernel
theorem dJ7_fill_53178_17 : decode cJ7_fill_53178 17 = .ok (.goto (-12), 3) := by decide +kernel
theorem dJ7_fill_53178_20 : decode cJ7_fill_53178 20 = .ok (.return_, 1) := by decide +kernel
theorem dJ7_copyOf_59c91_0 : decode cJ7_copyOf_59c91 0 = .ok (.iload_n 1, 1) := by decide +kernel
theorem dJ7_copyOf_59c91_1 : decode cJ7_copyOf_59c91 1 = .ok (.aload_n 0, 1) := by decide +kernel
theorem dJ7_copyOf_59c91_2 : decode cJ7_copyOf_59c91 2 = .ok (.arraylength, 1) := by decide +kernel
theorem dJ7_copyOf_59c91_3 : decode cJ7_copyOf_59c91 3 = .ok (.if_icmp .ne 11, 3) := by decide +kernel
theorem dJ7_copyOf_59c91_6 : decode cJ7_copyOf_59c91 6 = .ok (.aload_n 0, 1) := by decide +kernel
theorem dJ7_copyOf_59c91_7 : decode cJ7_copyOf_59c91 7 = .ok (.invokevirtual 316, 3) := by decide +kernel
theorem dJ7_copyOf_59c91_10 : decode cJ7_copyOf_59c91 10 = .ok (.checkcast 317, 3) := by decide +kernel
theorem dJ7_copyOf_59c91_13 : decode cJ7_copyOf_59c91 13 = .ok (.areturn, 1) := by decide +kernel
theorem dJ7_copyOf_59c91_14 : decode cJ7_copyOf_59c91 14 = .ok (.iload_n 1, 1) := by decide +kernel
theorem dJ7_copyOf_59c91_15 : decode cJ7_copyOf_59c91 15 = .ok (.newarray .int, 2) := by decide +kernel
theorem dJ7_copyOf_59c91_17 : decode cJ7_copyOf_59c91 17 = .ok (.astore_n 2, 1) := by decide +kernel
theorem dJ7_copyOf_59c91_18 : decode cJ7_copyOf_59c91 18 = .ok (.aload_n 0, 1) := by decide +kernel
theorem dJ7_copyOf_59c91_19 : decode cJ7_copyOf_59c91 19 = .ok (.iconst 0, 1) := by decide +kernel
theorem dJ7_copyOf_59c91_20 : decode cJ7_copyOf_59c91 20 = .ok (.aload_n 2, 1) := by decide +kernel
theorem dJ7_copyOf_59c91_21 : decode cJ7_copyOf_59c91 21 = .ok (.iconst 0, 1) := by decide +kernel
theorem dJ7_copyOf_59c91_22 : decode cJ7_copyOf_59c91 22 = .ok (.aload_n 0, 1) := by decide +kernel
theorem dJ7_copyOf_59c91_23 : decode cJ7_copyOf_59c91 23 = .ok (.arraylength, 1) := by decide +kernel
theorem dJ7_copyOf_59c91_24 : decode cJ7_copyOf_59c91 24 = .ok (.iload_n 1, 1) := by decide +kernel
theorem dJ7_copyOf_59c91_25 : decode cJ7_copyOf_59c91 25 = .ok (.invokestatic 304, 3) := by decide +kernel
theorem dJ7_copyOf_59c91_28 : decode cJ7_copyOf_59c91 28 = .ok (.invokestatic 150, 3) := by decide +kernel
theorem dJ7_copyOf_59c91_31 : decode cJ7_copyOf_59c91 31 = .ok (.aload_n 2, 1) := by decide +kernel
theorem dJ7_copyOf_59c91_32 : decode cJ7_copyOf_59c91 32 = .ok (.areturn, 1) := by decide +kernel
set_option maxRecDepth 20000 in
theorem ggL_law_X5_init : GoodIn wsL_law wsX5_init := goodIn_r _ [8, 9, 10, 11, 12, 13, 14, 15, 16, 17, 18, 19, 20, 21, 22, 23, 24, 25, 26, 27, 28, 29, 30, 31, 32, 33, 34, 35, 36, 37, 38, 39, 40, 41, 42, 43, 44, 45, 46, 47, 48, 49, 50, 51, 52, 53, 54, 55, 56, 57, 58, 59, 60, 61, 62, 63, 64, 65, 66, 67, 68, 69, 70, 71, 72, 73, 74, 75, 687, 688, 689, 690, 691, 692, 693, 694, 695, 696, 697, 656, 657, 658, 659, 660, 698, 699, 700, 701, 702, 703, 704, 705, 706, 707, 708, 709, 710, 711, 712, 713, 714] (by decide +kernel) (by decide +kernel)
set_option maxRecDepth 20000 in
theorem gL_law_X5_init : GoodIn wsL_law (wsX5_init) := ggL_law_X5_init
set_option maxRecDepth 20000 in
theorem ggL_law_X6_init : GoodIn wsL_law wsX6_init := goodIn_r _ [78, 79, 10, 11, 80, 33, 81, 82, 83, 84, 85, 86, 87, 88, 89, 90, 91, 92, 93, 94, 95, 96, 97, 41, 98, 39, 99, 100, 661, 662, 663, 664, 665, 666, 667, 668, 669, 670, 671, 672, 673, 674, 675, 676, 677, 678, 679, 680, 681, 682, 683, 684, 685, 686] (by decide +kernel) (by decide +kernel)
set_option maxRecDepth 20000 in
theorem gL_law_X6_init : GoodIn wsL_law (wsX6_init) := ggL_law_X6_init
set_option maxRecDepth 20000 in
theorem ggL_law_X5_unit : GoodIn wsL_law wsX5_unit := goodIn_r _ [104, 28, 656, 657, 658, 659, 660] (by decide +kernel) (by decide +kernel)
set_option maxRecDepth 20000 in
theorem gL_law_X5_unit : GoodIn wsL_law (wsV RL 13 RX5 yX5_unit wsX5_unit) := goodIn_app (goodIn_of _ (by decide +kernel)) ggL_law_X5_unit
set_option maxRecDepth 20000 in
theorem ggL_law_X6_unit : GoodIn wsL_law wsX6_unit := goodIn_r _ [108, 109, 80, 661, 662, 663, 664, 665, 666, 667, 668, 669, 670, 671, 672, 673, 674, 675, 676, 677, 678, 679, 680, 681, 682, 683, 684, 685, 686] (by decide +kernel) (by decide +kernel)
set_option maxRecDepth 20000 in
theorem gL_law_X6_unit : GoodIn wsL_law (wsV RL 17 RX6 yX6_unit wsX6_unit) := goodIn_app (goodIn_of _ (by decide +kernel)) ggL_law_X6_unit
set_option maxRecDepth 20000 in
theorem ggL_law_X5_hold : GoodIn wsL_law wsX5_hold := goodIn_r _ [113, 15, 114, 115, 116, 2, 117, 28, 118, 119, 120, 121, 122, 123, 124, 125, 126, 14, 127, 38, 128, 129, 130, 131, 46, 36, 34, 35, 132, 133, 134, 135, 136, 137, 138, 139, 140, 141, 142, 143, 144, 145, 146, 147, 148, 149, 150, 151, 37, 152, 153, 154, 155, 156, 157, 158, 159, 160, 161, 162, 163, 164, 165, 166, 167, 168, 169, 170, 171, 172, 173, 174, 175, 40, 656, 657, 658, 659, 660, 687, 688, 689, 690, 691, 692, 693, 694, 695, 696, 697] (by decide +kernel) (by decide +kernel)
set_option maxRecDepth 20000 in
theorem gL_law_X5_hold : GoodIn wsL_law (wsV RL 18 RX5 yX5_hold wsX5_hold) := goodIn_app (goodIn_of _ (by decide +kernel)) ggL_law_X5_hold
set_option maxRecDepth 20000 in
theorem ggL_law_X6_hold : GoodIn wsL_law wsX6_hold := goodIn_r _ [179, 109, 180, 97, 181, 81, 82, 84, 83, 182, 183, 184, 5, 185, 80, 186, 187, 188, 189, 190, 191, 192, 193, 194, 195, 196, 99, 100, 197, 198, 199, 200, 661, 662, 663, 664, 665, 666, 667, 668, 669, 670, 671, 672, 673, 674, 675, 676, 677, 678, 679, 680, 681, 682, 683, 684, 685, 686] (by decide +kernel) (by decide +kernel)
set_option maxRecDepth 20000 in
theorem gL_law_X6_hold : GoodIn wsL_law (wsV RL 22 RX6 yX6_hold wsX6_hold) := goodIn_app (goodIn_of _ (by decide +kernel)) ggL_law_X6_hold
set_option maxRecDepth 20000 in
theorem ggL_law_X5_holds : GoodIn wsL_law wsX5_holds := goodIn_r _ [204, 15, 114, 115, 116, 2, 117, 28, 121, 122, 123, 205, 153, 154, 14, 155, 34, 35, 36, 156, 157, 158, 159, 46, 37, 656, 657, 658, 659, 660, 687, 688, 689, 690, 691, 692, 693, 694, 695, 696, 697] (by decide +kernel) (by decide +kernel)
set_option maxRecDepth 20000 in
theorem gL_law_X5_holds : GoodIn wsL_law (wsV RL 23 RX5 yX5_holds wsX5_holds) := goodIn_app (goodIn_of _ (by decide +kernel)) ggL_law_X5_holds
set_option maxRecDepth 20000 in
theorem ggL_law_X6_holds : GoodIn wsL_law wsX6_holds := goodIn_r _ [209, 109, 97, 182, 183, 184, 5, 185, 80, 186, 187, 188, 189, 190, 191, 192, 197, 198, 199, 200, 100, 99, 181, 81, 82, 84, 83, 661, 662, 663, 664, 665, 666, 667, 668, 669, 670, 671, 672, 673, 674, 675, 676, 677, 678, 679, 680, 681, 682, 683, 684, 685, 686] (by decide +kernel) (by decide +kernel)
set_option maxRecDepth 20000 in
theorem gL_law_X6_holds : GoodIn wsL_law (wsV RL 27 RX6 yX6_holds wsX6_holds) := goodIn_app (goodIn_of _ (by decide +kernel)) ggL_law_X6_holds
set_option maxRecDepth 20000 in
theorem ggL_law_X5_share : GoodIn wsL_law wsX5_share := goodIn_r _ [213, 214, 15, 215, 114, 115, 116, 2, 117, 28, 121, 122, 123, 216, 217, 218, 14, 219, 156, 157, 158, 159, 46, 37, 220, 221, 222, 223, 40, 42, 224, 225, 226, 227, 43, 34, 35, 36, 44, 228, 168, 169, 170, 171, 132, 133, 134, 135, 229, 230, 231, 232, 233, 234, 235, 45, 236, 656, 657, 658, 659, 660, 687, 688, 689, 690, 691, 692, 693, 694, 695, 696, 697] (by decide +kernel) (by decide +kernel)
set_option maxRecDepth 20000 in
theorem gL_law_X5_share : GoodIn wsL_law (wsV RL 28 RX5 yX5_share wsX5_share) := goodIn_app (goodIn_of _ (by decide +kernel)) ggL_law_X5_share
set_option maxRecDepth 20000 in
theorem ggL_law_X6_share : GoodIn wsL_law wsX6_share := goodIn_r _ [240, 109, 241, 242, 98, 182, 183, 184, 5, 185, 80, 186, 187, 188, 189, 190, 191, 192, 243, 244, 245, 246, 247, 248, 97, 180, 197, 198, 199, 200, 100, 99, 181, 81, 82, 84, 83, 661, 662, 663, 664, 665, 666, 667, 668, 669, 670, 671, 672, 673, 674, 675, 676, 677, 678, 679, 680, 681, 682, 683, 684, 685, 686] (by decide +kernel) (by decide +kernel)
set_option maxRecDepth 20000 in
theorem gL_law_X6_share : GoodIn wsL_law (wsV RL 32 RX6 yX6_share wsX6_share) := goodIn_app (goodIn_of _ (by decide +kernel)) ggL_law_X6_share
set_option maxRecDepth 20000 in
theorem ggL_law_X5_days : GoodIn wsL_law wsX5_days := goodIn_r _ [252, 214, 215, 15, 114, 115, 116, 2, 117, 28, 121, 122, 123, 253, 254, 255, 14, 256, 46, 37, 257, 258, 259, 260, 156, 157, 158, 159, 220, 221, 222, 223, 40, 42, 224, 225, 226, 227, 43, 34, 35, 36, 44, 228, 168, 169, 170, 171, 132, 133, 134, 135, 229, 230, 231, 232, 233, 234, 235, 45, 236, 656, 657, 658, 659, 660, 687, 688, 689, 690, 691, 692, 693, 694, 695, 696, 697] (by decide +kernel) (by decide +kernel)
set_option maxRecDepth 20000 in
theorem gL_law_X5_days : GoodIn wsL_law (wsV RL 33 RX5 yX5_days wsX5_days) := goodIn_app (goodIn_of _ (by decide +kernel)) ggL_law_X5_days
set_option maxRecDepth 20000 in
theorem ggL_law_X6_days : GoodIn wsL_law wsX6_days := goodIn_r _ [264, 109, 241, 242, 181, 84, 98, 182, 183, 184, 5, 185, 80, 186, 187, 188, 189, 190, 191, 192, 243, 244, 245, 246, 247, 248, 97, 180, 197, 198, 199, 200, 100, 99, 81, 82, 83, 661, 662, 663, 664, 665, 666, 667, 668, 669, 670, 671, 672, 673, 674, 675, 676, 677, 678, 679, 680, 681, 682, 683, 684, 685, 686] (by decide +kernel) (by decide +kernel)
set_option maxRecDepth 20000 in
theorem gL_law_X6_days : GoodIn wsL_law (wsV RL 37 RX6 yX6_days wsX6_days) := goodIn_app (goodIn_of _ (by decide +kernel)) ggL_law_X6_days
set_option maxRecDepth 20000 in
theorem ggL_law_X5_row : GoodIn wsL_law wsX5_row := goodIn_r _ [268, 269, 19, 114, 115, 116, 2, 117, 28, 270, 271, 272, 121, 122, 123, 273, 274, 275, 18, 276, 57, 51, 52, 53, 54, 55, 656, 657, 658, 659, 660, 698, 699, 700, 701, 702, 703, 704] (by decide +kernel) (by decide +kernel)
set_option maxRecDepth 20000 in
theorem gL_law_X5_row : GoodIn wsL_law (wsV RL 38 RX5 yX5_row wsX5_row) := goodIn_app (goodIn_of _ (by decide +kernel)) ggL_law_X5_row
set_option maxRecDepth 20000 in
theorem ggL_law_X6_row : GoodIn wsL_law wsX6_row := goodIn_r _ [280, 109, 281, 282, 283, 85, 86, 87, 88, 89, 182, 183, 184, 5, 185, 80, 186, 187, 188, 189, 190, 191, 192, 661, 662, 663, 664, 665, 666, 667, 668, 669, 670, 671, 672, 673, 674, 675, 676, 677, 678, 679, 680, 681, 682, 683, 684, 685, 686] (by decide +kernel) (by decide +kernel)
set_option maxRecDepth 20000 in
theorem gL_law_X6_row : GoodIn wsL_law (wsV RL 42 RX6 yX6_row wsX6_row) := goodIn_app (goodIn_of _ (by decide +kernel)) ggL_law_X6_row
set_option maxRecDepth 20000 in
theorem ggL_law_X5_told : GoodIn wsL_law wsX5_told := goodIn_r _ [287, 19, 288, 289, 290, 291, 292, 293, 294, 295, 296, 2, 297, 298, 299, 300, 301, 302, 15, 216, 217, 218, 14, 219, 156, 157, 158, 159, 46, 37, 220, 221, 222, 223, 40, 42, 224, 225, 226, 227, 43, 34, 35, 36, 44, 228, 168, 169, 170, 171, 132, 133, 134, 135, 229, 230, 231, 232, 233, 234, 235, 45, 236, 656, 657, 658, 659, 660, 698, 699, 700, 701, 702, 703, 704, 687, 688, 689, 690, 691, 692, 693, 694, 695, 696, 697] (by decide +kernel) (by decide +kernel)
set_option maxRecDepth 20000 in
theorem gL_law_X5_told : GoodIn wsL_law (wsV RL 43 RX5 yX5_told wsX5_told) := goodIn_app (goodIn_of _ (by decide +kernel)) ggL_law_X5_told
set_option maxRecDepth 20000 in
theorem ggL_law_X6_told : GoodIn wsL_law wsX6_told := goodIn_r _ [306, 109, 85, 86, 87, 88, 89, 90, 307, 308, 309, 5, 310, 283, 186, 187, 188, 311, 312, 313, 314, 98, 243, 244, 245, 246, 247, 248, 97, 180, 197, 198, 199, 200, 100, 99, 181, 81, 82, 84, 83, 661, 662, 663, 664, 665, 666, 667, 668, 669, 670, 671, 672, 673, 674, 675, 676, 677, 678, 679, 680, 681, 682, 683, 684, 685, 686] (by decide +kernel) (by decide +kernel)
set_option maxRecDepth 20000 in
theorem gL_law_X6_told : GoodIn wsL_law (wsV RL 47 RX6 yX6_told wsX6_told) := goodIn_app (goodIn_of _ (by decide +kernel)) ggL_law_X6_told
set_option maxRecDepth 20000 in
theorem ggL_law_X5_factor : GoodIn wsL_law wsX5_factor := goodIn_r _ [318, 23, 270, 271, 2, 272, 319, 320, 321, 322, 323, 324, 22, 325, 66, 62, 63, 64, 65, 656, 657, 658, 659, 660, 705, 706, 707, 708, 709] (by decide +kernel) (by decide +kernel)
set_option maxRecDepth 20000 in
theorem gL_law_X5_factor : GoodIn wsL_law (wsV RL 48 RX5 yX5_factor wsX5_factor) := goodIn_app (goodIn_of _ (by decide +kernel)) ggL_law_X5_factor
set_option maxRecDepth 20000 in
theorem ggL_law_X6_factor : GoodIn wsL_law wsX6_factor := goodIn_r _ [329, 109, 281, 330, 91, 92, 93, 94, 186, 187, 5, 188, 331, 332, 333, 334, 661, 662, 663, 664, 665, 666, 667, 668, 669, 670, 671, 672, 673, 674, 675, 676, 677, 678, 679, 680, 681, 682, 683, 684, 685, 686] (by decide +kernel) (by decide +kernel)
set_option maxRecDepth 20000 in
theorem gL_law_X6_factor : GoodIn wsL_law (wsV RL 51 RX6 yX6_factor wsX6_factor) := goodIn_app (goodIn_of _ (by decide +kernel)) ggL_law_X6_factor
set_option maxRecDepth 20000 in
theorem ggL_law_X5_factorAs : GoodIn wsL_law wsX5_factorAs := goodIn_r _ [338, 23, 339, 340, 341, 2, 342, 343, 270, 271, 272, 319, 320, 321, 344, 345, 346, 22, 347, 66, 62, 63, 348, 349, 350, 351, 65, 64, 656, 657, 658, 659, 660, 705, 706, 707, 708, 709] (by decide +kernel) (by decide +kernel)
set_option maxRecDepth 20000 in
theorem gL_law_X5_factorAs : GoodIn wsL_law (wsV RL 52 RX5 yX5_factorAs wsX5_factorAs) := goodIn_app (goodIn_of _ (by decide +kernel)) ggL_law_X5_factorAs
set_option maxRecDepth 20000 in
theorem ggL_law_X6_factorAs : GoodIn wsL_law wsX6_factorAs := goodIn_r _ [355, 109, 281, 356, 357, 358, 5, 359, 330, 186, 187, 188, 331, 332, 333, 334, 360, 361, 362, 363, 94, 93, 364, 365, 366, 367, 91, 92, 661, 662, 663, 664, 665, 666, 667, 668, 669, 670, 671, 672, 673, 674, 675, 676, 677, 678, 679, 680, 681, 682, 683, 684, 685, 686] (by decide +kernel) (by decide +kernel)
set_option maxRecDepth 20000 in
theorem gL_law_X6_factorAs : GoodIn wsL_law (wsV RL 56 RX6 yX6_factorAs wsX6_factorAs) := goodIn_app (goodIn_of _ (by decide +kernel)) ggL_law_X6_factorAs
set_option maxRecDepth 20000 in
theorem ggL_law_X5_tons : GoodIn wsL_law wsX5_tons := goodIn_r _ [371, 214, 372, 373, 374, 294, 295, 296, 2, 297, 19, 298, 339, 340, 341, 342, 23, 343, 375, 376, 377, 378, 10, 11, 379, 380, 381, 382, 383, 384, 385, 386, 387, 388, 389, 390, 289, 290, 391, 392, 393, 394, 395, 396, 397, 18, 398, 54, 344, 345, 346, 22, 347, 66, 62, 63, 348, 349, 350, 351, 65, 64, 399, 400, 401, 402, 53, 56, 715, 716, 717, 718, 656, 657, 658, 659, 660, 698, 699, 700, 701, 702, 703, 704, 705, 706, 707, 708, 709] (by decide +kernel) (by decide +kernel)
set_option maxRecDepth 20000 in
theorem gL_law_X5_tons : GoodIn wsL_law (wsV RL 57 RX5 yX5_tons wsX5_tons) := goodIn_app (goodIn_of _ (by decide +kernel)) ggL_law_X5_tons
set_option maxRecDepth 20000 in
theorem ggL_law_X6_tons : GoodIn wsL_law wsX6_tons := goodIn_r _ [406, 109, 241, 307, 308, 309, 5, 310, 283, 186, 187, 188, 356, 357, 358, 359, 330, 407, 408, 409, 410, 86, 88, 87, 90, 411, 360, 361, 362, 363, 94, 93, 364, 365, 366, 367, 91, 92, 661, 662, 663, 664, 665, 666, 667, 668, 669, 670, 671, 672, 673, 674, 675, 676, 677, 678, 679, 680, 681, 682, 683, 684, 685, 686] (by decide +kernel) (by decide +kernel)
set_option maxRecDepth 20000 in
theorem gL_law_X6_tons : GoodIn wsL_law (wsV RL 61 RX6 yX6_tons wsX6_tons) := goodIn_app (goodIn_of _ (by decide +kernel)) ggL_law_X6_tons
set_option maxRecDepth 20000 in
theorem ggL_law_X5_changed : GoodIn wsL_law wsX5_changed := goodIn_r _ [415, 19, 298, 339, 340, 341, 2, 342, 23, 343, 319, 320, 321, 416, 417, 418, 419, 420, 421, 422, 18, 423, 424, 396, 397, 398, 54, 391, 392, 393, 394, 289, 395, 344, 345, 346, 22, 347, 66, 62, 63, 348, 349, 350, 351, 65, 64, 656, 657, 658, 659, 660, 698, 699, 700, 701, 702, 703, 704, 705, 706, 707, 708, 709] (by decide +kernel) (by decide +kernel)
set_option maxRecDepth 20000 in
theorem gL_law_X5_changed : GoodIn wsL_law (wsV RL 62 RX5 yX5_changed wsX5_changed) := goodIn_app (goodIn_of _ (by decide +kernel)) ggL_law_X5_changed
set_option maxRecDepth 20000 in
theorem ggL_law_X6_changed : GoodIn wsL_law wsX6_changed := goodIn_r _ [428, 109, 283, 88, 356, 357, 358, 5, 359, 330, 186, 187, 188, 331, 332, 333, 334, 429, 430, 431, 432, 407, 408, 409, 410, 86, 87, 90, 411, 360, 361, 362, 363, 94, 93, 364, 365, 366, 367, 91, 92, 661, 662, 663, 664, 665, 666, 667, 668, 669, 670, 671, 672, 673, 674, 675, 676, 677, 678, 679, 680, 681, 682, 683, 684, 685, 686] (by decide +kernel) (by decide +kernel)
set_option maxRecDepth 20000 in
theorem gL_law_X6_changed : GoodIn wsL_law (wsV RL 65 RX6 yX6_changed wsX6_changed) := goodIn_app (goodIn_of _ (by decide +kernel)) ggL_law_X6_changed
set_option maxRecDepth 20000 in
theorem ggL_law_X5_change : GoodIn wsL_law wsX5_change := goodIn_r _ [436, 19, 298, 339, 340, 341, 2, 342, 23, 343, 319, 320, 321, 416, 417, 418, 419, 420, 421, 422, 18, 423, 424, 396, 397, 398, 54, 391, 392, 393, 394, 289, 395, 344, 345, 346, 22, 347, 66, 62, 63, 348, 349, 350, 351, 65, 64, 656, 657, 658, 659, 660, 698, 699, 700, 701, 702, 703, 704, 705, 706, 707, 708, 709] (by decide +kernel) (by decide +kernel)
set_option maxRecDepth 20000 in
theorem gL_law_X5_change : GoodIn wsL_law (wsV RL 66 RX5 yX5_change wsX5_change) := goodIn_app (goodIn_of _ (by decide +kernel)) ggL_law_X5_change
set_option maxRecDepth 20000 in
theorem ggL_law_X6_change : GoodIn wsL_law wsX6_change := goodIn_r _ [440, 109, 283, 88, 356, 357, 358, 5, 359, 330, 186, 187, 188, 331, 332, 333, 334, 429, 430, 431, 432, 407, 408, 409, 410, 86, 87, 90, 411, 360, 361, 362, 363, 94, 93, 364, 365, 366, 367, 91, 92, 661, 662, 663, 664, 665, 666, 667, 668, 669, 670, 671, 672, 673, 674, 675, 676, 677, 678, 679, 680, 681, 682, 683, 684, 685, 686] (by decide +kernel) (by decide +kernel)
set_option maxRecDepth 20000 in
theorem gL_law_X6_change : GoodIn wsL_law (wsV RL 69 RX6 yX6_change wsX6_change) := goodIn_app (goodIn_of _ (by decide +kernel)) ggL_law_X6_change
set_option maxRecDepth 20000 in
theorem ggL_law_X5_total : GoodIn wsL_law wsX5_total := goodIn_r _ [444, 215, 214, 372, 373, 374, 319, 320, 2, 321, 339, 340, 341, 342, 23, 343, 375, 376, 377, 378, 10, 11, 379, 380, 381, 382, 445, 446, 447, 448, 19, 298, 288, 291, 15, 449, 389, 420, 421, 422, 18, 423, 424, 396, 397, 398, 54, 216, 217, 218, 14, 219, 156, 157, 158, 159, 46, 37, 220, 221, 222, 223, 40, 42, 224, 225, 226, 227, 43, 34, 35, 36, 44, 228, 168, 169, 170, 171, 132, 133, 134, 135, 229, 230, 231, 232, 233, 234, 235, 45, 236, 299, 300, 301, 302, 292, 383, 384, 385, 386, 387, 388, 390, 289, 290, 391, 392, 393, 394, 395, 344, 345, 346, 22, 347, 66, 62, 63, 348, 349, 350, 351, 65, 64, 399, 400, 401, 402, 53, 56, 715, 716, 717, 718, 656, 657, 658, 659, 660, 705, 706, 707, 708, 709, 698, 699, 700, 701, 702, 703, 704, 687, 688, 689, 690, 691, 692, 693, 694, 695, 696, 697] (by decide +kernel) (by decide +kernel)
set_option maxRecDepth 20000 in
theorem gL_law_X5_total : GoodIn wsL_law (wsV RL 70 RX5 yX5_total wsX5_total) := goodIn_app (goodIn_of _ (by decide +kernel)) ggL_law_X5_total
set_option maxRecDepth 20000 in
theorem ggL_law_X6_total : GoodIn wsL_law wsX6_total := goodIn_r _ [453, 109, 242, 241, 331, 332, 5, 333, 334, 186, 187, 188, 356, 357, 358, 359, 330, 454, 455, 456, 457, 283, 88, 85, 98, 411, 311, 312, 313, 314, 89, 243, 244, 245, 246, 247, 248, 97, 180, 197, 198, 199, 200, 100, 99, 181, 81, 82, 84, 83, 407, 408, 409, 410, 86, 87, 90, 360, 361, 362, 363, 94, 93, 364, 365, 366, 367, 91, 92, 661, 662, 663, 664, 665, 666, 667, 668, 669, 670, 671, 672, 673, 674, 675, 676, 677, 678, 679, 680, 681, 682, 683, 684, 685, 686] (by decide +kernel) (by decide +kernel)
set_option maxRecDepth 20000 in
theorem gL_law_X6_total : GoodIn wsL_law (wsV RL 74 RX6 yX6_total wsX6_total) := goodIn_app (goodIn_of _ (by decide +kernel)) ggL_law_X6_total
set_option maxRecDepth 20000 in
theorem ggL_law_X5_anew : GoodIn wsL_law wsX5_anew := goodIn_r _ [461, 215, 214, 372, 373, 374, 319, 320, 2, 321, 121, 122, 123, 339, 340, 341, 342, 23, 343, 375, 376, 377, 378, 10, 11, 379, 380, 381, 382, 445, 446, 447, 448, 19, 298, 288, 291, 15, 449, 389, 420, 421, 422, 18, 423, 424, 396, 397, 398, 54, 216, 217, 218, 14, 219, 156, 157, 158, 159, 46, 37, 220, 221, 222, 223, 40, 42, 224, 225, 226, 227, 43, 34, 35, 36, 44, 228, 168, 169, 170, 171, 132, 133, 134, 135, 229, 230, 231, 232, 233, 234, 235, 45, 236, 299, 300, 301, 302, 292, 383, 384, 385, 386, 387, 388, 390, 289, 290, 391, 392, 393, 394, 395, 344, 345, 346, 22, 347, 66, 62, 63, 348, 349, 350, 351, 65, 64, 399, 400, 401, 402, 53, 56, 715, 716, 717, 718, 656, 657, 658, 659, 660, 705, 706, 707, 708, 709, 698, 699, 700, 701, 702, 703, 704, 687, 688, 689, 690, 691, 692, 693, 694, 695, 696, 697] (by decide +kernel) (by decide +kernel)
set_option maxRecDepth 20000 in
theorem gL_law_X5_anew : GoodIn wsL_law (wsV RL 75 RX5 yX5_anew wsX5_anew) := goodIn_app (goodIn_of _ (by decide +kernel)) ggL_law_X5_anew
set_option maxRecDepth 20000 in
theorem ggL_law_X6_anew : GoodIn wsL_law wsX6_anew := goodIn_r _ [465, 109, 242, 241, 331, 332, 5, 333, 334, 186, 187, 188, 189, 190, 191, 192, 356, 357, 358, 359, 330, 454, 455, 456, 457, 283, 88, 85, 98, 411, 311, 312, 313, 314, 89, 243, 244, 245, 246, 247, 248, 97, 180, 197, 198, 199, 200, 100, 99, 181, 81, 82, 84, 83, 407, 408, 409, 410, 86, 87, 90, 360, 361, 362, 363, 94, 93, 364, 365, 366, 367, 91, 92, 661, 662, 663, 664, 665, 666, 667, 668, 669, 670, 671, 672, 673, 674, 675, 676, 677, 678, 679, 680, 681, 682, 683, 684, 685, 686] (by decide +kernel) (by decide +kernel)
set_option maxRecDepth 20000 in
theorem gL_law_X6_anew : GoodIn wsL_law (wsV RL 79 RX6 yX6_anew wsX6_anew) := goodIn_app (goodIn_of _ (by decide +kernel)) ggL_law_X6_anew
set_option maxRecDepth 20000 in
theorem ggL_law_X5_part : GoodIn wsL_law wsX5_part := goodIn_r _ [469, 214, 215, 372, 373, 374, 114, 115, 116, 2, 117, 28, 319, 320, 321, 339, 340, 341, 342, 23, 343, 375, 376, 377, 378, 10, 11, 379, 380, 381, 382, 445, 446, 447, 448, 19, 298, 288, 291, 15, 449, 389, 420, 421, 422, 18, 423, 424, 396, 397, 398, 54, 216, 217, 218, 14, 219, 156, 157, 158, 159, 46, 37, 220, 221, 222, 223, 40, 42, 224, 225, 226, 227, 43, 34, 35, 36, 44, 228, 168, 169, 170, 171, 132, 133, 134, 135, 229, 230, 231, 232, 233, 234, 235, 45, 236, 299, 300, 301, 302, 292, 383, 384, 385, 386, 387, 388, 390, 289, 290, 391, 392, 393, 394, 395, 344, 345, 346, 22, 347, 66, 62, 63, 348, 349, 350, 351, 65, 64, 399, 400, 401, 402, 53, 56, 715, 716, 717, 718, 656, 657, 658, 659, 660, 705, 706, 707, 708, 709, 698, 699, 700, 701, 702, 703, 704, 687, 688, 689, 690, 691, 692, 693, 694, 695, 696, 697] (by decide +kernel) (by decide +kernel)
set_option maxRecDepth 20000 in
theorem gL_law_X5_part : GoodIn wsL_law (wsV RL 80 RX5 yX5_part wsX5_part) := goodIn_app (goodIn_of _ (by decide +kernel)) ggL_law_X5_part
set_option maxRecDepth 20000 in
theorem ggL_law_X6_part : GoodIn wsL_law wsX6_part := goodIn_r _ [473, 109, 241, 242, 182, 183, 184, 5, 185, 80, 186, 187, 188, 331, 332, 333, 334, 356, 357, 358, 359, 330, 454, 455, 456, 457, 283, 88, 85, 98, 411, 311, 312, 313, 314, 89, 243, 244, 245, 246, 247, 248, 97, 180, 197, 198, 199, 200, 100, 99, 181, 81, 82, 84, 83, 407, 408, 409, 410, 86, 87, 90, 360, 361, 362, 363, 94, 93, 364, 365, 366, 367, 91, 92, 661, 662, 663, 664, 665, 666, 667, 668, 669, 670, 671, 672, 673, 674, 675, 676, 677, 678, 679, 680, 681, 682, 683, 684, 685, 686] (by decide +kernel) (by decide +kernel)
set_option maxRecDepth 20000 in
theorem gL_law_X6_part : GoodIn wsL_law (wsV RL 83 RX6 yX6_part wsX6_part) := goodIn_app (goodIn_of _ (by decide +kernel)) ggL_law_X6_part
set_option maxRecDepth 20000 in
theorem ggL_law_X5_doubles : GoodIn wsL_law wsX5_doubles := goodIn_r _ [477, 19, 298, 291, 319, 320, 2, 321, 420, 421, 422, 18, 423, 424, 396, 397, 398, 54, 299, 300, 301, 302, 292, 15, 288, 216, 217, 218, 14, 219, 156, 157, 158, 159, 46, 37, 220, 221, 222, 223, 40, 42, 224, 225, 226, 227, 43, 34, 35, 36, 44, 228, 168, 169, 170, 171, 132, 133, 134, 135, 229, 230, 231, 232, 233, 234, 235, 45, 236, 656, 657, 658, 659, 660, 698, 699, 700, 701, 702, 703, 704, 687, 688, 689, 690, 691, 692, 693, 694, 695, 696, 697] (by decide +kernel) (by decide +kernel)
set_option maxRecDepth 20000 in
theorem gL_law_X5_doubles : GoodIn wsL_law (wsV RL 84 RX5 yX5_doubles wsX5_doubles) := goodIn_app (goodIn_of _ (by decide +kernel)) ggL_law_X5_doubles
set_option maxRecDepth 20000 in
theorem ggL_law_X6_doubles : GoodIn wsL_law wsX6_doubles := goodIn_r _ [481, 109, 283, 88, 331, 332, 5, 333, 334, 186, 187, 188, 311, 312, 313, 314, 89, 98, 85, 243, 244, 245, 246, 247, 248, 97, 180, 197, 198, 199, 200, 100, 99, 181, 81, 82, 84, 83, 661, 662, 663, 664, 665, 666, 667, 668, 669, 670, 671, 672, 673, 674, 675, 676, 677, 678, 679, 680, 681, 682, 683, 684, 685, 686] (by decide +kernel) (by decide +kernel)
set_option maxRecDepth 20000 in
theorem gL_law_X6_doubles : GoodIn wsL_law (wsV RL 88 RX6 yX6_doubles wsX6_doubles) := goodIn_app (goodIn_of _ (by decide +kernel)) ggL_law_X6_doubles
set_option maxRecDepth 20000 in
theorem ggL_law_X5_onPath : GoodIn wsL_law wsX5_onPath := goodIn_r _ [485, 372, 373, 374, 389, 486, 319, 320, 2, 321, 118, 119, 120, 375, 376, 377, 378, 10, 11, 379, 380, 381, 382, 445, 446, 447, 448, 19, 298, 288, 291, 15, 449, 420, 421, 422, 18, 423, 424, 396, 397, 398, 54, 216, 217, 218, 14, 219, 156, 157, 158, 159, 46, 37, 220, 221, 222, 223, 40, 42, 224, 225, 226, 227, 43, 34, 35, 36, 44, 228, 168, 169, 170, 171, 132, 133, 134, 135, 229, 230, 231, 232, 233, 234, 235, 45, 236, 299, 300, 301, 302, 292, 383, 384, 385, 386, 23, 387, 388, 390, 289, 290, 391, 392, 393, 394, 395, 344, 345, 346, 22, 347, 66, 62, 63, 348, 349, 350, 351, 65, 64, 399, 400, 401, 402, 53, 56, 487, 488, 489, 715, 716, 717, 718, 656, 657, 658, 659, 660, 698, 699, 700, 701, 702, 703, 704, 687, 688, 689, 690, 691, 692, 693, 694, 695, 696, 697, 705, 706, 707, 708, 709] (by decide +kernel) (by decide +kernel)
set_option maxRecDepth 20000 in
theorem gL_law_X5_onPath : GoodIn wsL_law (wsV RL 89 RX5 yX5_onPath wsX5_onPath) := goodIn_app (goodIn_of _ (by decide +kernel)) ggL_law_X5_onPath
set_option maxRecDepth 20000 in
theorem ggL_law_X6_onPath : GoodIn wsL_law wsX6_onPath := goodIn_r _ [493, 109, 180, 411, 331, 332, 5, 333, 334, 186, 187, 188, 454, 455, 456, 457, 283, 88, 85, 98, 311, 312, 313, 314, 89, 243, 244, 245, 246, 247, 248, 97, 197, 198, 199, 200, 100, 99, 181, 81, 82, 84, 83, 407, 408, 409, 410, 86, 87, 90, 360, 361, 362, 363, 94, 93, 364, 365, 366, 367, 330, 91, 92, 661, 662, 663, 664, 665, 666, 667, 668, 669, 670, 671, 672, 673, 674, 675, 676, 677, 678, 679, 680, 681, 682, 683, 684, 685, 686] (by decide +kernel) (by decide +kernel)
set_option maxRecDepth 20000 in
theorem gL_law_X6_onPath : GoodIn wsL_law (wsV RL 92 RX6 yX6_onPath wsX6_onPath) := goodIn_app (goodIn_of _ (by decide +kernel)) ggL_law_X6_onPath
set_option maxRecDepth 20000 in
theorem ggL_law_X5_issue : GoodIn wsL_law wsX5_issue := goodIn_r _ [497, 27, 114, 115, 116, 2, 117, 28, 498, 499, 500, 26, 501, 75, 74, 72, 73, 502, 503, 504, 505, 71, 506, 169, 170, 171, 507, 508, 134, 509, 510, 511, 512, 513, 514, 515, 33, 516, 258, 259, 260, 517, 656, 657, 658, 659, 660, 710, 711, 712, 713, 714] (by decide +kernel) (by decide +kernel)
set_option maxRecDepth 20000 in
theorem gL_law_X5_issue : GoodIn wsL_law (wsV RL 93 RX5 yX5_issue wsX5_issue) := goodIn_app (goodIn_of _ (by decide +kernel)) ggL_law_X5_issue
set_option maxRecDepth 20000 in
theorem ggL_law_X6_issue : GoodIn wsL_law wsX6_issue := goodIn_r _ [521, 109, 522, 523, 95, 96, 182, 183, 184, 5, 185, 80, 186, 187, 188, 661, 662, 663, 664, 665, 666, 667, 668, 669, 670, 671, 672, 673, 674, 675, 676, 677, 678, 679, 680, 681, 682, 683, 684, 685, 686] (by decide +kernel) (by decide +kernel)
set_option maxRecDepth 20000 in
theorem gL_law_X6_issue : GoodIn wsL_law (wsV RL 96 RX6 yX6_issue wsX6_issue) := goodIn_app (goodIn_of _ (by decide +kernel)) ggL_law_X6_issue
set_option maxRecDepth 20000 in
theorem ggL_law_X5_move : GoodIn wsL_law wsX5_move := goodIn_r _ [527, 27, 114, 115, 116, 2, 117, 28, 528, 529, 530, 26, 531, 75, 532, 533, 534, 535, 74, 73, 536, 537, 538, 539, 540, 258, 259, 260, 71, 541, 542, 543, 544, 545, 546, 547, 548, 549, 550, 551, 72, 552, 553, 554, 555, 556, 557, 558, 559, 560, 561, 562, 563, 502, 503, 504, 505, 506, 169, 170, 171, 507, 508, 134, 509, 510, 511, 512, 513, 514, 515, 33, 516, 517, 564, 565, 566, 567, 656, 657, 658, 659, 660, 710, 711, 712, 713, 714] (by decide +kernel) (by decide +kernel)
set_option maxRecDepth 20000 in
theorem gL_law_X5_move : GoodIn wsL_law (wsV RL 97 RX5 yX5_move wsX5_move) := goodIn_app (goodIn_of _ (by decide +kernel)) ggL_law_X5_move
set_option maxRecDepth 20000 in
theorem ggL_law_X6_move : GoodIn wsL_law wsX6_move := goodIn_r _ [571, 109, 95, 182, 183, 184, 5, 185, 80, 186, 187, 188, 572, 573, 574, 575, 523, 576, 577, 578, 579, 96, 661, 662, 663, 664, 665, 666, 667, 668, 669, 670, 671, 672, 673, 674, 675, 676, 677, 678, 679, 680, 681, 682, 683, 684, 685, 686] (by decide +kernel) (by decide +kernel)
set_option maxRecDepth 20000 in
theorem gL_law_X6_move : GoodIn wsL_law (wsV RL 100 RX6 yX6_move wsX6_move) := goodIn_app (goodIn_of _ (by decide +kernel)) ggL_law_X6_move
set_option maxRecDepth 20000 in
theorem ggL_law_X5_use : GoodIn wsL_law wsX5_use := goodIn_r _ [583, 27, 19, 288, 289, 293, 294, 295, 296, 2, 297, 298, 528, 529, 530, 26, 531, 75, 532, 533, 534, 535, 74, 73, 536, 537, 538, 539, 540, 258, 259, 260, 71, 541, 542, 543, 544, 545, 546, 547, 548, 549, 550, 551, 72, 399, 400, 401, 18, 402, 53, 56, 552, 553, 554, 555, 556, 557, 558, 559, 560, 561, 562, 563, 502, 503, 504, 505, 506, 169, 170, 171, 507, 508, 134, 509, 510, 511, 512, 513, 514, 515, 33, 516, 517, 564, 565, 566, 567, 656, 657, 658, 659, 660, 698, 699, 700, 701, 702, 703, 704, 710, 711, 712, 713, 714] (by decide +kernel) (by decide +kernel)
set_option maxRecDepth 20000 in
theorem gL_law_X5_use : GoodIn wsL_law (wsV RL 101 RX5 yX5_use wsX5_use) := goodIn_app (goodIn_of _ (by decide +kernel)) ggL_law_X5_use
set_option maxRecDepth 20000 in
theorem ggL_law_X6_use : GoodIn wsL_law wsX6_use := goodIn_r _ [587, 109, 86, 95, 85, 90, 87, 96, 307, 308, 309, 5, 310, 283, 186, 187, 188, 572, 573, 574, 575, 523, 576, 577, 578, 579, 661, 662, 663, 664, 665, 666, 667, 668, 669, 670, 671, 672, 673, 674, 675, 676, 677, 678, 679, 680, 681, 682, 683, 684, 685, 686] (by decide +kernel) (by decide +kernel)
set_option maxRecDepth 20000 in
theorem gL_law_X6_use : GoodIn wsL_law (wsV RL 104 RX6 yX6_use wsX6_use) := goodIn_app (goodIn_of _ (by decide +kernel)) ggL_law_X6_use
set_option maxRecDepth 20000 in
theorem ggL_law_X5_owner : GoodIn wsL_law wsX5_owner := goodIn_r _ [591, 27, 592, 528, 529, 530, 26, 531, 75, 593, 561, 562, 563, 74, 71, 656, 657, 658, 659, 660, 710, 711, 712, 713, 714] (by decide +kernel) (by decide +kernel)
set_option maxRecDepth 20000 in
theorem gL_law_X5_owner : GoodIn wsL_law (wsV RL 105 RX5 yX5_owner wsX5_owner) := goodIn_app (goodIn_of _ (by decide +kernel)) ggL_law_X5_owner
set_option maxRecDepth 20000 in
theorem ggL_law_X6_owner : GoodIn wsL_law wsX6_owner := goodIn_r _ [597, 109, 523, 95, 186, 187, 5, 188, 661, 662, 663, 664, 665, 666, 667, 668, 669, 670, 671, 672, 673, 674, 675, 676, 677, 678, 679, 680, 681, 682, 683, 684, 685, 686] (by decide +kernel) (by decide +kernel)
set_option maxRecDepth 20000 in
theorem gL_law_X6_owner : GoodIn wsL_law (wsV RL 108 RX6 yX6_owner wsX6_owner) := goodIn_app (goodIn_of _ (by decide +kernel)) ggL_law_X6_owner
set_option maxRecDepth 20000 in
theorem ggL_law_X5_usedFor : GoodIn wsL_law wsX5_usedFor := goodIn_r _ [601, 27, 602, 528, 529, 530, 26, 531, 75, 593, 561, 562, 563, 74, 71, 656, 657, 658, 659, 660, 710, 711, 712, 713, 714] (by decide +kernel) (by decide +kernel)
set_option maxRecDepth 20000 in
theorem gL_law_X5_usedFor : GoodIn wsL_law (wsV RL 109 RX5 yX5_usedFor wsX5_usedFor) := goodIn_app (goodIn_of _ (by decide +kernel)) ggL_law_X5_usedFor
set_option maxRecDepth 20000 in
theorem ggL_law_X6_usedFor : GoodIn wsL_law wsX6_usedFor := goodIn_r _ [606, 109, 523, 96, 186, 187, 5, 188, 661, 662, 663, 664, 665, 666, 667, 668, 669, 670, 671, 672, 673, 674, 675, 676, 677, 678, 679, 680, 681, 682, 683, 684, 685, 686] (by decide +kernel) (by decide +kernel)
set_option maxRecDepth 20000 in
theorem gL_law_X6_usedFor : GoodIn wsL_law (wsV RL 112 RX6 yX6_usedFor wsX6_usedFor) := goodIn_app (goodIn_of _ (by decide +kernel)) ggL_law_X6_usedFor
set_option maxRecDepth 20000 in
theorem ggL_law_X5_free : GoodIn wsL_law wsX5_free := goodIn_r _ [610, 27, 114, 115, 116, 2, 117, 28, 611, 612, 613, 26, 614, 74, 72, 73, 615, 616, 617, 618, 71, 544, 545, 546, 547, 75, 656, 657, 658, 659, 660, 710, 711, 712, 713, 714] (by decide +kernel) (by decide +kernel)
set_option maxRecDepth 20000 in
theorem gL_law_X5_free : GoodIn wsL_law (wsV RL 113 RX5 yX5_free wsX5_free) := goodIn_app (goodIn_of _ (by decide +kernel)) ggL_law_X5_free
set_option maxRecDepth 20000 in
theorem ggL_law_X6_free : GoodIn wsL_law wsX6_free := goodIn_r _ [622, 109, 523, 95, 96, 182, 183, 184, 5, 185, 80, 186, 187, 188, 661, 662, 663, 664, 665, 666, 667, 668, 669, 670, 671, 672, 673, 674, 675, 676, 677, 678, 679, 680, 681, 682, 683, 684, 685, 686] (by decide +kernel) (by decide +kernel)
set_option maxRecDepth 20000 in
theorem gL_law_X6_free : GoodIn wsL_law (wsV RL 116 RX6 yX6_free wsX6_free) := goodIn_app (goodIn_of _ (by decide +kernel)) ggL_law_X6_free
set_option maxRecDepth 20000 in
theorem ggL_law_X5_runs : GoodIn wsL_law wsX5_runs := goodIn_r _ [626, 27, 627, 656, 657, 658, 659, 660, 710, 711, 712, 713, 714] (by decide +kernel) (by decide +kernel)
set_option maxRecDepth 20000 in
theorem gL_law_X5_runs : GoodIn wsL_law (wsV RL 117 RX5 yX5_runs wsX5_runs) := goodIn_app (goodIn_of _ (by decide +kernel)) ggL_law_X5_runs
set_option maxRecDepth 20000 in
theorem ggL_law_X6_runs : GoodIn wsL_law wsX6_runs := goodIn_r _ [631, 109, 523, 632, 633, 634, 5, 635, 95, 96, 661, 662, 663, 664, 665, 666, 667, 668, 669, 670, 671, 672, 673, 674, 675, 676, 677, 678, 679, 680, 681, 682, 683, 684, 685, 686] (by decide +kernel) (by decide +kernel)
set_option maxRecDepth 20000 in
theorem gL_law_X6_runs : GoodIn wsL_law (wsV RL 120 RX6 yX6_runs wsX6_runs) := goodIn_app (goodIn_of _ (by decide +kernel)) ggL_law_X6_runs
set_option maxRecDepth 20000 in
theorem ggL_law_X5_run : GoodIn wsL_law wsX5_run := goodIn_r _ [639, 27, 627, 640, 592, 602, 641, 616, 617, 26, 618, 71, 544, 545, 546, 547, 74, 75, 656, 657, 658, 659, 660, 710, 711, 712, 713, 714] (by decide +kernel) (by decide +kernel)
set_option maxRecDepth 20000 in
theorem gL_law_X5_run : GoodIn wsL_law (wsV RL 121 RX5 yX5_run wsX5_run) := goodIn_app (goodIn_of _ (by decide +kernel)) ggL_law_X5_run
set_option maxRecDepth 20000 in
theorem ggL_law_X6_run : GoodIn wsL_law wsX6_run := goodIn_r _ [645, 109, 523, 95, 96, 632, 633, 634, 5, 635, 661, 662, 663, 664, 665, 666, 667, 668, 669, 670, 671, 672, 673, 674, 675, 676, 677, 678, 679, 680, 681, 682, 683, 684, 685, 686] (by decide +kernel) (by decide +kernel)
set_option maxRecDepth 20000 in
theorem gL_law_X6_run : GoodIn wsL_law (wsV RL 124 RX6 yX6_run wsX6_run) := goodIn_app (goodIn_of _ (by decide +kernel)) ggL_law_X6_run
set_option maxRecDepth 20000 in
theorem ggL_law_X5_count : GoodIn wsL_law wsX5_count := goodIn_r _ [649, 28, 19, 298, 23, 343, 27, 650, 15, 651, 656, 657, 658, 659, 660, 698, 699, 700, 701, 702, 703, 704, 705, 706, 707, 708, 709, 710, 711, 712, 713, 714, 687, 688, 689, 690, 691, 692, 693, 694, 695, 696, 697] (by decide +kernel) (by decide +kernel)
set_option maxRecDepth 20000 in
theorem gL_law_X5_count : GoodIn wsL_law (wsV RL 125 RX5 yX5_count wsX5_count) := goodIn_app (goodIn_of _ (by decide +kernel)) ggL_law_X5_count
set_option maxRecDepth 20000 in
theorem ggL_law_X6_count : GoodIn wsL_law wsX6_count := goodIn_r _ [655, 109, 80, 283, 330, 523, 181, 661, 662, 663, 664, 665, 666, 667, 668, 669, 670, 671, 672, 673, 674, 675, 676, 677, 678, 679, 680, 681, 682, 683, 684, 685, 686] (by decide +kernel) (by decide +kernel)
set_option maxRecDepth 20000 in
theorem gL_law_X6_count : GoodIn wsL_law (wsV RL 128 RX6 yX6_count wsX6_count) := goodIn_app (goodIn_of _ (by decide +kernel)) ggL_law_X6_count
theorem dL_law_0 : decode cL_law 0 = .ok (.new 7, 3) := by decide +kernel
theorem dL_law_3 : decode cL_law 3 = .ok (.dup, 1) := by decide +kernel
theorem dL_law_4 : decode cL_law 4 = .ok (.invokespecial 9, 3) := by decide +kernel
theorem dL_law_7 : decode cL_law 7 = .ok (.astore_n 1, 1) := by decide +kernel
theorem dL_law_8 : decode cL_law 8 = .ok (.new 10, 3) := by decide +kernel
theorem dL_law_11 : decode cL_law 11 = .ok (.dup, 1) := by decide +kernel
theorem dL_law_12 : decode cL_law 12 = .ok (.invokespecial 12, 3) := by decide +kernel
theorem dL_law_15 : decode cL_law 15 = .ok (.astore_n 2, 1) := by decide +kernel
theorem dL_law_16 : decode cL_law 16 = .ok (.iconst 0, 1) := by decide +kernel
theorem dL_law_17 : decode cL_law 17 = .ok (.istore_n 3, 1) := by decide +kernel
theorem dL_law_18 : decode cL_law 18 = .ok (.iload_n 3, 1) := by decide +kernel
theorem dL_law_19 : decode cL_law 19 = .ok (.aload_n 0, 1) := by decide +kernel
theorem dL_law_20 : decode cL_law 20 = .ok (.arraylength, 1) := by decide +kernel
theorem dL_law_21 : decode cL_law 21 = .ok (.bipush 7, 2) := by decide +kernel
theorem dL_law_23 : decode cL_law 23 = .ok (.isub, 1) := by decide +kernel
theorem dL_law_24 : decode cL_law 24 = .ok (.if_icmp .gt 1414, 3) := by decide +kernel
theorem dL_law_27 : decode cL_law 27 = .ok (.aload_n 0, 1) := by decide +kernel
theorem dL_law_28 : decode cL_law 28 = .ok (.iload_n 3, 1) := by decide +kernel
theorem dL_law_29 : decode cL_law 29 = .ok (.iaload, 1) := by decide +kernel
theorem dL_law_30 : decode cL_law 30 = .ok (.bipush 31, 2) := by decide +kernel
theorem dL_law_32 : decode cL_law 32 = .ok (.iand, 1) := by decide +kernel
theorem dL_law_33 : decode cL_law 33 = .ok (.tableswitch 1399 0 25 #[119, 132, 185, 228, 262, 306, 369, 402, 455, 524, 610, 653, 706, 818, 942, 1066, 1089, 1142, 1175, 1218, 1261, 1284, 1307, 1330, 1343, 1376], 119) := by decide +kernel
theorem dL_law_152 : decode cL_law 152 = .ok (.aload_n 1, 1) := by decide +kernel
theorem dL_law_153 : decode cL_law 153 = .ok (.invokevirtual 13, 3) := by decide +kernel
theorem dL_law_156 : decode cL_law 156 = .ok (.aload_n 2, 1) := by decide +kernel
theorem dL_law_157 : decode cL_law 157 = .ok (.invokevirtual 17, 3) := by decide +kernel
theorem dL_law_160 : decode cL_law 160 = .ok (.if_icmp .eq 1272, 3) := by decide +kernel
theorem dL_law_163 : decode cL_law 163 = .ok (.iconst 0, 1) := by decide +kernel
theorem dL_law_164 : decode cL_law 164 = .ok (.ireturn, 1) := by decide +kernel
theorem dL_law_165 : decode cL_law 165 = .ok (.aload_n 1, 1) := by decide +kernel
theorem dL_law_166 : decode cL_law 166 = .ok (.aload_n 0, 1) := by decide +kernel
theorem dL_law_167 : decode cL_law 167 = .ok (.iload_n 3, 1) := by decide +kernel
theorem dL_law_168 : decode cL_law 168 = .ok (.iconst 1, 1) := by decide +kernel
theorem dL_law_169 : decode cL_law 169 = .ok (.iadd, 1) := by decide +kernel
theorem dL_law_170 : decode cL_law 170 = .ok (.iaload, 1) := by decide +kernel
theorem dL_law_171 : decode cL_law 171 = .ok (.aload_n 0, 1) := by decide +kernel
theorem dL_law_172 : decode cL_law 172 = .ok (.iload_n 3, 1) := by decide +kernel
theorem dL_law_173 : decode cL_law 173 = .ok (.iconst 2, 1) := by decide +kernel
theorem dL_law_174 : decode cL_law 174 = .ok (.iadd, 1) := by decide +kernel
theorem dL_law_175 : decode cL_law 175 = .ok (.iaload, 1) := by decide +kernel
theorem dL_law_176 : decode cL_law 176 = .ok (.aload_n 0, 1) := by decide +kernel
theorem dL_law_177 : decode cL_law 177 = .ok (.iload_n 3, 1) := by decide +kernel
theorem dL_law_178 : decode cL_law 178 = .ok (.iconst 3, 1) := by decide +kernel
theorem dL_law_179 : decode cL_law 179 = .ok (.iadd, 1) := by decide +kernel
theorem dL_law_180 : decode cL_law 180 = .ok (.iaload, 1) := by decide +kernel
theorem dL_law_181 : decode cL_law 181 = .ok (.aload_n 0, 1) := by decide +kernel
theorem dL_law_182 : decode cL_law 182 = .ok (.iload_n 3, 1) := by decide +kernel
theorem dL_law_183 : decode cL_law 183 = .ok (.iconst 4, 1) := by decide +kernel
theorem dL_law_184 : decode cL_law 184 = .ok (.iadd, 1) := by decide +kernel
theorem dL_law_185 : decode cL_law 185 = .ok (.iaload, 1) := by decide +kernel
theorem dL_law_186 : decode cL_law 186 = .ok (.invokevirtual 18, 3) := by decide +kernel
theorem dL_law_189 : decode cL_law 189 = .ok (.aload_n 2, 1) := by decide +kernel
theorem dL_law_190 : decode cL_law 190 = .ok (.aload_n 0, 1) := by decide +kernel
theorem dL_law_191 : decode cL_law 191 = .ok (.iload_n 3, 1) := by decide +kernel
theorem dL_law_192 : decode cL_law 192 = .ok (.iconst 1, 1) := by decide +kernel
theorem dL_law_193 : decode cL_law 193 = .ok (.iadd, 1) := by decide +kernel
theorem dL_law_194 : decode cL_law 194 = .ok (.iaload, 1) := by decide +kernel
theorem dL_law_195 : decode cL_law 195 = .ok (.aload_n 0, 1) := by decide +kernel
theorem dL_law_196 : decode cL_law 196 = .ok (.iload_n 3, 1) := by decide +kernel
theorem dL_law_197 : decode cL_law 197 = .ok (.iconst 2, 1) := by decide +kernel
theorem dL_law_198 : decode cL_law 198 = .ok (.iadd, 1) := by decide +kernel
theorem dL_law_199 : decode cL_law 199 = .ok (.iaload, 1) := by decide +kernel
theorem dL_law_200 : decode cL_law 200 = .ok (.aload_n 0, 1) := by decide +kernel
theorem dL_law_201 : decode cL_law 201 = .ok (.iload_n 3, 1) := by decide +kernel
theorem dL_law_202 : decode cL_law 202 = .ok (.iconst 3, 1) := by decide +kernel
theorem dL_law_203 : decode cL_law 203 = .ok (.iadd, 1) := by decide +kernel
theorem dL_law_204 : decode cL_law 204 = .ok (.iaload, 1) := by decide +kernel
theorem dL_law_205 : decode cL_law 205 = .ok (.aload_n 0, 1) := by decide +kernel
theorem dL_law_206 : decode cL_law 206 = .ok (.iload_n 3, 1) := by decide +kernel
theorem dL_law_207 : decode cL_law 207 = .ok (.iconst 4, 1) := by decide +kernel
theorem dL_law_208 : decode cL_law 208 = .ok (.iadd, 1) := by decide +kernel
theorem dL_law_209 : decode cL_law 209 = .ok (.iaload, 1) := by decide +kernel
theorem dL_law_210 : decode cL_law 210 = .ok (.invokevirtual 22, 3) := by decide +kernel
theorem dL_law_213 : decode cL_law 213 = .ok (.if_icmp .eq 1219, 3) := by decide +kernel
theorem dL_law_216 : decode cL_law 216 = .ok (.iconst 0, 1) := by decide +kernel
theorem dL_law_217 : decode cL_law 217 = .ok (.ireturn, 1) := by decide +kernel
theorem dL_law_218 : decode cL_law 218 = .ok (.aload_n 1, 1) := by decide +kernel
theorem dL_law_219 : decode cL_law 219 = .ok (.aload_n 0, 1) := by decide +kernel
theorem dL_law_220 : decode cL_law 220 = .ok (.iload_n 3, 1) := by decide +kernel
theorem dL_law_221 : decode cL_law 221 = .ok (.iconst 1, 1) := by decide +kernel
theorem dL_law_222 : decode cL_law 222 = .ok (.iadd, 1) := by decide +kernel
theorem dL_law_223 : decode cL_law 223 = .ok (.iaload, 1) := by decide +kernel
theorem dL_law_224 : decode cL_law 224 = .ok (.aload_n 0, 1) := by decide +kernel
theorem dL_law_225 : decode cL_law 225 = .ok (.iload_n 3, 1) := by decide +kernel
theorem dL_law_226 : decode cL_law 226 = .ok (.iconst 2, 1) := by decide +kernel
theorem dL_law_227 : decode cL_law 227 = .ok (.iadd, 1) := by decide +kernel
theorem dL_law_228 : decode cL_law 228 = .ok (.iaload, 1) := by decide +kernel
theorem dL_law_229 : decode cL_law 229 = .ok (.aload_n 0, 1) := by decide +kernel
theorem dL_law_230 : decode cL_law 230 = .ok (.iload_n 3, 1) := by decide +kernel
theorem dL_law_231 : decode cL_law 231 = .ok (.iconst 3, 1) := by decide +kernel
theorem dL_law_232 : decode cL_law 232 = .ok (.iadd, 1) := by decide +kernel
theorem dL_law_233 : decode cL_law 233 = .ok (.iaload, 1) := by decide +kernel
theorem dL_law_234 : decode cL_law 234 = .ok (.invokevirtual 23, 3) := by decide +kernel
theorem dL_law_237 : decode cL_law 237 = .ok (.aload_n 2, 1) := by decide +kernel
theorem dL_law_238 : decode cL_law 238 = .ok (.aload_n 0, 1) := by decide +kernel
theorem dL_law_239 : decode cL_law 239 = .ok (.iload_n 3, 1) := by decide +kernel
theorem dL_law_240 : decode cL_law 240 = .ok (.iconst 1, 1) := by decide +kernel
theorem dL_law_241 : decode cL_law 241 = .ok (.iadd, 1) := by decide +kernel
theorem dL_law_242 : decode cL_law 242 = .ok (.iaload, 1) := by decide +kernel
theorem dL_law_243 : decode cL_law 243 = .ok (.aload_n 0, 1) := by decide +kernel
theorem dL_law_244 : decode cL_law 244 = .ok (.iload_n 3, 1) := by decide +kernel
theorem dL_law_245 : decode cL_law 245 = .ok (.iconst 2, 1) := by decide +kernel
theorem dL_law_246 : decode cL_law 246 = .ok (.iadd, 1) := by decide +kernel
theorem dL_law_247 : decode cL_law 247 = .ok (.iaload, 1) := by decide +kernel
theorem dL_law_248 : decode cL_law 248 = .ok (.aload_n 0, 1) := by decide +kernel
theorem dL_law_249 : decode cL_law 249 = .ok (.iload_n 3, 1) := by decide +kernel
theorem dL_law_250 : decode cL_law 250 = .ok (.iconst 3, 1) := by decide +kernel
theorem dL_law_251 : decode cL_law 251 = .ok (.iadd, 1) := by decide +kernel
theorem dL_law_252 : decode cL_law 252 = .ok (.iaload, 1) := by decide +kernel
theorem dL_law_253 : decode cL_law 253 = .ok (.invokevirtual 27, 3) := by decide +kernel
theorem dL_law_256 : decode cL_law 256 = .ok (.if_icmp .eq 1176, 3) := by decide +kernel
theorem dL_law_259 : decode cL_law 259 = .ok (.iconst 0, 1) := by decide +kernel
theorem dL_law_260 : decode cL_law 260 = .ok (.ireturn, 1) := by decide +kernel
theorem dL_law_261 : decode cL_law 261 = .ok (.aload_n 1, 1) := by decide +kernel
theorem dL_law_262 : decode cL_law 262 = .ok (.aload_n 0, 1) := by decide +kernel
theorem dL_law_263 : decode cL_law 263 = .ok (.iload_n 3, 1) := by decide +kernel
theorem dL_law_264 : decode cL_law 264 = .ok (.iconst 1, 1) := by decide +kernel
theorem dL_law_265 : decode cL_law 265 = .ok (.iadd, 1) := by decide +kernel
theorem dL_law_266 : decode cL_law 266 = .ok (.iaload, 1) := by decide +kernel
theorem dL_law_267 : decode cL_law 267 = .ok (.aload_n 0, 1) := by decide +kernel
theorem dL_law_268 : decode cL_law 268 = .ok (.iload_n 3, 1) := by decide +kernel
theorem dL_law_269 : decode cL_law 269 = .ok (.iconst 2, 1) := by decide +kernel
theorem dL_law_270 : decode cL_law 270 = .ok (.iadd, 1) := by decide +kernel
theorem dL_law_271 : decode cL_law 271 = .ok (.iaload, 1) := by decide +kernel
theorem dL_law_272 : decode cL_law 272 = .ok (.invokevirtual 28, 3) := by decide +kernel
theorem dL_law_275 : decode cL_law 275 = .ok (.aload_n 2, 1) := by decide +kernel
theorem dL_law_276 : decode cL_law 276 = .ok (.aload_n 0, 1) := by decide +kernel
theorem dL_law_277 : decode cL_law 277 = .ok (.iload_n 3, 1) := by decide +kernel
theorem dL_law_278 : decode cL_law 278 = .ok (.iconst 1, 1) := by decide +kernel
theorem dL_law_279 : decode cL_law 279 = .ok (.iadd, 1) := by decide +kernel
theorem dL_law_280 : decode cL_law 280 = .ok (.iaload, 1) := by decide +kernel
theorem dL_law_281 : decode cL_law 281 = .ok (.aload_n 0, 1) := by decide +kernel
theorem dL_law_282 : decode cL_law 282 = .ok (.iload_n 3, 1) := by decide +kernel
theorem dL_law_283 : decode cL_law 283 = .ok (.iconst 2, 1) := by decide +kernel
theorem dL_law_284 : decode cL_law 284 = .ok (.iadd, 1) := by decide +kernel
theorem dL_law_285 : decode cL_law 285 = .ok (.iaload, 1) := by decide +kernel
theorem dL_law_286 : decode cL_law 286 = .ok (.invokevirtual 32, 3) := by decide +kernel
theorem dL_law_289 : decode cL_law 289 = .ok (.lcmp, 1) := by decide +kernel
theorem dL_law_290 : decode cL_law 290 = .ok (.ifCond .eq 1142, 3) := by decide +kernel
theorem dL_law_293 : decode cL_law 293 = .ok (.iconst 0, 1) := by decide +kernel
theorem dL_law_294 : decode cL_law 294 = .ok (.ireturn, 1) := by decide +kernel
theorem dL_law_295 : decode cL_law 295 = .ok (.aload_n 1, 1) := by decide +kernel
theorem dL_law_296 : decode cL_law 296 = .ok (.aload_n 0, 1) := by decide +kernel
theorem dL_law_297 : decode cL_law 297 = .ok (.iload_n 3, 1) := by decide +kernel
theorem dL_law_298 : decode cL_law 298 = .ok (.iconst 1, 1) := by decide +kernel
theorem dL_law_299 : decode cL_law 299 = .ok (.iadd, 1) := by decide +kernel
theorem dL_law_300 : decode cL_law 300 = .ok (.iaload, 1) := by decide +kernel
theorem dL_law_301 : decode cL_law 301 = .ok (.aload_n 0, 1) := by decide +kernel
theorem dL_law_302 : decode cL_law 302 = .ok (.iload_n 3, 1) := by decide +kernel
theorem dL_law_303 : decode cL_law 303 = .ok (.iconst 2, 1) := by decide +kernel
theorem dL_law_304 : decode cL_law 304 = .ok (.iadd, 1) := by decide +kernel
theorem dL_law_305 : decode cL_law 305 = .ok (.iaload, 1) := by decide +kernel
theorem dL_law_306 : decode cL_law 306 = .ok (.aload_n 0, 1) := by decide +kernel
theorem dL_law_307 : decode cL_law 307 = .ok (.iload_n 3, 1) := by decide +kernel
theorem dL_law_308 : decode cL_law 308 = .ok (.iconst 3, 1) := by decide +kernel
theorem dL_law_309 : decode cL_law 309 = .ok (.iadd, 1) := by decide +kernel
theorem dL_law_310 : decode cL_law 310 = .ok (.iaload, 1) := by decide +kernel
theorem dL_law_311 : decode cL_law 311 = .ok (.invokevirtual 33, 3) := by decide +kernel
theorem dL_law_314 : decode cL_law 314 = .ok (.aload_n 2, 1) := by decide +kernel
theorem dL_law_315 : decode cL_law 315 = .ok (.aload_n 0, 1) := by decide +kernel
theorem dL_law_316 : decode cL_law 316 = .ok (.iload_n 3, 1) := by decide +kernel
theorem dL_law_317 : decode cL_law 317 = .ok (.iconst 1, 1) := by decide +kernel
theorem dL_law_318 : decode cL_law 318 = .ok (.iadd, 1) := by decide +kernel
theorem dL_law_319 : decode cL_law 319 = .ok (.iaload, 1) := by decide +kernel
theorem dL_law_320 : decode cL_law 320 = .ok (.aload_n 0, 1) := by decide +kernel
theorem dL_law_321 : decode cL_law 321 = .ok (.iload_n 3, 1) := by decide +kernel
theorem dL_law_322 : decode cL_law 322 = .ok (.iconst 2, 1) := by decide +kernel
theorem dL_law_323 : decode cL_law 323 = .ok (.iadd, 1) := by decide +kernel
theorem dL_law_324 : decode cL_law 324 = .ok (.iaload, 1) := by decide +kernel
theorem dL_law_325 : decode cL_law 325 = .ok (.aload_n 0, 1) := by decide +kernel
theorem dL_law_326 : decode cL_law 326 = .ok (.iload_n 3, 1) := by decide +kernel
theorem dL_law_327 : decode cL_law 327 = .ok (.iconst 3, 1) := by decide +kernel
theorem dL_law_328 : decode cL_law 328 = .ok (.iadd, 1) := by decide +kernel
theorem dL_law_329 : decode cL_law 329 = .ok (.iaload, 1) := by decide +kernel
theorem dL_law_330 : decode cL_law 330 = .ok (.invokevirtual 37, 3) := by decide +kernel
theorem dL_law_333 : decode cL_law 333 = .ok (.lcmp, 1) := by decide +kernel
theorem dL_law_334 : decode cL_law 334 = .ok (.ifCond .eq 1098, 3) := by decide +kernel
theorem dL_law_337 : decode cL_law 337 = .ok (.iconst 0, 1) := by decide +kernel
theorem dL_law_338 : decode cL_law 338 = .ok (.ireturn, 1) := by decide +kernel
theorem dL_law_339 : decode cL_law 339 = .ok (.aload_n 1, 1) := by decide +kernel
theorem dL_law_340 : decode cL_law 340 = .ok (.aload_n 0, 1) := by decide +kernel
theorem dL_law_341 : decode cL_law 341 = .ok (.iload_n 3, 1) := by decide +kernel
theorem dL_law_342 : decode cL_law 342 = .ok (.iconst 1, 1) := by decide +kernel
theorem dL_law_343 : decode cL_law 343 = .ok (.iadd, 1) := by decide +kernel
theorem dL_law_344 : decode cL_law 344 = .ok (.iaload, 1) := by decide +kernel
theorem dL_law_345 : decode cL_law 345 = .ok (.aload_n 0, 1) := by decide +kernel
theorem dL_law_346 : decode cL_law 346 = .ok (.iload_n 3, 1) := by decide +kernel
theorem dL_law_347 : decode cL_law 347 = .ok (.iconst 2, 1) := by decide +kernel
theorem dL_law_348 : decode cL_law 348 = .ok (.iadd, 1) := by decide +kernel
theorem dL_law_349 : decode cL_law 349 = .ok (.iaload, 1) := by decide +kernel
theorem dL_law_350 : decode cL_law 350 = .ok (.aload_n 0, 1) := by decide +kernel
theorem dL_law_351 : decode cL_law 351 = .ok (.iload_n 3, 1) := by decide +kernel
theorem dL_law_352 : decode cL_law 352 = .ok (.iconst 3, 1) := by decide +kernel
theorem dL_law_353 : decode cL_law 353 = .ok (.iadd, 1) := by decide +kernel
theorem dL_law_354 : decode cL_law 354 = .ok (.iaload, 1) := by decide +kernel
theorem dL_law_355 : decode cL_law 355 = .ok (.aload_n 0, 1) := by decide +kernel
theorem dL_law_356 : decode cL_law 356 = .ok (.iload_n 3, 1) := by decide +kernel
theorem dL_law_357 : decode cL_law 357 = .ok (.iconst 4, 1) := by decide +kernel
theorem dL_law_358 : decode cL_law 358 = .ok (.iadd, 1) := by decide +kernel
theorem dL_law_359 : decode cL_law 359 = .ok (.iaload, 1) := by decide +kernel
theorem dL_law_360 : decode cL_law 360 = .ok (.aload_n 0, 1) := by decide +kernel
theorem dL_law_361 : decode cL_law 361 = .ok (.iload_n 3, 1) := by decide +kernel
theorem dL_law_362 : decode cL_law 362 = .ok (.iconst 5, 1) := by decide +kernel
theorem dL_law_363 : decode cL_law 363 = .ok (.iadd, 1) := by decide +kernel
theorem dL_law_364 : decode cL_law 364 = .ok (.iaload, 1) := by decide +kernel
theorem dL_law_365 : decode cL_law 365 = .ok (.invokevirtual 38, 3) := by decide +kernel
theorem dL_law_368 : decode cL_law 368 = .ok (.aload_n 2, 1) := by decide +kernel
theorem dL_law_369 : decode cL_law 369 = .ok (.aload_n 0, 1) := by decide +kernel
theorem dL_law_370 : decode cL_law 370 = .ok (.iload_n 3, 1) := by decide +kernel
theorem dL_law_371 : decode cL_law 371 = .ok (.iconst 1, 1) := by decide +kernel
theorem dL_law_372 : decode cL_law 372 = .ok (.iadd, 1) := by decide +kernel
theorem dL_law_373 : decode cL_law 373 = .ok (.iaload, 1) := by decide +kernel
theorem dL_law_374 : decode cL_law 374 = .ok (.aload_n 0, 1) := by decide +kernel
theorem dL_law_375 : decode cL_law 375 = .ok (.iload_n 3, 1) := by decide +kernel
theorem dL_law_376 : decode cL_law 376 = .ok (.iconst 2, 1) := by decide +kernel
theorem dL_law_377 : decode cL_law 377 = .ok (.iadd, 1) := by decide +kernel
theorem dL_law_378 : decode cL_law 378 = .ok (.iaload, 1) := by decide +kernel
theorem dL_law_379 : decode cL_law 379 = .ok (.aload_n 0, 1) := by decide +kernel
theorem dL_law_380 : decode cL_law 380 = .ok (.iload_n 3, 1) := by decide +kernel
theorem dL_law_381 : decode cL_law 381 = .ok (.iconst 3, 1) := by decide +kernel
theorem dL_law_382 : decode cL_law 382 = .ok (.iadd, 1) := by decide +kernel
theorem dL_law_383 : decode cL_law 383 = .ok (.iaload, 1) := by decide +kernel
theorem dL_law_384 : decode cL_law 384 = .ok (.aload_n 0, 1) := by decide +kernel
theorem dL_law_385 : decode cL_law 385 = .ok (.iload_n 3, 1) := by decide +kernel
theorem dL_law_386 : decode cL_law 386 = .ok (.iconst 4, 1) := by decide +kernel
theorem dL_law_387 : decode cL_law 387 = .ok (.iadd, 1) := by decide +kernel
theorem dL_law_388 : decode cL_law 388 = .ok (.iaload, 1) := by decide +kernel
theorem dL_law_389 : decode cL_law 389 = .ok (.aload_n 0, 1) := by decide +kernel
theorem dL_law_390 : decode cL_law 390 = .ok (.iload_n 3, 1) := by decide +kernel
theorem dL_law_391 : decode cL_law 391 = .ok (.iconst 5, 1) := by decide +kernel
theorem dL_law_392 : decode cL_law 392 = .ok (.iadd, 1) := by decide +kernel
theorem dL_law_393 : decode cL_law 393 = .ok (.iaload, 1) := by decide +kernel
theorem dL_law_394 : decode cL_law 394 = .ok (.invokevirtual 42, 3) := by decide +kernel
theorem dL_law_397 : decode cL_law 397 = .ok (.if_icmp .eq 1035, 3) := by decide +kernel
theorem dL_law_400 : decode cL_law 400 = .ok (.iconst 0, 1) := by decide +kernel
theorem dL_law_401 : decode cL_law 401 = .ok (.ireturn, 1) := by decide +kernel
theorem dL_law_402 : decode cL_law 402 = .ok (.aload_n 1, 1) := by decide +kernel
theorem dL_law_403 : decode cL_law 403 = .ok (.aload_n 0, 1) := by decide +kernel
theorem dL_law_404 : decode cL_law 404 = .ok (.iload_n 3, 1) := by decide +kernel
theorem dL_law_405 : decode cL_law 405 = .ok (.iconst 1, 1) := by decide +kernel
theorem dL_law_406 : decode cL_law 406 = .ok (.iadd, 1) := by decide +kernel
theorem dL_law_407 : decode cL_law 407 = .ok (.iaload, 1) := by decide +kernel
theorem dL_law_408 : decode cL_law 408 = .ok (.aload_n 0, 1) := by decide +kernel
theorem dL_law_409 : decode cL_law 409 = .ok (.iload_n 3, 1) := by decide +kernel
theorem dL_law_410 : decode cL_law 410 = .ok (.iconst 2, 1) := by decide +kernel
theorem dL_law_411 : decode cL_law 411 = .ok (.iadd, 1) := by decide +kernel
theorem dL_law_412 : decode cL_law 412 = .ok (.iaload, 1) := by decide +kernel
theorem dL_law_413 : decode cL_law 413 = .ok (.invokevirtual 43, 3) := by decide +kernel
theorem dL_law_416 : decode cL_law 416 = .ok (.aload_n 2, 1) := by decide +kernel
theorem dL_law_417 : decode cL_law 417 = .ok (.aload_n 0, 1) := by decide +kernel
theorem dL_law_418 : decode cL_law 418 = .ok (.iload_n 3, 1) := by decide +kernel
theorem dL_law_419 : decode cL_law 419 = .ok (.iconst 1, 1) := by decide +kernel
theorem dL_law_420 : decode cL_law 420 = .ok (.iadd, 1) := by decide +kernel
theorem dL_law_421 : decode cL_law 421 = .ok (.iaload, 1) := by decide +kernel
theorem dL_law_422 : decode cL_law 422 = .ok (.aload_n 0, 1) := by decide +kernel
theorem dL_law_423 : decode cL_law 423 = .ok (.iload_n 3, 1) := by decide +kernel
theorem dL_law_424 : decode cL_law 424 = .ok (.iconst 2, 1) := by decide +kernel
theorem dL_law_425 : decode cL_law 425 = .ok (.iadd, 1) := by decide +kernel
theorem dL_law_426 : decode cL_law 426 = .ok (.iaload, 1) := by decide +kernel
theorem dL_law_427 : decode cL_law 427 = .ok (.invokevirtual 47, 3) := by decide +kernel
theorem dL_law_430 : decode cL_law 430 = .ok (.if_icmp .eq 1002, 3) := by decide +kernel
theorem dL_law_433 : decode cL_law 433 = .ok (.iconst 0, 1) := by decide +kernel
theorem dL_law_434 : decode cL_law 434 = .ok (.ireturn, 1) := by decide +kernel
theorem dL_law_435 : decode cL_law 435 = .ok (.aload_n 1, 1) := by decide +kernel
theorem dL_law_436 : decode cL_law 436 = .ok (.aload_n 0, 1) := by decide +kernel
theorem dL_law_437 : decode cL_law 437 = .ok (.iload_n 3, 1) := by decide +kernel
theorem dL_law_438 : decode cL_law 438 = .ok (.iconst 1, 1) := by decide +kernel
theorem dL_law_439 : decode cL_law 439 = .ok (.iadd, 1) := by decide +kernel
theorem dL_law_440 : decode cL_law 440 = .ok (.iaload, 1) := by decide +kernel
theorem dL_law_441 : decode cL_law 441 = .ok (.aload_n 0, 1) := by decide +kernel
theorem dL_law_442 : decode cL_law 442 = .ok (.iload_n 3, 1) := by decide +kernel
theorem dL_law_443 : decode cL_law 443 = .ok (.iconst 2, 1) := by decide +kernel
theorem dL_law_444 : decode cL_law 444 = .ok (.iadd, 1) := by decide +kernel
theorem dL_law_445 : decode cL_law 445 = .ok (.iaload, 1) := by decide +kernel
theorem dL_law_446 : decode cL_law 446 = .ok (.aload_n 0, 1) := by decide +kernel
theorem dL_law_447 : decode cL_law 447 = .ok (.iload_n 3, 1) := by decide +kernel
theorem dL_law_448 : decode cL_law 448 = .ok (.iconst 3, 1) := by decide +kernel
theorem dL_law_449 : decode cL_law 449 = .ok (.iadd, 1) := by decide +kernel
theorem dL_law_450 : decode cL_law 450 = .ok (.iaload, 1) := by decide +kernel
theorem dL_law_451 : decode cL_law 451 = .ok (.aload_n 0, 1) := by decide +kernel
theorem dL_law_452 : decode cL_law 452 = .ok (.iload_n 3, 1) := by decide +kernel
theorem dL_law_453 : decode cL_law 453 = .ok (.iconst 4, 1) := by decide +kernel
theorem dL_law_454 : decode cL_law 454 = .ok (.iadd, 1) := by decide +kernel
theorem dL_law_455 : decode cL_law 455 = .ok (.iaload, 1) := by decide +kernel
theorem dL_law_456 : decode cL_law 456 = .ok (.invokevirtual 48, 3) := by decide +kernel
theorem dL_law_459 : decode cL_law 459 = .ok (.aload_n 2, 1) := by decide +kernel
theorem dL_law_460 : decode cL_law 460 = .ok (.aload_n 0, 1) := by decide +kernel
theorem dL_law_461 : decode cL_law 461 = .ok (.iload_n 3, 1) := by decide +kernel
theorem dL_law_462 : decode cL_law 462 = .ok (.iconst 1, 1) := by decide +kernel
theorem dL_law_463 : decode cL_law 463 = .ok (.iadd, 1) := by decide +kernel
theorem dL_law_464 : decode cL_law 464 = .ok (.iaload, 1) := by decide +kernel
theorem dL_law_465 : decode cL_law 465 = .ok (.aload_n 0, 1) := by decide +kernel
theorem dL_law_466 : decode cL_law 466 = .ok (.iload_n 3, 1) := by decide +kernel
theorem dL_law_467 : decode cL_law 467 = .ok (.iconst 2, 1) := by decide +kernel
theorem dL_law_468 : decode cL_law 468 = .ok (.iadd, 1) := by decide +kernel
theorem dL_law_469 : decode cL_law 469 = .ok (.iaload, 1) := by decide +kernel
theorem dL_law_470 : decode cL_law 470 = .ok (.aload_n 0, 1) := by decide +kernel
theorem dL_law_471 : decode cL_law 471 = .ok (.iload_n 3, 1) := by decide +kernel
theorem dL_law_472 : decode cL_law 472 = .ok (.iconst 3, 1) := by decide +kernel
theorem dL_law_473 : decode cL_law 473 = .ok (.iadd, 1) := by decide +kernel
theorem dL_law_474 : decode cL_law 474 = .ok (.iaload, 1) := by decide +kernel
theorem dL_law_475 : decode cL_law 475 = .ok (.aload_n 0, 1) := by decide +kernel
theorem dL_law_476 : decode cL_law 476 = .ok (.iload_n 3, 1) := by decide +kernel
theorem dL_law_477 : decode cL_law 477 = .ok (.iconst 4, 1) := by decide +kernel
theorem dL_law_478 : decode cL_law 478 = .ok (.iadd, 1) := by decide +kernel
theorem dL_law_479 : decode cL_law 479 = .ok (.iaload, 1) := by decide +kernel
theorem dL_law_480 : decode cL_law 480 = .ok (.invokevirtual 51, 3) := by decide +kernel
theorem dL_law_483 : decode cL_law 483 = .ok (.if_icmp .eq 949, 3) := by decide +kernel
theorem dL_law_486 : decode cL_law 486 = .ok (.iconst 0, 1) := by decide +kernel
theorem dL_law_487 : decode cL_law 487 = .ok (.ireturn, 1) := by decide +kernel
theorem dL_law_488 : decode cL_law 488 = .ok (.aload_n 1, 1) := by decide +kernel
theorem dL_law_489 : decode cL_law 489 = .ok (.aload_n 0, 1) := by decide +kernel
theorem dL_law_490 : decode cL_law 490 = .ok (.iload_n 3, 1) := by decide +kernel
theorem dL_law_491 : decode cL_law 491 = .ok (.iconst 1, 1) := by decide +kernel
theorem dL_law_492 : decode cL_law 492 = .ok (.iadd, 1) := by decide +kernel
theorem dL_law_493 : decode cL_law 493 = .ok (.iaload, 1) := by decide +kernel
theorem dL_law_494 : decode cL_law 494 = .ok (.aload_n 0, 1) := by decide +kernel
theorem dL_law_495 : decode cL_law 495 = .ok (.iload_n 3, 1) := by decide +kernel
theorem dL_law_496 : decode cL_law 496 = .ok (.iconst 2, 1) := by decide +kernel
theorem dL_law_497 : decode cL_law 497 = .ok (.iadd, 1) := by decide +kernel
theorem dL_law_498 : decode cL_law 498 = .ok (.iaload, 1) := by decide +kernel
theorem dL_law_499 : decode cL_law 499 = .ok (.aload_n 0, 1) := by decide +kernel
theorem dL_law_500 : decode cL_law 500 = .ok (.iload_n 3, 1) := by decide +kernel
theorem dL_law_501 : decode cL_law 501 = .ok (.iconst 3, 1) := by decide +kernel
theorem dL_law_502 : decode cL_law 502 = .ok (.iadd, 1) := by decide +kernel
theorem dL_law_503 : decode cL_law 503 = .ok (.iaload, 1) := by decide +kernel
theorem dL_law_504 : decode cL_law 504 = .ok (.aload_n 0, 1) := by decide +kernel
theorem dL_law_505 : decode cL_law 505 = .ok (.iload_n 3, 1) := by decide +kernel
theorem dL_law_506 : decode cL_law 506 = .ok (.iconst 4, 1) := by decide +kernel
theorem dL_law_507 : decode cL_law 507 = .ok (.iadd, 1) := by decide +kernel
theorem dL_law_508 : decode cL_law 508 = .ok (.iaload, 1) := by decide +kernel
theorem dL_law_509 : decode cL_law 509 = .ok (.ifCond .eq 7, 3) := by decide +kernel
theorem dL_law_512 : decode cL_law 512 = .ok (.iconst 1, 1) := by decide +kernel
theorem dL_law_513 : decode cL_law 513 = .ok (.goto 4, 3) := by decide +kernel
theorem dL_law_516 : decode cL_law 516 = .ok (.iconst 0, 1) := by decide +kernel
theorem dL_law_517 : decode cL_law 517 = .ok (.invokevirtual 52, 3) := by decide +kernel
theorem dL_law_520 : decode cL_law 520 = .ok (.aload_n 2, 1) := by decide +kernel
theorem dL_law_521 : decode cL_law 521 = .ok (.aload_n 0, 1) := by decide +kernel
theorem dL_law_522 : decode cL_law 522 = .ok (.iload_n 3, 1) := by decide +kernel
theorem dL_law_523 : decode cL_law 523 = .ok (.iconst 1, 1) := by decide +kernel
theorem dL_law_524 : decode cL_law 524 = .ok (.iadd, 1) := by decide +kernel
theorem dL_law_525 : decode cL_law 525 = .ok (.iaload, 1) := by decide +kernel
theorem dL_law_526 : decode cL_law 526 = .ok (.aload_n 0, 1) := by decide +kernel
theorem dL_law_527 : decode cL_law 527 = .ok (.iload_n 3, 1) := by decide +kernel
theorem dL_law_528 : decode cL_law 528 = .ok (.iconst 2, 1) := by decide +kernel
theorem dL_law_529 : decode cL_law 529 = .ok (.iadd, 1) := by decide +kernel
theorem dL_law_530 : decode cL_law 530 = .ok (.iaload, 1) := by decide +kernel
theorem dL_law_531 : decode cL_law 531 = .ok (.aload_n 0, 1) := by decide +kernel
theorem dL_law_532 : decode cL_law 532 = .ok (.iload_n 3, 1) := by decide +kernel
theorem dL_law_533 : decode cL_law 533 = .ok (.iconst 3, 1) := by decide +kernel
theorem dL_law_534 : decode cL_law 534 = .ok (.iadd, 1) := by decide +kernel
theorem dL_law_535 : decode cL_law 535 = .ok (.iaload, 1) := by decide +kernel
theorem dL_law_536 : decode cL_law 536 = .ok (.aload_n 0, 1) := by decide +kernel
theorem dL_law_537 : decode cL_law 537 = .ok (.iload_n 3, 1) := by decide +kernel
theorem dL_law_538 : decode cL_law 538 = .ok (.iconst 4, 1) := by decide +kernel
theorem dL_law_539 : decode cL_law 539 = .ok (.iadd, 1) := by decide +kernel
theorem dL_law_540 : decode cL_law 540 = .ok (.iaload, 1) := by decide +kernel
theorem dL_law_541 : decode cL_law 541 = .ok (.ifCond .eq 7, 3) := by decide +kernel
theorem dL_law_544 : decode cL_law 544 = .ok (.iconst 1, 1) := by decide +kernel
theorem dL_law_545 : decode cL_law 545 = .ok (.goto 4, 3) := by decide +kernel
theorem dL_law_548 : decode cL_law 548 = .ok (.iconst 0, 1) := by decide +kernel
theorem dL_law_549 : decode cL_law 549 = .ok (.invokevirtual 56, 3) := by decide +kernel
theorem dL_law_552 : decode cL_law 552 = .ok (.if_icmp .eq 880, 3) := by decide +kernel
theorem dL_law_555 : decode cL_law 555 = .ok (.iconst 0, 1) := by decide +kernel
theorem dL_law_556 : decode cL_law 556 = .ok (.ireturn, 1) := by decide +kernel
theorem dL_law_557 : decode cL_law 557 = .ok (.aload_n 1, 1) := by decide +kernel
theorem dL_law_558 : decode cL_law 558 = .ok (.aload_n 0, 1) := by decide +kernel
theorem dL_law_559 : decode cL_law 559 = .ok (.iload_n 3, 1) := by decide +kernel
theorem dL_law_560 : decode cL_law 560 = .ok (.iconst 1, 1) := by decide +kernel
theorem dL_law_561 : decode cL_law 561 = .ok (.iadd, 1) := by decide +kernel
theorem dL_law_562 : decode cL_law 562 = .ok (.iaload, 1) := by decide +kernel
theorem dL_law_563 : decode cL_law 563 = .ok (.aload_n 0, 1) := by decide +kernel
theorem dL_law_564 : decode cL_law 564 = .ok (.iload_n 3, 1) := by decide +kernel
theorem dL_law_565 : decode cL_law 565 = .ok (.iconst 2, 1) := by decide +kernel
theorem dL_law_566 : decode cL_law 566 = .ok (.iadd, 1) := by decide +kernel
theorem dL_law_567 : decode cL_law 567 = .ok (.iaload, 1) := by decide +kernel
theorem dL_law_568 : decode cL_law 568 = .ok (.aload_n 0, 1) := by decide +kernel
theorem dL_law_569 : decode cL_law 569 = .ok (.iload_n 3, 1) := by decide +kernel
theorem dL_law_570 : decode cL_law 570 = .ok (.iconst 3, 1) := by decide +kernel
theorem dL_law_571 : decode cL_law 571 = .ok (.iadd, 1) := by decide +kernel
theorem dL_law_572 : decode cL_law 572 = .ok (.iaload, 1) := by decide +kernel
theorem dL_law_573 : decode cL_law 573 = .ok (.ifCond .eq 7, 3) := by decide +kernel
theorem dL_law_576 : decode cL_law 576 = .ok (.iconst 1, 1) := by decide +kernel
theorem dL_law_577 : decode cL_law 577 = .ok (.goto 4, 3) := by decide +kernel
theorem dL_law_580 : decode cL_law 580 = .ok (.iconst 0, 1) := by decide +kernel
theorem dL_law_581 : decode cL_law 581 = .ok (.aload_n 0, 1) := by decide +kernel
theorem dL_law_582 : decode cL_law 582 = .ok (.iload_n 3, 1) := by decide +kernel
theorem dL_law_583 : decode cL_law 583 = .ok (.iconst 4, 1) := by decide +kernel
theorem dL_law_584 : decode cL_law 584 = .ok (.iadd, 1) := by decide +kernel
theorem dL_law_585 : decode cL_law 585 = .ok (.iaload, 1) := by decide +kernel
theorem dL_law_586 : decode cL_law 586 = .ok (.ifCond .eq 7, 3) := by decide +kernel
theorem dL_law_589 : decode cL_law 589 = .ok (.iconst 1, 1) := by decide +kernel
theorem dL_law_590 : decode cL_law 590 = .ok (.goto 4, 3) := by decide +kernel
theorem dL_law_593 : decode cL_law 593 = .ok (.iconst 0, 1) := by decide +kernel
theorem dL_law_594 : decode cL_law 594 = .ok (.invokevirtual 57, 3) := by decide +kernel
theorem dL_law_597 : decode cL_law 597 = .ok (.aload_n 2, 1) := by decide +kernel
theorem dL_law_598 : decode cL_law 598 = .ok (.aload_n 0, 1) := by decide +kernel
theorem dL_law_599 : decode cL_law 599 = .ok (.iload_n 3, 1) := by decide +kernel
theorem dL_law_600 : decode cL_law 600 = .ok (.iconst 1, 1) := by decide +kernel
theorem dL_law_601 : decode cL_law 601 = .ok (.iadd, 1) := by decide +kernel
theorem dL_law_602 : decode cL_law 602 = .ok (.iaload, 1) := by decide +kernel
theorem dL_law_603 : decode cL_law 603 = .ok (.aload_n 0, 1) := by decide +kernel
theorem dL_law_604 : decode cL_law 604 = .ok (.iload_n 3, 1) := by decide +kernel
theorem dL_law_605 : decode cL_law 605 = .ok (.iconst 2, 1) := by decide +kernel
theorem dL_law_606 : decode cL_law 606 = .ok (.iadd, 1) := by decide +kernel
theorem dL_law_607 : decode cL_law 607 = .ok (.iaload, 1) := by decide +kernel
theorem dL_law_608 : decode cL_law 608 = .ok (.aload_n 0, 1) := by decide +kernel
theorem dL_law_609 : decode cL_law 609 = .ok (.iload_n 3, 1) := by decide +kernel
theorem dL_law_610 : decode cL_law 610 = .ok (.iconst 3, 1) := by decide +kernel
theorem dL_law_611 : decode cL_law 611 = .ok (.iadd, 1) := by decide +kernel
theorem dL_law_612 : decode cL_law 612 = .ok (.iaload, 1) := by decide +kernel
theorem dL_law_613 : decode cL_law 613 = .ok (.ifCond .eq 7, 3) := by decide +kernel
theorem dL_law_616 : decode cL_law 616 = .ok (.iconst 1, 1) := by decide +kernel
theorem dL_law_617 : decode cL_law 617 = .ok (.goto 4, 3) := by decide +kernel
theorem dL_law_620 : decode cL_law 620 = .ok (.iconst 0, 1) := by decide +kernel
theorem dL_law_621 : decode cL_law 621 = .ok (.aload_n 0, 1) := by decide +kernel
theorem dL_law_622 : decode cL_law 622 = .ok (.iload_n 3, 1) := by decide +kernel
theorem dL_law_623 : decode cL_law 623 = .ok (.iconst 4, 1) := by decide +kernel
theorem dL_law_624 : decode cL_law 624 = .ok (.iadd, 1) := by decide +kernel
theorem dL_law_625 : decode cL_law 625 = .ok (.iaload, 1) := by decide +kernel
theorem dL_law_626 : decode cL_law 626 = .ok (.ifCond .eq 7, 3) := by decide +kernel
theorem dL_law_629 : decode cL_law 629 = .ok (.iconst 1, 1) := by decide +kernel
theorem dL_law_630 : decode cL_law 630 = .ok (.goto 4, 3) := by decide +kernel
theorem dL_law_633 : decode cL_law 633 = .ok (.iconst 0, 1) := by decide +kernel
theorem dL_law_634 : decode cL_law 634 = .ok (.invokevirtual 61, 3) := by decide +kernel
theorem dL_law_637 : decode cL_law 637 = .ok (.lcmp, 1) := by decide +kernel
theorem dL_law_638 : decode cL_law 638 = .ok (.ifCond .eq 794, 3) := by decide +kernel
theorem dL_law_641 : decode cL_law 641 = .ok (.iconst 0, 1) := by decide +kernel
theorem dL_law_642 : decode cL_law 642 = .ok (.ireturn, 1) := by decide +kernel
theorem dL_law_643 : decode cL_law 643 = .ok (.aload_n 1, 1) := by decide +kernel
theorem dL_law_644 : decode cL_law 644 = .ok (.aload_n 0, 1) := by decide +kernel
theorem dL_law_645 : decode cL_law 645 = .ok (.iload_n 3, 1) := by decide +kernel
theorem dL_law_646 : decode cL_law 646 = .ok (.iconst 1, 1) := by decide +kernel
theorem dL_law_647 : decode cL_law 647 = .ok (.iadd, 1) := by decide +kernel
theorem dL_law_648 : decode cL_law 648 = .ok (.iaload, 1) := by decide +kernel
theorem dL_law_649 : decode cL_law 649 = .ok (.aload_n 0, 1) := by decide +kernel
theorem dL_law_650 : decode cL_law 650 = .ok (.iload_n 3, 1) := by decide +kernel
theorem dL_law_651 : decode cL_law 651 = .ok (.iconst 2, 1) := by decide +kernel
theorem dL_law_652 : decode cL_law 652 = .ok (.iadd, 1) := by decide +kernel
theorem dL_law_653 : decode cL_law 653 = .ok (.iaload, 1) := by decide +kernel
theorem dL_law_654 : decode cL_law 654 = .ok (.aload_n 0, 1) := by decide +kernel
theorem dL_law_655 : decode cL_law 655 = .ok (.iload_n 3, 1) := by decide +kernel
theorem dL_law_656 : decode cL_law 656 = .ok (.iconst 3, 1) := by decide +kernel
theorem dL_law_657 : decode cL_law 657 = .ok (.iadd, 1) := by decide +kernel
theorem dL_law_658 : decode cL_law 658 = .ok (.iaload, 1) := by decide +kernel
theorem dL_law_659 : decode cL_law 659 = .ok (.invokevirtual 62, 3) := by decide +kernel
theorem dL_law_662 : decode cL_law 662 = .ok (.aload_n 2, 1) := by decide +kernel
theorem dL_law_663 : decode cL_law 663 = .ok (.aload_n 0, 1) := by decide +kernel
theorem dL_law_664 : decode cL_law 664 = .ok (.iload_n 3, 1) := by decide +kernel
theorem dL_law_665 : decode cL_law 665 = .ok (.iconst 1, 1) := by decide +kernel
theorem dL_law_666 : decode cL_law 666 = .ok (.iadd, 1) := by decide +kernel
theorem dL_law_667 : decode cL_law 667 = .ok (.iaload, 1) := by decide +kernel
theorem dL_law_668 : decode cL_law 668 = .ok (.aload_n 0, 1) := by decide +kernel
theorem dL_law_669 : decode cL_law 669 = .ok (.iload_n 3, 1) := by decide +kernel
theorem dL_law_670 : decode cL_law 670 = .ok (.iconst 2, 1) := by decide +kernel
theorem dL_law_671 : decode cL_law 671 = .ok (.iadd, 1) := by decide +kernel
theorem dL_law_672 : decode cL_law 672 = .ok (.iaload, 1) := by decide +kernel
theorem dL_law_673 : decode cL_law 673 = .ok (.aload_n 0, 1) := by decide +kernel
theorem dL_law_674 : decode cL_law 674 = .ok (.iload_n 3, 1) := by decide +kernel
theorem dL_law_675 : decode cL_law 675 = .ok (.iconst 3, 1) := by decide +kernel
theorem dL_law_676 : decode cL_law 676 = .ok (.iadd, 1) := by decide +kernel
theorem dL_law_677 : decode cL_law 677 = .ok (.iaload, 1) := by decide +kernel
theorem dL_law_678 : decode cL_law 678 = .ok (.invokevirtual 65, 3) := by decide +kernel
theorem dL_law_681 : decode cL_law 681 = .ok (.if_icmp .eq 751, 3) := by decide +kernel
theorem dL_law_684 : decode cL_law 684 = .ok (.iconst 0, 1) := by decide +kernel
theorem dL_law_685 : decode cL_law 685 = .ok (.ireturn, 1) := by decide +kernel
theorem dL_law_686 : decode cL_law 686 = .ok (.aload_n 1, 1) := by decide +kernel
theorem dL_law_687 : decode cL_law 687 = .ok (.aload_n 0, 1) := by decide +kernel
theorem dL_law_688 : decode cL_law 688 = .ok (.iload_n 3, 1) := by decide +kernel
theorem dL_law_689 : decode cL_law 689 = .ok (.iconst 1, 1) := by decide +kernel
theorem dL_law_690 : decode cL_law 690 = .ok (.iadd, 1) := by decide +kernel
theorem dL_law_691 : decode cL_law 691 = .ok (.iaload, 1) := by decide +kernel
theorem dL_law_692 : decode cL_law 692 = .ok (.aload_n 0, 1) := by decide +kernel
theorem dL_law_693 : decode cL_law 693 = .ok (.iload_n 3, 1) := by decide +kernel
theorem dL_law_694 : decode cL_law 694 = .ok (.iconst 2, 1) := by decide +kernel
theorem dL_law_695 : decode cL_law 695 = .ok (.iadd, 1) := by decide +kernel
theorem dL_law_696 : decode cL_law 696 = .ok (.iaload, 1) := by decide +kernel
theorem dL_law_697 : decode cL_law 697 = .ok (.aload_n 0, 1) := by decide +kernel
theorem dL_law_698 : decode cL_law 698 = .ok (.iload_n 3, 1) := by decide +kernel
theorem dL_law_699 : decode cL_law 699 = .ok (.iconst 3, 1) := by decide +kernel
theorem dL_law_700 : decode cL_law 700 = .ok (.iadd, 1) := by decide +kernel
theorem dL_law_701 : decode cL_law 701 = .ok (.iaload, 1) := by decide +kernel
theorem dL_law_702 : decode cL_law 702 = .ok (.aload_n 0, 1) := by decide +kernel
theorem dL_law_703 : decode cL_law 703 = .ok (.iload_n 3, 1) := by decide +kernel
theorem dL_law_704 : decode cL_law 704 = .ok (.iconst 4, 1) := by decide +kernel
theorem dL_law_705 : decode cL_law 705 = .ok (.iadd, 1) := by decide +kernel
theorem dL_law_706 : decode cL_law 706 = .ok (.iaload, 1) := by decide +kernel
theorem dL_law_707 : decode cL_law 707 = .ok (.invokevirtual 66, 3) := by decide +kernel
theorem dL_law_710 : decode cL_law 710 = .ok (.aload_n 2, 1) := by decide +kernel
theorem dL_law_711 : decode cL_law 711 = .ok (.aload_n 0, 1) := by decide +kernel
theorem dL_law_712 : decode cL_law 712 = .ok (.iload_n 3, 1) := by decide +kernel
theorem dL_law_713 : decode cL_law 713 = .ok (.iconst 1, 1) := by decide +kernel
theorem dL_law_714 : decode cL_law 714 = .ok (.iadd, 1) := by decide +kernel
theorem dL_law_715 : decode cL_law 715 = .ok (.iaload, 1) := by decide +kernel
theorem dL_law_716 : decode cL_law 716 = .ok (.aload_n 0, 1) := by decide +kernel
theorem dL_law_717 : decode cL_law 717 = .ok (.iload_n 3, 1) := by decide +kernel
theorem dL_law_718 : decode cL_law 718 = .ok (.iconst 2, 1) := by decide +kernel
theorem dL_law_719 : decode cL_law 719 = .ok (.iadd, 1) := by decide +kernel
theorem dL_law_720 : decode cL_law 720 = .ok (.iaload, 1) := by decide +kernel
theorem dL_law_721 : decode cL_law 721 = .ok (.aload_n 0, 1) := by decide +kernel
theorem dL_law_722 : decode cL_law 722 = .ok (.iload_n 3, 1) := by decide +kernel
theorem dL_law_723 : decode cL_law 723 = .ok (.iconst 3, 1) := by decide +kernel
theorem dL_law_724 : decode cL_law 724 = .ok (.iadd, 1) := by decide +kernel
theorem dL_law_725 : decode cL_law 725 = .ok (.iaload, 1) := by decide +kernel
theorem dL_law_726 : decode cL_law 726 = .ok (.aload_n 0, 1) := by decide +kernel
theorem dL_law_727 : decode cL_law 727 = .ok (.iload_n 3, 1) := by decide +kernel
theorem dL_law_728 : decode cL_law 728 = .ok (.iconst 4, 1) := by decide +kernel
theorem dL_law_729 : decode cL_law 729 = .ok (.iadd, 1) := by decide +kernel
theorem dL_law_730 : decode cL_law 730 = .ok (.iaload, 1) := by decide +kernel
theorem dL_law_731 : decode cL_law 731 = .ok (.invokevirtual 69, 3) := by decide +kernel
theorem dL_law_734 : decode cL_law 734 = .ok (.if_icmp .eq 698, 3) := by decide +kernel
theorem dL_law_737 : decode cL_law 737 = .ok (.iconst 0, 1) := by decide +kernel
theorem dL_law_738 : decode cL_law 738 = .ok (.ireturn, 1) := by decide +kernel
theorem dL_law_739 : decode cL_law 739 = .ok (.aload_n 1, 1) := by decide +kernel
theorem dL_law_740 : decode cL_law 740 = .ok (.aload_n 0, 1) := by decide +kernel
theorem dL_law_741 : decode cL_law 741 = .ok (.iload_n 3, 1) := by decide +kernel
theorem dL_law_742 : decode cL_law 742 = .ok (.iconst 1, 1) := by decide +kernel
theorem dL_law_743 : decode cL_law 743 = .ok (.iadd, 1) := by decide +kernel
theorem dL_law_744 : decode cL_law 744 = .ok (.iaload, 1) := by decide +kernel
theorem dL_law_745 : decode cL_law 745 = .ok (.aload_n 0, 1) := by decide +kernel
theorem dL_law_746 : decode cL_law 746 = .ok (.iload_n 3, 1) := by decide +kernel
theorem dL_law_747 : decode cL_law 747 = .ok (.iconst 2, 1) := by decide +kernel
theorem dL_law_748 : decode cL_law 748 = .ok (.iadd, 1) := by decide +kernel
theorem dL_law_749 : decode cL_law 749 = .ok (.iaload, 1) := by decide +kernel
theorem dL_law_750 : decode cL_law 750 = .ok (.aload_n 0, 1) := by decide +kernel
theorem dL_law_751 : decode cL_law 751 = .ok (.iload_n 3, 1) := by decide +kernel
theorem dL_law_752 : decode cL_law 752 = .ok (.iconst 3, 1) := by decide +kernel
theorem dL_law_753 : decode cL_law 753 = .ok (.iadd, 1) := by decide +kernel
theorem dL_law_754 : decode cL_law 754 = .ok (.iaload, 1) := by decide +kernel
theorem dL_law_755 : decode cL_law 755 = .ok (.ifCond .eq 7, 3) := by decide +kernel
theorem dL_law_758 : decode cL_law 758 = .ok (.iconst 1, 1) := by decide +kernel
theorem dL_law_759 : decode cL_law 759 = .ok (.goto 4, 3) := by decide +kernel
theorem dL_law_762 : decode cL_law 762 = .ok (.iconst 0, 1) := by decide +kernel
theorem dL_law_763 : decode cL_law 763 = .ok (.aload_n 0, 1) := by decide +kernel
theorem dL_law_764 : decode cL_law 764 = .ok (.iload_n 3, 1) := by decide +kernel
theorem dL_law_765 : decode cL_law 765 = .ok (.iconst 4, 1) := by decide +kernel
theorem dL_law_766 : decode cL_law 766 = .ok (.iadd, 1) := by decide +kernel
theorem dL_law_767 : decode cL_law 767 = .ok (.iaload, 1) := by decide +kernel
theorem dL_law_768 : decode cL_law 768 = .ok (.ifCond .eq 7, 3) := by decide +kernel
theorem dL_law_771 : decode cL_law 771 = .ok (.iconst 1, 1) := by decide +kernel
theorem dL_law_772 : decode cL_law 772 = .ok (.goto 4, 3) := by decide +kernel
theorem dL_law_775 : decode cL_law 775 = .ok (.iconst 0, 1) := by decide +kernel
theorem dL_law_776 : decode cL_law 776 = .ok (.aload_n 0, 1) := by decide +kernel
theorem dL_law_777 : decode cL_law 777 = .ok (.iload_n 3, 1) := by decide +kernel
theorem dL_law_778 : decode cL_law 778 = .ok (.iconst 5, 1) := by decide +kernel
theorem dL_law_779 : decode cL_law 779 = .ok (.iadd, 1) := by decide +kernel
theorem dL_law_780 : decode cL_law 780 = .ok (.iaload, 1) := by decide +kernel
theorem dL_law_781 : decode cL_law 781 = .ok (.ifCond .eq 7, 3) := by decide +kernel
theorem dL_law_784 : decode cL_law 784 = .ok (.iconst 1, 1) := by decide +kernel
theorem dL_law_785 : decode cL_law 785 = .ok (.goto 4, 3) := by decide +kernel
theorem dL_law_788 : decode cL_law 788 = .ok (.iconst 0, 1) := by decide +kernel
theorem dL_law_789 : decode cL_law 789 = .ok (.invokevirtual 70, 3) := by decide +kernel
theorem dL_law_792 : decode cL_law 792 = .ok (.aload_n 2, 1) := by decide +kernel
theorem dL_law_793 : decode cL_law 793 = .ok (.aload_n 0, 1) := by decide +kernel
theorem dL_law_794 : decode cL_law 794 = .ok (.iload_n 3, 1) := by decide +kernel
theorem dL_law_795 : decode cL_law 795 = .ok (.iconst 1, 1) := by decide +kernel
theorem dL_law_796 : decode cL_law 796 = .ok (.iadd, 1) := by decide +kernel
theorem dL_law_797 : decode cL_law 797 = .ok (.iaload, 1) := by decide +kernel
theorem dL_law_798 : decode cL_law 798 = .ok (.aload_n 0, 1) := by decide +kernel
theorem dL_law_799 : decode cL_law 799 = .ok (.iload_n 3, 1) := by decide +kernel
theorem dL_law_800 : decode cL_law 800 = .ok (.iconst 2, 1) := by decide +kernel
theorem dL_law_801 : decode cL_law 801 = .ok (.iadd, 1) := by decide +kernel
theorem dL_law_802 : decode cL_law 802 = .ok (.iaload, 1) := by decide +kernel
theorem dL_law_803 : decode cL_law 803 = .ok (.aload_n 0, 1) := by decide +kernel
theorem dL_law_804 : decode cL_law 804 = .ok (.iload_n 3, 1) := by decide +kernel
theorem dL_law_805 : decode cL_law 805 = .ok (.iconst 3, 1) := by decide +kernel
theorem dL_law_806 : decode cL_law 806 = .ok (.iadd, 1) := by decide +kernel
theorem dL_law_807 : decode cL_law 807 = .ok (.iaload, 1) := by decide +kernel
theorem dL_law_808 : decode cL_law 808 = .ok (.ifCond .eq 7, 3) := by decide +kernel
theorem dL_law_811 : decode cL_law 811 = .ok (.iconst 1, 1) := by decide +kernel
theorem dL_law_812 : decode cL_law 812 = .ok (.goto 4, 3) := by decide +kernel
theorem dL_law_815 : decode cL_law 815 = .ok (.iconst 0, 1) := by decide +kernel
theorem dL_law_816 : decode cL_law 816 = .ok (.aload_n 0, 1) := by decide +kernel
theorem dL_law_817 : decode cL_law 817 = .ok (.iload_n 3, 1) := by decide +kernel
theorem dL_law_818 : decode cL_law 818 = .ok (.iconst 4, 1) := by decide +kernel
theorem dL_law_819 : decode cL_law 819 = .ok (.iadd, 1) := by decide +kernel
theorem dL_law_820 : decode cL_law 820 = .ok (.iaload, 1) := by decide +kernel
theorem dL_law_821 : decode cL_law 821 = .ok (.ifCond .eq 7, 3) := by decide +kernel
theorem dL_law_824 : decode cL_law 824 = .ok (.iconst 1, 1) := by decide +kernel
theorem dL_law_825 : decode cL_law 825 = .ok (.goto 4, 3) := by decide +kernel
theorem dL_law_828 : decode cL_law 828 = .ok (.iconst 0, 1) := by decide +kernel
theorem dL_law_829 : decode cL_law 829 = .ok (.aload_n 0, 1) := by decide +kernel
theorem dL_law_830 : decode cL_law 830 = .ok (.iload_n 3, 1) := by decide +kernel
theorem dL_law_831 : decode cL_law 831 = .ok (.iconst 5, 1) := by decide +kernel
theorem dL_law_832 : decode cL_law 832 = .ok (.iadd, 1) := by decide +kernel
theorem dL_law_833 : decode cL_law 833 = .ok (.iaload, 1) := by decide +kernel
theorem dL_law_834 : decode cL_law 834 = .ok (.ifCond .eq 7, 3) := by decide +kernel
theorem dL_law_837 : decode cL_law 837 = .ok (.iconst 1, 1) := by decide +kernel
theorem dL_law_838 : decode cL_law 838 = .ok (.goto 4, 3) := by decide +kernel
theorem dL_law_841 : decode cL_law 841 = .ok (.iconst 0, 1) := by decide +kernel
theorem dL_law_842 : decode cL_law 842 = .ok (.invokevirtual 74, 3) := by decide +kernel
theorem dL_law_845 : decode cL_law 845 = .ok (.lcmp, 1) := by decide +kernel
theorem dL_law_846 : decode cL_law 846 = .ok (.ifCond .eq 586, 3) := by decide +kernel
theorem dL_law_849 : decode cL_law 849 = .ok (.iconst 0, 1) := by decide +kernel
theorem dL_law_850 : decode cL_law 850 = .ok (.ireturn, 1) := by decide +kernel
theorem dL_law_851 : decode cL_law 851 = .ok (.aload_n 1, 1) := by decide +kernel
theorem dL_law_852 : decode cL_law 852 = .ok (.aload_n 0, 1) := by decide +kernel
theorem dL_law_853 : decode cL_law 853 = .ok (.iload_n 3, 1) := by decide +kernel
theorem dL_law_854 : decode cL_law 854 = .ok (.iconst 1, 1) := by decide +kernel
theorem dL_law_855 : decode cL_law 855 = .ok (.iadd, 1) := by decide +kernel
theorem dL_law_856 : decode cL_law 856 = .ok (.iaload, 1) := by decide +kernel
theorem dL_law_857 : decode cL_law 857 = .ok (.aload_n 0, 1) := by decide +kernel
theorem dL_law_858 : decode cL_law 858 = .ok (.iload_n 3, 1) := by decide +kernel
theorem dL_law_859 : decode cL_law 859 = .ok (.iconst 2, 1) := by decide +kernel
theorem dL_law_860 : decode cL_law 860 = .ok (.iadd, 1) := by decide +kernel
theorem dL_law_861 : decode cL_law 861 = .ok (.iaload, 1) := by decide +kernel
theorem dL_law_862 : decode cL_law 862 = .ok (.aload_n 0, 1) := by decide +kernel
theorem dL_law_863 : decode cL_law 863 = .ok (.iload_n 3, 1) := by decide +kernel
theorem dL_law_864 : decode cL_law 864 = .ok (.iconst 3, 1) := by decide +kernel
theorem dL_law_865 : decode cL_law 865 = .ok (.iadd, 1) := by decide +kernel
theorem dL_law_866 : decode cL_law 866 = .ok (.iaload, 1) := by decide +kernel
theorem dL_law_867 : decode cL_law 867 = .ok (.aload_n 0, 1) := by decide +kernel
theorem dL_law_868 : decode cL_law 868 = .ok (.iload_n 3, 1) := by decide +kernel
theorem dL_law_869 : decode cL_law 869 = .ok (.iconst 4, 1) := by decide +kernel
theorem dL_law_870 : decode cL_law 870 = .ok (.iadd, 1) := by decide +kernel
theorem dL_law_871 : decode cL_law 871 = .ok (.iaload, 1) := by decide +kernel
theorem dL_law_872 : decode cL_law 872 = .ok (.ifCond .eq 7, 3) := by decide +kernel
theorem dL_law_875 : decode cL_law 875 = .ok (.iconst 1, 1) := by decide +kernel
theorem dL_law_876 : decode cL_law 876 = .ok (.goto 4, 3) := by decide +kernel
theorem dL_law_879 : decode cL_law 879 = .ok (.iconst 0, 1) := by decide +kernel
theorem dL_law_880 : decode cL_law 880 = .ok (.aload_n 0, 1) := by decide +kernel
theorem dL_law_881 : decode cL_law 881 = .ok (.iload_n 3, 1) := by decide +kernel
theorem dL_law_882 : decode cL_law 882 = .ok (.iconst 5, 1) := by decide +kernel
theorem dL_law_883 : decode cL_law 883 = .ok (.iadd, 1) := by decide +kernel
theorem dL_law_884 : decode cL_law 884 = .ok (.iaload, 1) := by decide +kernel
theorem dL_law_885 : decode cL_law 885 = .ok (.ifCond .eq 7, 3) := by decide +kernel
theorem dL_law_888 : decode cL_law 888 = .ok (.iconst 1, 1) := by decide +kernel
theorem dL_law_889 : decode cL_law 889 = .ok (.goto 4, 3) := by decide +kernel
theorem dL_law_892 : decode cL_law 892 = .ok (.iconst 0, 1) := by decide +kernel
theorem dL_law_893 : decode cL_law 893 = .ok (.aload_n 0, 1) := by decide +kernel
theorem dL_law_894 : decode cL_law 894 = .ok (.iload_n 3, 1) := by decide +kernel
theorem dL_law_895 : decode cL_law 895 = .ok (.bipush 6, 2) := by decide +kernel
theorem dL_law_897 : decode cL_law 897 = .ok (.iadd, 1) := by decide +kernel
theorem dL_law_898 : decode cL_law 898 = .ok (.iaload, 1) := by decide +kernel
theorem dL_law_899 : decode cL_law 899 = .ok (.ifCond .eq 7, 3) := by decide +kernel
theorem dL_law_902 : decode cL_law 902 = .ok (.iconst 1, 1) := by decide +kernel
theorem dL_law_903 : decode cL_law 903 = .ok (.goto 4, 3) := by decide +kernel
theorem dL_law_906 : decode cL_law 906 = .ok (.iconst 0, 1) := by decide +kernel
theorem dL_law_907 : decode cL_law 907 = .ok (.invokevirtual 75, 3) := by decide +kernel
theorem dL_law_910 : decode cL_law 910 = .ok (.aload_n 2, 1) := by decide +kernel
theorem dL_law_911 : decode cL_law 911 = .ok (.aload_n 0, 1) := by decide +kernel
theorem dL_law_912 : decode cL_law 912 = .ok (.iload_n 3, 1) := by decide +kernel
theorem dL_law_913 : decode cL_law 913 = .ok (.iconst 1, 1) := by decide +kernel
theorem dL_law_914 : decode cL_law 914 = .ok (.iadd, 1) := by decide +kernel
theorem dL_law_915 : decode cL_law 915 = .ok (.iaload, 1) := by decide +kernel
theorem dL_law_916 : decode cL_law 916 = .ok (.aload_n 0, 1) := by decide +kernel
theorem dL_law_917 : decode cL_law 917 = .ok (.iload_n 3, 1) := by decide +kernel
theorem dL_law_918 : decode cL_law 918 = .ok (.iconst 2, 1) := by decide +kernel
theorem dL_law_919 : decode cL_law 919 = .ok (.iadd, 1) := by decide +kernel
theorem dL_law_920 : decode cL_law 920 = .ok (.iaload, 1) := by decide +kernel
theorem dL_law_921 : decode cL_law 921 = .ok (.aload_n 0, 1) := by decide +kernel
theorem dL_law_922 : decode cL_law 922 = .ok (.iload_n 3, 1) := by decide +kernel
theorem dL_law_923 : decode cL_law 923 = .ok (.iconst 3, 1) := by decide +kernel
theorem dL_law_924 : decode cL_law 924 = .ok (.iadd, 1) := by decide +kernel
theorem dL_law_925 : decode cL_law 925 = .ok (.iaload, 1) := by decide +kernel
theorem dL_law_926 : decode cL_law 926 = .ok (.aload_n 0, 1) := by decide +kernel
theorem dL_law_927 : decode cL_law 927 = .ok (.iload_n 3, 1) := by decide +kernel
theorem dL_law_928 : decode cL_law 928 = .ok (.iconst 4, 1) := by decide +kernel
theorem dL_law_929 : decode cL_law 929 = .ok (.iadd, 1) := by decide +kernel
theorem dL_law_930 : decode cL_law 930 = .ok (.iaload, 1) := by decide +kernel
theorem dL_law_931 : decode cL_law 931 = .ok (.ifCond .eq 7, 3) := by decide +kernel
theorem dL_law_934 : decode cL_law 934 = .ok (.iconst 1, 1) := by decide +kernel
theorem dL_law_935 : decode cL_law 935 = .ok (.goto 4, 3) := by decide +kernel
theorem dL_law_938 : decode cL_law 938 = .ok (.iconst 0, 1) := by decide +kernel
theorem dL_law_939 : decode cL_law 939 = .ok (.aload_n 0, 1) := by decide +kernel
theorem dL_law_940 : decode cL_law 940 = .ok (.iload_n 3, 1) := by decide +kernel
theorem dL_law_941 : decode cL_law 941 = .ok (.iconst 5, 1) := by decide +kernel
theorem dL_law_942 : decode cL_law 942 = .ok (.iadd, 1) := by decide +kernel
theorem dL_law_943 : decode cL_law 943 = .ok (.iaload, 1) := by decide +kernel
theorem dL_law_944 : decode cL_law 944 = .ok (.ifCond .eq 7, 3) := by decide +kernel
theorem dL_law_947 : decode cL_law 947 = .ok (.iconst 1, 1) := by decide +kernel
theorem dL_law_948 : decode cL_law 948 = .ok (.goto 4, 3) := by decide +kernel
theorem dL_law_951 : decode cL_law 951 = .ok (.iconst 0, 1) := by decide +kernel
theorem dL_law_952 : decode cL_law 952 = .ok (.aload_n 0, 1) := by decide +kernel
theorem dL_law_953 : decode cL_law 953 = .ok (.iload_n 3, 1) := by decide +kernel
theorem dL_law_954 : decode cL_law 954 = .ok (.bipush 6, 2) := by decide +kernel
theorem dL_law_956 : decode cL_law 956 = .ok (.iadd, 1) := by decide +kernel
theorem dL_law_957 : decode cL_law 957 = .ok (.iaload, 1) := by decide +kernel
theorem dL_law_958 : decode cL_law 958 = .ok (.ifCond .eq 7, 3) := by decide +kernel
theorem dL_law_961 : decode cL_law 961 = .ok (.iconst 1, 1) := by decide +kernel
theorem dL_law_962 : decode cL_law 962 = .ok (.goto 4, 3) := by decide +kernel
theorem dL_law_965 : decode cL_law 965 = .ok (.iconst 0, 1) := by decide +kernel
theorem dL_law_966 : decode cL_law 966 = .ok (.invokevirtual 79, 3) := by decide +kernel
theorem dL_law_969 : decode cL_law 969 = .ok (.lcmp, 1) := by decide +kernel
theorem dL_law_970 : decode cL_law 970 = .ok (.ifCond .eq 462, 3) := by decide +kernel
theorem dL_law_973 : decode cL_law 973 = .ok (.iconst 0, 1) := by decide +kernel
theorem dL_law_974 : decode cL_law 974 = .ok (.ireturn, 1) := by decide +kernel
theorem dL_law_975 : decode cL_law 975 = .ok (.aload_n 1, 1) := by decide +kernel
theorem dL_law_976 : decode cL_law 976 = .ok (.aload_n 0, 1) := by decide +kernel
theorem dL_law_977 : decode cL_law 977 = .ok (.iload_n 3, 1) := by decide +kernel
theorem dL_law_978 : decode cL_law 978 = .ok (.iconst 1, 1) := by decide +kernel
theorem dL_law_979 : decode cL_law 979 = .ok (.iadd, 1) := by decide +kernel
theorem dL_law_980 : decode cL_law 980 = .ok (.iaload, 1) := by decide +kernel
theorem dL_law_981 : decode cL_law 981 = .ok (.aload_n 0, 1) := by decide +kernel
theorem dL_law_982 : decode cL_law 982 = .ok (.iload_n 3, 1) := by decide +kernel
theorem dL_law_983 : decode cL_law 983 = .ok (.iconst 2, 1) := by decide +kernel
theorem dL_law_984 : decode cL_law 984 = .ok (.iadd, 1) := by decide +kernel
theorem dL_law_985 : decode cL_law 985 = .ok (.iaload, 1) := by decide +kernel
theorem dL_law_986 : decode cL_law 986 = .ok (.aload_n 0, 1) := by decide +kernel
theorem dL_law_987 : decode cL_law 987 = .ok (.iload_n 3, 1) := by decide +kernel
theorem dL_law_988 : decode cL_law 988 = .ok (.iconst 3, 1) := by decide +kernel
theorem dL_law_989 : decode cL_law 989 = .ok (.iadd, 1) := by decide +kernel
theorem dL_law_990 : decode cL_law 990 = .ok (.iaload, 1) := by decide +kernel
theorem dL_law_991 : decode cL_law 991 = .ok (.aload_n 0, 1) := by decide +kernel
theorem dL_law_992 : decode cL_law 992 = .ok (.iload_n 3, 1) := by decide +kernel
theorem dL_law_993 : decode cL_law 993 = .ok (.iconst 4, 1) := by decide +kernel
theorem dL_law_994 : decode cL_law 994 = .ok (.iadd, 1) := by decide +kernel
theorem dL_law_995 : decode cL_law 995 = .ok (.iaload, 1) := by decide +kernel
theorem dL_law_996 : decode cL_law 996 = .ok (.ifCond .eq 7, 3) := by decide +kernel
theorem dL_law_999 : decode cL_law 999 = .ok (.iconst 1, 1) := by decide +kernel
theorem dL_law_1000 : decode cL_law 1000 = .ok (.goto 4, 3) := by decide +kernel
theorem dL_law_1003 : decode cL_law 1003 = .ok (.iconst 0, 1) := by decide +kernel
theorem dL_law_1004 : decode cL_law 1004 = .ok (.aload_n 0, 1) := by decide +kernel
theorem dL_law_1005 : decode cL_law 1005 = .ok (.iload_n 3, 1) := by decide +kernel
theorem dL_law_1006 : decode cL_law 1006 = .ok (.iconst 5, 1) := by decide +kernel
theorem dL_law_1007 : decode cL_law 1007 = .ok (.iadd, 1) := by decide +kernel
theorem dL_law_1008 : decode cL_law 1008 = .ok (.iaload, 1) := by decide +kernel
theorem dL_law_1009 : decode cL_law 1009 = .ok (.ifCond .eq 7, 3) := by decide +kernel
theorem dL_law_1012 : decode cL_law 1012 = .ok (.iconst 1, 1) := by decide +kernel
theorem dL_law_1013 : decode cL_law 1013 = .ok (.goto 4, 3) := by decide +kernel
theorem dL_law_1016 : decode cL_law 1016 = .ok (.iconst 0, 1) := by decide +kernel
theorem dL_law_1017 : decode cL_law 1017 = .ok (.aload_n 0, 1) := by decide +kernel
theorem dL_law_1018 : decode cL_law 1018 = .ok (.iload_n 3, 1) := by decide +kernel
theorem dL_law_1019 : decode cL_law 1019 = .ok (.bipush 6, 2) := by decide +kernel
theorem dL_law_1021 : decode cL_law 1021 = .ok (.iadd, 1) := by decide +kernel
theorem dL_law_1022 : decode cL_law 1022 = .ok (.iaload, 1) := by decide +kernel
theorem dL_law_1023 : decode cL_law 1023 = .ok (.ifCond .eq 7, 3) := by decide +kernel
theorem dL_law_1026 : decode cL_law 1026 = .ok (.iconst 1, 1) := by decide +kernel
theorem dL_law_1027 : decode cL_law 1027 = .ok (.goto 4, 3) := by decide +kernel
theorem dL_law_1030 : decode cL_law 1030 = .ok (.iconst 0, 1) := by decide +kernel
theorem dL_law_1031 : decode cL_law 1031 = .ok (.invokevirtual 80, 3) := by decide +kernel
theorem dL_law_1034 : decode cL_law 1034 = .ok (.aload_n 2, 1) := by decide +kernel
theorem dL_law_1035 : decode cL_law 1035 = .ok (.aload_n 0, 1) := by decide +kernel
theorem dL_law_1036 : decode cL_law 1036 = .ok (.iload_n 3, 1) := by decide +kernel
theorem dL_law_1037 : decode cL_law 1037 = .ok (.iconst 1, 1) := by decide +kernel
theorem dL_law_1038 : decode cL_law 1038 = .ok (.iadd, 1) := by decide +kernel
theorem dL_law_1039 : decode cL_law 1039 = .ok (.iaload, 1) := by decide +kernel
theorem dL_law_1040 : decode cL_law 1040 = .ok (.aload_n 0, 1) := by decide +kernel
theorem dL_law_1041 : decode cL_law 1041 = .ok (.iload_n 3, 1) := by decide +kernel
theorem dL_law_1042 : decode cL_law 1042 = .ok (.iconst 2, 1) := by decide +kernel
theorem dL_law_1043 : decode cL_law 1043 = .ok (.iadd, 1) := by decide +kernel
theorem dL_law_1044 : decode cL_law 1044 = .ok (.iaload, 1) := by decide +kernel
theorem dL_law_1045 : decode cL_law 1045 = .ok (.aload_n 0, 1) := by decide +kernel
theorem dL_law_1046 : decode cL_law 1046 = .ok (.iload_n 3, 1) := by decide +kernel
theorem dL_law_1047 : decode cL_law 1047 = .ok (.iconst 3, 1) := by decide +kernel
theorem dL_law_1048 : decode cL_law 1048 = .ok (.iadd, 1) := by decide +kernel
theorem dL_law_1049 : decode cL_law 1049 = .ok (.iaload, 1) := by decide +kernel
theorem dL_law_1050 : decode cL_law 1050 = .ok (.aload_n 0, 1) := by decide +kernel
theorem dL_law_1051 : decode cL_law 1051 = .ok (.iload_n 3, 1) := by decide +kernel
theorem dL_law_1052 : decode cL_law 1052 = .ok (.iconst 4, 1) := by decide +kernel
theorem dL_law_1053 : decode cL_law 1053 = .ok (.iadd, 1) := by decide +kernel
theorem dL_law_1054 : decode cL_law 1054 = .ok (.iaload, 1) := by decide +kernel
theorem dL_law_1055 : decode cL_law 1055 = .ok (.ifCond .eq 7, 3) := by decide +kernel
theorem dL_law_1058 : decode cL_law 1058 = .ok (.iconst 1, 1) := by decide +kernel
theorem dL_law_1059 : decode cL_law 1059 = .ok (.goto 4, 3) := by decide +kernel
theorem dL_law_1062 : decode cL_law 1062 = .ok (.iconst 0, 1) := by decide +kernel
theorem dL_law_1063 : decode cL_law 1063 = .ok (.aload_n 0, 1) := by decide +kernel
theorem dL_law_1064 : decode cL_law 1064 = .ok (.iload_n 3, 1) := by decide +kernel
theorem dL_law_1065 : decode cL_law 1065 = .ok (.iconst 5, 1) := by decide +kernel
theorem dL_law_1066 : decode cL_law 1066 = .ok (.iadd, 1) := by decide +kernel
theorem dL_law_1067 : decode cL_law 1067 = .ok (.iaload, 1) := by decide +kernel
theorem dL_law_1068 : decode cL_law 1068 = .ok (.ifCond .eq 7, 3) := by decide +kernel
theorem dL_law_1071 : decode cL_law 1071 = .ok (.iconst 1, 1) := by decide +kernel
theorem dL_law_1072 : decode cL_law 1072 = .ok (.goto 4, 3) := by decide +kernel
theorem dL_law_1075 : decode cL_law 1075 = .ok (.iconst 0, 1) := by decide +kernel
theorem dL_law_1076 : decode cL_law 1076 = .ok (.aload_n 0, 1) := by decide +kernel
theorem dL_law_1077 : decode cL_law 1077 = .ok (.iload_n 3, 1) := by decide +kernel
theorem dL_law_1078 : decode cL_law 1078 = .ok (.bipush 6, 2) := by decide +kernel
theorem dL_law_1080 : decode cL_law 1080 = .ok (.iadd, 1) := by decide +kernel
theorem dL_law_1081 : decode cL_law 1081 = .ok (.iaload, 1) := by decide +kernel
theorem dL_law_1082 : decode cL_law 1082 = .ok (.ifCond .eq 7, 3) := by decide +kernel
theorem dL_law_1085 : decode cL_law 1085 = .ok (.iconst 1, 1) := by decide +kernel
theorem dL_law_1086 : decode cL_law 1086 = .ok (.goto 4, 3) := by decide +kernel
theorem dL_law_1089 : decode cL_law 1089 = .ok (.iconst 0, 1) := by decide +kernel
theorem dL_law_1090 : decode cL_law 1090 = .ok (.invokevirtual 83, 3) := by decide +kernel
theorem dL_law_1093 : decode cL_law 1093 = .ok (.lcmp, 1) := by decide +kernel
theorem dL_law_1094 : decode cL_law 1094 = .ok (.ifCond .eq 338, 3) := by decide +kernel
theorem dL_law_1097 : decode cL_law 1097 = .ok (.iconst 0, 1) := by decide +kernel
theorem dL_law_1098 : decode cL_law 1098 = .ok (.ireturn, 1) := by decide +kernel
theorem dL_law_1099 : decode cL_law 1099 = .ok (.aload_n 1, 1) := by decide +kernel
theorem dL_law_1100 : decode cL_law 1100 = .ok (.aload_n 0, 1) := by decide +kernel
theorem dL_law_1101 : decode cL_law 1101 = .ok (.iload_n 3, 1) := by decide +kernel
theorem dL_law_1102 : decode cL_law 1102 = .ok (.iconst 1, 1) := by decide +kernel
theorem dL_law_1103 : decode cL_law 1103 = .ok (.iadd, 1) := by decide +kernel
theorem dL_law_1104 : decode cL_law 1104 = .ok (.iaload, 1) := by decide +kernel
theorem dL_law_1105 : decode cL_law 1105 = .ok (.invokevirtual 84, 3) := by decide +kernel
theorem dL_law_1108 : decode cL_law 1108 = .ok (.aload_n 2, 1) := by decide +kernel
theorem dL_law_1109 : decode cL_law 1109 = .ok (.aload_n 0, 1) := by decide +kernel
theorem dL_law_1110 : decode cL_law 1110 = .ok (.iload_n 3, 1) := by decide +kernel
theorem dL_law_1111 : decode cL_law 1111 = .ok (.iconst 1, 1) := by decide +kernel
theorem dL_law_1112 : decode cL_law 1112 = .ok (.iadd, 1) := by decide +kernel
theorem dL_law_1113 : decode cL_law 1113 = .ok (.iaload, 1) := by decide +kernel
theorem dL_law_1114 : decode cL_law 1114 = .ok (.invokevirtual 88, 3) := by decide +kernel
theorem dL_law_1117 : decode cL_law 1117 = .ok (.if_icmp .eq 315, 3) := by decide +kernel
theorem dL_law_1120 : decode cL_law 1120 = .ok (.iconst 0, 1) := by decide +kernel
theorem dL_law_1121 : decode cL_law 1121 = .ok (.ireturn, 1) := by decide +kernel
theorem dL_law_1122 : decode cL_law 1122 = .ok (.aload_n 1, 1) := by decide +kernel
theorem dL_law_1123 : decode cL_law 1123 = .ok (.aload_n 0, 1) := by decide +kernel
theorem dL_law_1124 : decode cL_law 1124 = .ok (.iload_n 3, 1) := by decide +kernel
theorem dL_law_1125 : decode cL_law 1125 = .ok (.iconst 1, 1) := by decide +kernel
theorem dL_law_1126 : decode cL_law 1126 = .ok (.iadd, 1) := by decide +kernel
theorem dL_law_1127 : decode cL_law 1127 = .ok (.iaload, 1) := by decide +kernel
theorem dL_law_1128 : decode cL_law 1128 = .ok (.aload_n 0, 1) := by decide +kernel
theorem dL_law_1129 : decode cL_law 1129 = .ok (.iload_n 3, 1) := by decide +kernel
theorem dL_law_1130 : decode cL_law 1130 = .ok (.iconst 2, 1) := by decide +kernel
theorem dL_law_1131 : decode cL_law 1131 = .ok (.iadd, 1) := by decide +kernel
theorem dL_law_1132 : decode cL_law 1132 = .ok (.iaload, 1) := by decide +kernel
theorem dL_law_1133 : decode cL_law 1133 = .ok (.aload_n 0, 1) := by decide +kernel
theorem dL_law_1134 : decode cL_law 1134 = .ok (.iload_n 3, 1) := by decide +kernel
theorem dL_law_1135 : decode cL_law 1135 = .ok (.iconst 3, 1) := by decide +kernel
theorem dL_law_1136 : decode cL_law 1136 = .ok (.iadd, 1) := by decide +kernel
theorem dL_law_1137 : decode cL_law 1137 = .ok (.iaload, 1) := by decide +kernel
theorem dL_law_1138 : decode cL_law 1138 = .ok (.aload_n 0, 1) := by decide +kernel
theorem dL_law_1139 : decode cL_law 1139 = .ok (.iload_n 3, 1) := by decide +kernel
theorem dL_law_1140 : decode cL_law 1140 = .ok (.iconst 4, 1) := by decide +kernel
theorem dL_law_1141 : decode cL_law 1141 = .ok (.iadd, 1) := by decide +kernel
theorem dL_law_1142 : decode cL_law 1142 = .ok (.iaload, 1) := by decide +kernel
theorem dL_law_1143 : decode cL_law 1143 = .ok (.invokevirtual 89, 3) := by decide +kernel
theorem dL_law_1146 : decode cL_law 1146 = .ok (.aload_n 2, 1) := by decide +kernel
theorem dL_law_1147 : decode cL_law 1147 = .ok (.aload_n 0, 1) := by decide +kernel
end
section
theorem dL_law_1148 : decode cL_law 1148 = .ok (.iload_n 3, 1) := by decide +kernel
theorem dL_law_1149 : decode cL_law 1149 = .ok (.iconst 1, 1) := by decide +kernel
theorem dL_law_1150 : decode cL_law 1150 = .ok (.iadd, 1) := by decide +kernel
theorem dL_law_1151 : decode cL_law 1151 = .ok (.iaload, 1) := by decide +kernel
theorem dL_law_1152 : decode cL_law 1152 = .ok (.aload_n 0, 1) := by decide +kernel
theorem dL_law_1153 : decode cL_law 1153 = .ok (.iload_n 3, 1) := by decide +kernel
theorem dL_law_1154 : decode cL_law 1154 = .ok (.iconst 2, 1) := by decide +kernel
theorem dL_law_1155 : decode cL_law 1155 = .ok (.iadd, 1) := by decide +kernel
theorem dL_law_1156 : decode cL_law 1156 = .ok (.iaload, 1) := by decide +kernel
theorem dL_law_1157 : decode cL_law 1157 = .ok (.aload_n 0, 1) := by decide +kernel
theorem dL_law_1158 : decode cL_law 1158 = .ok (.iload_n 3, 1) := by decide +kernel
theorem dL_law_1159 : decode cL_law 1159 = .ok (.iconst 3, 1) := by decide +kernel
theorem dL_law_1160 : decode cL_law 1160 = .ok (.iadd, 1) := by decide +kernel
theorem dL_law_1161 : decode cL_law 1161 = .ok (.iaload, 1) := by decide +kernel
theorem dL_law_1162 : decode cL_law 1162 = .ok (.aload_n 0, 1) := by decide +kernel
theorem dL_law_1163 : decode cL_law 1163 = .ok (.iload_n 3, 1) := by decide +kernel
theorem dL_law_1164 : decode cL_law 1164 = .ok (.iconst 4, 1) := by decide +kernel
theorem dL_law_1165 : decode cL_law 1165 = .ok (.iadd, 1) := by decide +kernel
theorem dL_law_1166 : decode cL_law 1166 = .ok (.iaload, 1) := by decide +kernel
theorem dL_law_1167 : decode cL_law 1167 = .ok (.invokevirtual 92, 3) := by decide +kernel
theorem dL_law_1170 : decode cL_law 1170 = .ok (.if_icmp .eq 262, 3) := by decide +kernel
theorem dL_law_1173 : decode cL_law 1173 = .ok (.iconst 0, 1) := by decide +kernel
theorem dL_law_1174 : decode cL_law 1174 = .ok (.ireturn, 1) := by decide +kernel
theorem dL_law_1175 : decode cL_law 1175 = .ok (.aload_n 1, 1) := by decide +kernel
theorem dL_law_1176 : decode cL_law 1176 = .ok (.aload_n 0, 1) := by decide +kernel
theorem dL_law_1177 : decode cL_law 1177 = .ok (.iload_n 3, 1) := by decide +kernel
theorem dL_law_1178 : decode cL_law 1178 = .ok (.iconst 1, 1) := by decide +kernel
theorem dL_law_1179 : decode cL_law 1179 = .ok (.iadd, 1) := by decide +kernel
theorem dL_law_1180 : decode cL_law 1180 = .ok (.iaload, 1) := by decide +kernel
theorem dL_law_1181 : decode cL_law 1181 = .ok (.aload_n 0, 1) := by decide +kernel
theorem dL_law_1182 : decode cL_law 1182 = .ok (.iload_n 3, 1) := by decide +kernel
theorem dL_law_1183 : decode cL_law 1183 = .ok (.iconst 2, 1) := by decide +kernel
theorem dL_law_1184 : decode cL_law 1184 = .ok (.iadd, 1) := by decide +kernel
theorem dL_law_1185 : decode cL_law 1185 = .ok (.iaload, 1) := by decide +kernel
theorem dL_law_1186 : decode cL_law 1186 = .ok (.invokevirtual 93, 3) := by decide +kernel
theorem dL_law_1189 : decode cL_law 1189 = .ok (.aload_n 2, 1) := by decide +kernel
theorem dL_law_1190 : decode cL_law 1190 = .ok (.aload_n 0, 1) := by decide +kernel
theorem dL_law_1191 : decode cL_law 1191 = .ok (.iload_n 3, 1) := by decide +kernel
theorem dL_law_1192 : decode cL_law 1192 = .ok (.iconst 1, 1) := by decide +kernel
theorem dL_law_1193 : decode cL_law 1193 = .ok (.iadd, 1) := by decide +kernel
theorem dL_law_1194 : decode cL_law 1194 = .ok (.iaload, 1) := by decide +kernel
theorem dL_law_1195 : decode cL_law 1195 = .ok (.aload_n 0, 1) := by decide +kernel
theorem dL_law_1196 : decode cL_law 1196 = .ok (.iload_n 3, 1) := by decide +kernel
theorem dL_law_1197 : decode cL_law 1197 = .ok (.iconst 2, 1) := by decide +kernel
theorem dL_law_1198 : decode cL_law 1198 = .ok (.iadd, 1) := by decide +kernel
theorem dL_law_1199 : decode cL_law 1199 = .ok (.iaload, 1) := by decide +kernel
theorem dL_law_1200 : decode cL_law 1200 = .ok (.invokevirtual 96, 3) := by decide +kernel
theorem dL_law_1203 : decode cL_law 1203 = .ok (.if_icmp .eq 229, 3) := by decide +kernel
theorem dL_law_1206 : decode cL_law 1206 = .ok (.iconst 0, 1) := by decide +kernel
theorem dL_law_1207 : decode cL_law 1207 = .ok (.ireturn, 1) := by decide +kernel
theorem dL_law_1208 : decode cL_law 1208 = .ok (.aload_n 1, 1) := by decide +kernel
theorem dL_law_1209 : decode cL_law 1209 = .ok (.aload_n 0, 1) := by decide +kernel
theorem dL_law_1210 : decode cL_law 1210 = .ok (.iload_n 3, 1) := by decide +kernel
theorem dL_law_1211 : decode cL_law 1211 = .ok (.iconst 1, 1) := by decide +kernel
theorem dL_law_1212 : decode cL_law 1212 = .ok (.iadd, 1) := by decide +kernel
theorem dL_law_1213 : decode cL_law 1213 = .ok (.iaload, 1) := by decide +kernel
theorem dL_law_1214 : decode cL_law 1214 = .ok (.aload_n 0, 1) := by decide +kernel
theorem dL_law_1215 : decode cL_law 1215 = .ok (.iload_n 3, 1) := by decide +kernel
theorem dL_law_1216 : decode cL_law 1216 = .ok (.iconst 2, 1) := by decide +kernel
theorem dL_law_1217 : decode cL_law 1217 = .ok (.iadd, 1) := by decide +kernel
theorem dL_law_1218 : decode cL_law 1218 = .ok (.iaload, 1) := by decide +kernel
theorem dL_law_1219 : decode cL_law 1219 = .ok (.aload_n 0, 1) := by decide +kernel
theorem dL_law_1220 : decode cL_law 1220 = .ok (.iload_n 3, 1) := by decide +kernel
theorem dL_law_1221 : decode cL_law 1221 = .ok (.iconst 3, 1) := by decide +kernel
theorem dL_law_1222 : decode cL_law 1222 = .ok (.iadd, 1) := by decide +kernel
theorem dL_law_1223 : decode cL_law 1223 = .ok (.iaload, 1) := by decide +kernel
theorem dL_law_1224 : decode cL_law 1224 = .ok (.invokevirtual 97, 3) := by decide +kernel
theorem dL_law_1227 : decode cL_law 1227 = .ok (.aload_n 2, 1) := by decide +kernel
theorem dL_law_1228 : decode cL_law 1228 = .ok (.aload_n 0, 1) := by decide +kernel
theorem dL_law_1229 : decode cL_law 1229 = .ok (.iload_n 3, 1) := by decide +kernel
theorem dL_law_1230 : decode cL_law 1230 = .ok (.iconst 1, 1) := by decide +kernel
theorem dL_law_1231 : decode cL_law 1231 = .ok (.iadd, 1) := by decide +kernel
theorem dL_law_1232 : decode cL_law 1232 = .ok (.iaload, 1) := by decide +kernel
theorem dL_law_1233 : decode cL_law 1233 = .ok (.aload_n 0, 1) := by decide +kernel
theorem dL_law_1234 : decode cL_law 1234 = .ok (.iload_n 3, 1) := by decide +kernel
theorem dL_law_1235 : decode cL_law 1235 = .ok (.iconst 2, 1) := by decide +kernel
theorem dL_law_1236 : decode cL_law 1236 = .ok (.iadd, 1) := by decide +kernel
theorem dL_law_1237 : decode cL_law 1237 = .ok (.iaload, 1) := by decide +kernel
theorem dL_law_1238 : decode cL_law 1238 = .ok (.aload_n 0, 1) := by decide +kernel
theorem dL_law_1239 : decode cL_law 1239 = .ok (.iload_n 3, 1) := by decide +kernel
theorem dL_law_1240 : decode cL_law 1240 = .ok (.iconst 3, 1) := by decide +kernel
theorem dL_law_1241 : decode cL_law 1241 = .ok (.iadd, 1) := by decide +kernel
theorem dL_law_1242 : decode cL_law 1242 = .ok (.iaload, 1) := by decide +kernel
theorem dL_law_1243 : decode cL_law 1243 = .ok (.invokevirtual 100, 3) := by decide +kernel
theorem dL_law_1246 : decode cL_law 1246 = .ok (.if_icmp .eq 186, 3) := by decide +kernel
theorem dL_law_1249 : decode cL_law 1249 = .ok (.iconst 0, 1) := by decide +kernel
theorem dL_law_1250 : decode cL_law 1250 = .ok (.ireturn, 1) := by decide +kernel
theorem dL_law_1251 : decode cL_law 1251 = .ok (.aload_n 1, 1) := by decide +kernel
theorem dL_law_1252 : decode cL_law 1252 = .ok (.aload_n 0, 1) := by decide +kernel
theorem dL_law_1253 : decode cL_law 1253 = .ok (.iload_n 3, 1) := by decide +kernel
theorem dL_law_1254 : decode cL_law 1254 = .ok (.iconst 1, 1) := by decide +kernel
theorem dL_law_1255 : decode cL_law 1255 = .ok (.iadd, 1) := by decide +kernel
theorem dL_law_1256 : decode cL_law 1256 = .ok (.iaload, 1) := by decide +kernel
theorem dL_law_1257 : decode cL_law 1257 = .ok (.aload_n 0, 1) := by decide +kernel
theorem dL_law_1258 : decode cL_law 1258 = .ok (.iload_n 3, 1) := by decide +kernel
theorem dL_law_1259 : decode cL_law 1259 = .ok (.iconst 2, 1) := by decide +kernel
theorem dL_law_1260 : decode cL_law 1260 = .ok (.iadd, 1) := by decide +kernel
theorem dL_law_1261 : decode cL_law 1261 = .ok (.iaload, 1) := by decide +kernel
theorem dL_law_1262 : decode cL_law 1262 = .ok (.aload_n 0, 1) := by decide +kernel
theorem dL_law_1263 : decode cL_law 1263 = .ok (.iload_n 3, 1) := by decide +kernel
theorem dL_law_1264 : decode cL_law 1264 = .ok (.iconst 3, 1) := by decide +kernel
theorem dL_law_1265 : decode cL_law 1265 = .ok (.iadd, 1) := by decide +kernel
theorem dL_law_1266 : decode cL_law 1266 = .ok (.iaload, 1) := by decide +kernel
theorem dL_law_1267 : decode cL_law 1267 = .ok (.invokevirtual 101, 3) := by decide +kernel
theorem dL_law_1270 : decode cL_law 1270 = .ok (.aload_n 2, 1) := by decide +kernel
theorem dL_law_1271 : decode cL_law 1271 = .ok (.aload_n 0, 1) := by decide +kernel
theorem dL_law_1272 : decode cL_law 1272 = .ok (.iload_n 3, 1) := by decide +kernel
theorem dL_law_1273 : decode cL_law 1273 = .ok (.iconst 1, 1) := by decide +kernel
theorem dL_law_1274 : decode cL_law 1274 = .ok (.iadd, 1) := by decide +kernel
theorem dL_law_1275 : decode cL_law 1275 = .ok (.iaload, 1) := by decide +kernel
theorem dL_law_1276 : decode cL_law 1276 = .ok (.aload_n 0, 1) := by decide +kernel
theorem dL_law_1277 : decode cL_law 1277 = .ok (.iload_n 3, 1) := by decide +kernel
theorem dL_law_1278 : decode cL_law 1278 = .ok (.iconst 2, 1) := by decide +kernel
theorem dL_law_1279 : decode cL_law 1279 = .ok (.iadd, 1) := by decide +kernel
theorem dL_law_1280 : decode cL_law 1280 = .ok (.iaload, 1) := by decide +kernel
theorem dL_law_1281 : decode cL_law 1281 = .ok (.aload_n 0, 1) := by decide +kernel
theorem dL_law_1282 : decode cL_law 1282 = .ok (.iload_n 3, 1) := by decide +kernel
theorem dL_law_1283 : decode cL_law 1283 = .ok (.iconst 3, 1) := by decide +kernel
theorem dL_law_1284 : decode cL_law 1284 = .ok (.iadd, 1) := by decide +kernel
theorem dL_law_1285 : decode cL_law 1285 = .ok (.iaload, 1) := by decide +kernel
theorem dL_law_1286 : decode cL_law 1286 = .ok (.invokevirtual 104, 3) := by decide +kernel
theorem dL_law_1289 : decode cL_law 1289 = .ok (.if_icmp .eq 143, 3) := by decide +kernel
theorem dL_law_1292 : decode cL_law 1292 = .ok (.iconst 0, 1) := by decide +kernel
theorem dL_law_1293 : decode cL_law 1293 = .ok (.ireturn, 1) := by decide +kernel
theorem dL_law_1294 : decode cL_law 1294 = .ok (.aload_n 1, 1) := by decide +kernel
theorem dL_law_1295 : decode cL_law 1295 = .ok (.aload_n 0, 1) := by decide +kernel
theorem dL_law_1296 : decode cL_law 1296 = .ok (.iload_n 3, 1) := by decide +kernel
theorem dL_law_1297 : decode cL_law 1297 = .ok (.iconst 1, 1) := by decide +kernel
theorem dL_law_1298 : decode cL_law 1298 = .ok (.iadd, 1) := by decide +kernel
theorem dL_law_1299 : decode cL_law 1299 = .ok (.iaload, 1) := by decide +kernel
theorem dL_law_1300 : decode cL_law 1300 = .ok (.invokevirtual 105, 3) := by decide +kernel
theorem dL_law_1303 : decode cL_law 1303 = .ok (.aload_n 2, 1) := by decide +kernel
theorem dL_law_1304 : decode cL_law 1304 = .ok (.aload_n 0, 1) := by decide +kernel
theorem dL_law_1305 : decode cL_law 1305 = .ok (.iload_n 3, 1) := by decide +kernel
theorem dL_law_1306 : decode cL_law 1306 = .ok (.iconst 1, 1) := by decide +kernel
theorem dL_law_1307 : decode cL_law 1307 = .ok (.iadd, 1) := by decide +kernel
theorem dL_law_1308 : decode cL_law 1308 = .ok (.iaload, 1) := by decide +kernel
theorem dL_law_1309 : decode cL_law 1309 = .ok (.invokevirtual 108, 3) := by decide +kernel
theorem dL_law_1312 : decode cL_law 1312 = .ok (.if_icmp .eq 120, 3) := by decide +kernel
theorem dL_law_1315 : decode cL_law 1315 = .ok (.iconst 0, 1) := by decide +kernel
theorem dL_law_1316 : decode cL_law 1316 = .ok (.ireturn, 1) := by decide +kernel
theorem dL_law_1317 : decode cL_law 1317 = .ok (.aload_n 1, 1) := by decide +kernel
theorem dL_law_1318 : decode cL_law 1318 = .ok (.aload_n 0, 1) := by decide +kernel
theorem dL_law_1319 : decode cL_law 1319 = .ok (.iload_n 3, 1) := by decide +kernel
theorem dL_law_1320 : decode cL_law 1320 = .ok (.iconst 1, 1) := by decide +kernel
theorem dL_law_1321 : decode cL_law 1321 = .ok (.iadd, 1) := by decide +kernel
theorem dL_law_1322 : decode cL_law 1322 = .ok (.iaload, 1) := by decide +kernel
theorem dL_law_1323 : decode cL_law 1323 = .ok (.invokevirtual 109, 3) := by decide +kernel
theorem dL_law_1326 : decode cL_law 1326 = .ok (.aload_n 2, 1) := by decide +kernel
theorem dL_law_1327 : decode cL_law 1327 = .ok (.aload_n 0, 1) := by decide +kernel
theorem dL_law_1328 : decode cL_law 1328 = .ok (.iload_n 3, 1) := by decide +kernel
theorem dL_law_1329 : decode cL_law 1329 = .ok (.iconst 1, 1) := by decide +kernel
theorem dL_law_1330 : decode cL_law 1330 = .ok (.iadd, 1) := by decide +kernel
theorem dL_law_1331 : decode cL_law 1331 = .ok (.iaload, 1) := by decide +kernel
theorem dL_law_1332 : decode cL_law 1332 = .ok (.invokevirtual 112, 3) := by decide +kernel
theorem dL_law_1335 : decode cL_law 1335 = .ok (.if_icmp .eq 97, 3) := by decide +kernel
theorem dL_law_1338 : decode cL_law 1338 = .ok (.iconst 0, 1) := by decide +kernel
theorem dL_law_1339 : decode cL_law 1339 = .ok (.ireturn, 1) := by decide +kernel
theorem dL_law_1340 : decode cL_law 1340 = .ok (.aload_n 1, 1) := by decide +kernel
theorem dL_law_1341 : decode cL_law 1341 = .ok (.aload_n 0, 1) := by decide +kernel
theorem dL_law_1342 : decode cL_law 1342 = .ok (.iload_n 3, 1) := by decide +kernel
theorem dL_law_1343 : decode cL_law 1343 = .ok (.iconst 1, 1) := by decide +kernel
theorem dL_law_1344 : decode cL_law 1344 = .ok (.iadd, 1) := by decide +kernel
theorem dL_law_1345 : decode cL_law 1345 = .ok (.iaload, 1) := by decide +kernel
theorem dL_law_1346 : decode cL_law 1346 = .ok (.invokevirtual 113, 3) := by decide +kernel
theorem dL_law_1349 : decode cL_law 1349 = .ok (.aload_n 2, 1) := by decide +kernel
theorem dL_law_1350 : decode cL_law 1350 = .ok (.aload_n 0, 1) := by decide +kernel
theorem dL_law_1351 : decode cL_law 1351 = .ok (.iload_n 3, 1) := by decide +kernel
theorem dL_law_1352 : decode cL_law 1352 = .ok (.iconst 1, 1) := by decide +kernel
theorem dL_law_1353 : decode cL_law 1353 = .ok (.iadd, 1) := by decide +kernel
theorem dL_law_1354 : decode cL_law 1354 = .ok (.iaload, 1) := by decide +kernel
theorem dL_law_1355 : decode cL_law 1355 = .ok (.invokevirtual 116, 3) := by decide +kernel
theorem dL_law_1358 : decode cL_law 1358 = .ok (.if_icmp .eq 74, 3) := by decide +kernel
theorem dL_law_1361 : decode cL_law 1361 = .ok (.iconst 0, 1) := by decide +kernel
theorem dL_law_1362 : decode cL_law 1362 = .ok (.ireturn, 1) := by decide +kernel
theorem dL_law_1363 : decode cL_law 1363 = .ok (.aload_n 1, 1) := by decide +kernel
theorem dL_law_1364 : decode cL_law 1364 = .ok (.invokevirtual 117, 3) := by decide +kernel
theorem dL_law_1367 : decode cL_law 1367 = .ok (.aload_n 2, 1) := by decide +kernel
theorem dL_law_1368 : decode cL_law 1368 = .ok (.invokevirtual 120, 3) := by decide +kernel
theorem dL_law_1371 : decode cL_law 1371 = .ok (.if_icmp .eq 61, 3) := by decide +kernel
theorem dL_law_1374 : decode cL_law 1374 = .ok (.iconst 0, 1) := by decide +kernel
theorem dL_law_1375 : decode cL_law 1375 = .ok (.ireturn, 1) := by decide +kernel
theorem dL_law_1376 : decode cL_law 1376 = .ok (.aload_n 1, 1) := by decide +kernel
theorem dL_law_1377 : decode cL_law 1377 = .ok (.aload_n 0, 1) := by decide +kernel
theorem dL_law_1378 : decode cL_law 1378 = .ok (.iload_n 3, 1) := by decide +kernel
theorem dL_law_1379 : decode cL_law 1379 = .ok (.iconst 1, 1) := by decide +kernel
theorem dL_law_1380 : decode cL_law 1380 = .ok (.iadd, 1) := by decide +kernel
theorem dL_law_1381 : decode cL_law 1381 = .ok (.iaload, 1) := by decide +kernel
theorem dL_law_1382 : decode cL_law 1382 = .ok (.aload_n 0, 1) := by decide +kernel
theorem dL_law_1383 : decode cL_law 1383 = .ok (.iload_n 3, 1) := by decide +kernel
theorem dL_law_1384 : decode cL_law 1384 = .ok (.iconst 2, 1) := by decide +kernel
theorem dL_law_1385 : decode cL_law 1385 = .ok (.iadd, 1) := by decide +kernel
theorem dL_law_1386 : decode cL_law 1386 = .ok (.iaload, 1) := by decide +kernel
theorem dL_law_1387 : decode cL_law 1387 = .ok (.invokevirtual 121, 3) := by decide +kernel
theorem dL_law_1390 : decode cL_law 1390 = .ok (.aload_n 2, 1) := by decide +kernel
theorem dL_law_1391 : decode cL_law 1391 = .ok (.aload_n 0, 1) := by decide +kernel
theorem dL_law_1392 : decode cL_law 1392 = .ok (.iload_n 3, 1) := by decide +kernel
theorem dL_law_1393 : decode cL_law 1393 = .ok (.iconst 1, 1) := by decide +kernel
theorem dL_law_1394 : decode cL_law 1394 = .ok (.iadd, 1) := by decide +kernel
theorem dL_law_1395 : decode cL_law 1395 = .ok (.iaload, 1) := by decide +kernel
theorem dL_law_1396 : decode cL_law 1396 = .ok (.aload_n 0, 1) := by decide +kernel
theorem dL_law_1397 : decode cL_law 1397 = .ok (.iload_n 3, 1) := by decide +kernel
theorem dL_law_1398 : decode cL_law 1398 = .ok (.iconst 2, 1) := by decide +kernel
theorem dL_law_1399 : decode cL_law 1399 = .ok (.iadd, 1) := by decide +kernel
theorem dL_law_1400 : decode cL_law 1400 = .ok (.iaload, 1) := by decide +kernel
theorem dL_law_1401 : decode cL_law 1401 = .ok (.invokevirtual 124, 3) := by decide +kernel
theorem dL_law_1404 : decode cL_law 1404 = .ok (.if_icmp .eq 28, 3) := by decide +kernel
theorem dL_law_1407 : decode cL_law 1407 = .ok (.iconst 0, 1) := by decide +kernel
theorem dL_law_1408 : decode cL_law 1408 = .ok (.ireturn, 1) := by decide +kernel
theorem dL_law_1409 : decode cL_law 1409 = .ok (.aload_n 1, 1) := by decide +kernel
theorem dL_law_1410 : decode cL_law 1410 = .ok (.aload_n 0, 1) := by decide +kernel
theorem dL_law_1411 : decode cL_law 1411 = .ok (.iload_n 3, 1) := by decide +kernel
theorem dL_law_1412 : decode cL_law 1412 = .ok (.iconst 1, 1) := by decide +kernel
theorem dL_law_1413 : decode cL_law 1413 = .ok (.iadd, 1) := by decide +kernel
theorem dL_law_1414 : decode cL_law 1414 = .ok (.iaload, 1) := by decide +kernel
theorem dL_law_1415 : decode cL_law 1415 = .ok (.invokevirtual 125, 3) := by decide +kernel
theorem dL_law_1418 : decode cL_law 1418 = .ok (.aload_n 2, 1) := by decide +kernel
theorem dL_law_1419 : decode cL_law 1419 = .ok (.aload_n 0, 1) := by decide +kernel
theorem dL_law_1420 : decode cL_law 1420 = .ok (.iload_n 3, 1) := by decide +kernel
theorem dL_law_1421 : decode cL_law 1421 = .ok (.iconst 1, 1) := by decide +kernel
theorem dL_law_1422 : decode cL_law 1422 = .ok (.iadd, 1) := by decide +kernel
theorem dL_law_1423 : decode cL_law 1423 = .ok (.iaload, 1) := by decide +kernel
theorem dL_law_1424 : decode cL_law 1424 = .ok (.invokevirtual 128, 3) := by decide +kernel
theorem dL_law_1427 : decode cL_law 1427 = .ok (.if_icmp .eq 5, 3) := by decide +kernel
theorem dL_law_1430 : decode cL_law 1430 = .ok (.iconst 0, 1) := by decide +kernel
theorem dL_law_1431 : decode cL_law 1431 = .ok (.ireturn, 1) := by decide +kernel
theorem dL_law_1432 : decode cL_law 1432 = .ok (.iinc 3 7, 3) := by decide +kernel
theorem dL_law_1435 : decode cL_law 1435 = .ok (.goto (-1417), 3) := by decide +kernel
theorem dL_law_1438 : decode cL_law 1438 = .ok (.iconst 1, 1) := by decide +kernel
theorem dL_law_1439 : decode cL_law 1439 = .ok (.ireturn, 1) := by decide +kernel
abbrev vwCl : List vw_C := [(RX0, TX0, 5), (RX1, TX1, 11), (RX2, TX2, 7), (RX3, TX3, 5), (RX4, TX4, 4), (RX5, TX5, 5), (RX6, TX6, 26)]
end
