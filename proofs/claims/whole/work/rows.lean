section
-- ===== PART A: goes FIRST, ahead of the names: the tables' words, and 'selects' of the private methods out of them =====
/-- a private method of a class that the tables say can be made, by its rows of tables_1 -/
def lw_okq (q : MethodName × Nat) : Prop := (q.1.cls ≠ "java/lang/invoke/MethodHandle" ∧ q.1.cls ≠ "java/lang/invoke/VarHandle") ∧ Cond.instantiable q.1.cls q.2 ∈ tables_1 ∧ Cond.privateMethod q.1 ∈ tables_1 ∧ Cond.instanceMethod q.1 ∈ tables_1
theorem lw_p0 : lw_okq (⟨"HuskYard$Nets", "rateAt", "(I)I"⟩, 11) := ⟨⟨by decide +kernel, by decide +kernel⟩, List.mem_of_getElem? (i := 19) (by decide +kernel), List.mem_of_getElem? (i := 230) (by decide +kernel), List.mem_of_getElem? (i := 231) (by decide +kernel)⟩
theorem lw_p1 : lw_okq (⟨"HuskYard$Nets", "isNet", "(I)Z"⟩, 11) := ⟨⟨by decide +kernel, by decide +kernel⟩, List.mem_of_getElem? (i := 19) (by decide +kernel), List.mem_of_getElem? (i := 242) (by decide +kernel), List.mem_of_getElem? (i := 243) (by decide +kernel)⟩
theorem lw_p2 : lw_okq (⟨"HuskYard$Nets", "isRipe", "(I)Z"⟩, 11) := ⟨⟨by decide +kernel, by decide +kernel⟩, List.mem_of_getElem? (i := 19) (by decide +kernel), List.mem_of_getElem? (i := 246) (by decide +kernel), List.mem_of_getElem? (i := 247) (by decide +kernel)⟩
theorem lw_p3 : lw_okq (⟨"HuskYard$Finds", "hasWay", "(I)Z"⟩, 3) := ⟨⟨by decide +kernel, by decide +kernel⟩, List.mem_of_getElem? (i := 60) (by decide +kernel), List.mem_of_getElem? (i := 271) (by decide +kernel), List.mem_of_getElem? (i := 272) (by decide +kernel)⟩
theorem lw_p4 : lw_okq (⟨"HuskYard$Finds", "fittedBy", "(I)I"⟩, 3) := ⟨⟨by decide +kernel, by decide +kernel⟩, List.mem_of_getElem? (i := 60) (by decide +kernel), List.mem_of_getElem? (i := 275) (by decide +kernel), List.mem_of_getElem? (i := 276) (by decide +kernel)⟩
theorem lw_p5 : lw_okq (⟨"HuskYard$Finds", "reachable", "(I)I"⟩, 3) := ⟨⟨by decide +kernel, by decide +kernel⟩, List.mem_of_getElem? (i := 60) (by decide +kernel), List.mem_of_getElem? (i := 285) (by decide +kernel), List.mem_of_getElem? (i := 286) (by decide +kernel)⟩
theorem lw_p6 : lw_okq (⟨"HuskYard", "bringBackTheSure", "()V"⟩, 5) := ⟨⟨by decide +kernel, by decide +kernel⟩, List.mem_of_getElem? (i := 11) (by decide +kernel), List.mem_of_getElem? (i := 296) (by decide +kernel), List.mem_of_getElem? (i := 297) (by decide +kernel)⟩
theorem lw_p7 : lw_okq (⟨"HuskYard$Finds", "isFind", "(I)Z"⟩, 3) := ⟨⟨by decide +kernel, by decide +kernel⟩, List.mem_of_getElem? (i := 60) (by decide +kernel), List.mem_of_getElem? (i := 308) (by decide +kernel), List.mem_of_getElem? (i := 309) (by decide +kernel)⟩
theorem lw_p8 : lw_okq (⟨"HuskYard$Nets", "weeksToRipe", "(I)I"⟩, 11) := ⟨⟨by decide +kernel, by decide +kernel⟩, List.mem_of_getElem? (i := 19) (by decide +kernel), List.mem_of_getElem? (i := 337) (by decide +kernel), List.mem_of_getElem? (i := 338) (by decide +kernel)⟩
theorem lw_p9 : lw_okq (⟨"HuskYard$SpinYard", "plan", "()V"⟩, 10) := ⟨⟨by decide +kernel, by decide +kernel⟩, List.mem_of_getElem? (i := 76) (by decide +kernel), List.mem_of_getElem? (i := 366) (by decide +kernel), List.mem_of_getElem? (i := 367) (by decide +kernel)⟩
theorem lw_p10 : lw_okq (⟨"HuskYard$SpinYard", "tryPlace", "(IIIII)V"⟩, 10) := ⟨⟨by decide +kernel, by decide +kernel⟩, List.mem_of_getElem? (i := 76) (by decide +kernel), List.mem_of_getElem? (i := 371) (by decide +kernel), List.mem_of_getElem? (i := 372) (by decide +kernel)⟩
theorem lw_p11 : lw_okq (⟨"HuskYard$SpinYard", "keepRow", "(I)V"⟩, 10) := ⟨⟨by decide +kernel, by decide +kernel⟩, List.mem_of_getElem? (i := 76) (by decide +kernel), List.mem_of_getElem? (i := 375) (by decide +kernel), List.mem_of_getElem? (i := 376) (by decide +kernel)⟩
theorem lw_p12 : lw_okq (⟨"HuskYard$SpinYard", "tryRest", "(IIIII)V"⟩, 10) := ⟨⟨by decide +kernel, by decide +kernel⟩, List.mem_of_getElem? (i := 76) (by decide +kernel), List.mem_of_getElem? (i := 379) (by decide +kernel), List.mem_of_getElem? (i := 380) (by decide +kernel)⟩
theorem lw_p13 : lw_okq (⟨"HuskYard$SpinYard", "endOf", "(III)I"⟩, 10) := ⟨⟨by decide +kernel, by decide +kernel⟩, List.mem_of_getElem? (i := 76) (by decide +kernel), List.mem_of_getElem? (i := 383) (by decide +kernel), List.mem_of_getElem? (i := 384) (by decide +kernel)⟩
theorem lw_p14 : lw_okq (⟨"HuskYard$MatRoom", "lay", "()V"⟩, 12) := ⟨⟨by decide +kernel, by decide +kernel⟩, List.mem_of_getElem? (i := 113) (by decide +kernel), List.mem_of_getElem? (i := 435) (by decide +kernel), List.mem_of_getElem? (i := 436) (by decide +kernel)⟩
theorem lw_p15 : lw_okq (⟨"HuskYard$MatRoom", "measureSets", "()V"⟩, 12) := ⟨⟨by decide +kernel, by decide +kernel⟩, List.mem_of_getElem? (i := 113) (by decide +kernel), List.mem_of_getElem? (i := 439) (by decide +kernel), List.mem_of_getElem? (i := 440) (by decide +kernel)⟩
def lw_privs_1 : List (MethodName × Nat) := [(⟨"HuskYard$Nets", "rateAt", "(I)I"⟩, 11), (⟨"HuskYard$Nets", "isNet", "(I)Z"⟩, 11), (⟨"HuskYard$Nets", "isRipe", "(I)Z"⟩, 11), (⟨"HuskYard$Finds", "hasWay", "(I)Z"⟩, 3), (⟨"HuskYard$Finds", "fittedBy", "(I)I"⟩, 3), (⟨"HuskYard$Finds", "reachable", "(I)I"⟩, 3), (⟨"HuskYard", "bringBackTheSure", "()V"⟩, 5), (⟨"HuskYard$Finds", "isFind", "(I)Z"⟩, 3), (⟨"HuskYard$Nets", "weeksToRipe", "(I)I"⟩, 11), (⟨"HuskYard$SpinYard", "plan", "()V"⟩, 10), (⟨"HuskYard$SpinYard", "tryPlace", "(IIIII)V"⟩, 10), (⟨"HuskYard$SpinYard", "keepRow", "(I)V"⟩, 10), (⟨"HuskYard$SpinYard", "tryRest", "(IIIII)V"⟩, 10), (⟨"HuskYard$SpinYard", "endOf", "(III)I"⟩, 10), (⟨"HuskYard$MatRoom", "lay", "()V"⟩, 12), (⟨"HuskYard$MatRoom", "measureSets", "()V"⟩, 12)]
theorem lw_r1 : ∀ q ∈ lw_privs_1, lw_okq q := List.forall_mem_cons.mpr ⟨lw_p0, List.forall_mem_cons.mpr ⟨lw_p1, List.forall_mem_cons.mpr ⟨lw_p2, List.forall_mem_cons.mpr ⟨lw_p3, List.forall_mem_cons.mpr ⟨lw_p4, List.forall_mem_cons.mpr ⟨lw_p5, List.forall_mem_cons.mpr ⟨lw_p6, List.forall_mem_cons.mpr ⟨lw_p7, List.forall_mem_cons.mpr ⟨lw_p8, List.forall_mem_cons.mpr ⟨lw_p9, List.forall_mem_cons.mpr ⟨lw_p10, List.forall_mem_cons.mpr ⟨lw_p11, List.forall_mem_cons.mpr ⟨lw_p12, List.forall_mem_cons.mpr ⟨lw_p13, List.forall_mem_cons.mpr ⟨lw_p14, List.forall_mem_cons.mpr ⟨lw_p15, fun _ h => absurd h List.not_mem_nil⟩⟩⟩⟩⟩⟩⟩⟩⟩⟩⟩⟩⟩⟩⟩⟩
theorem lw_p16 : lw_okq (⟨"HuskYard$MatRoom", "leastWith", "(I)I"⟩, 12) := ⟨⟨by decide +kernel, by decide +kernel⟩, List.mem_of_getElem? (i := 113) (by decide +kernel), List.mem_of_getElem? (i := 443) (by decide +kernel), List.mem_of_getElem? (i := 444) (by decide +kernel)⟩
theorem lw_p17 : lw_okq (⟨"HuskYard$MatRoom", "usedOf", "(II)I"⟩, 12) := ⟨⟨by decide +kernel, by decide +kernel⟩, List.mem_of_getElem? (i := 113) (by decide +kernel), List.mem_of_getElem? (i := 447) (by decide +kernel), List.mem_of_getElem? (i := 448) (by decide +kernel)⟩
theorem lw_p18 : lw_okq (⟨"HuskYard$MatRoom", "packLot", "(II)V"⟩, 12) := ⟨⟨by decide +kernel, by decide +kernel⟩, List.mem_of_getElem? (i := 113) (by decide +kernel), List.mem_of_getElem? (i := 452) (by decide +kernel), List.mem_of_getElem? (i := 453) (by decide +kernel)⟩
theorem lw_p19 : lw_okq (⟨"HuskYard$MatRoom", "packRoll", "(IIII)V"⟩, 12) := ⟨⟨by decide +kernel, by decide +kernel⟩, List.mem_of_getElem? (i := 113) (by decide +kernel), List.mem_of_getElem? (i := 456) (by decide +kernel), List.mem_of_getElem? (i := 457) (by decide +kernel)⟩
theorem lw_p20 : lw_okq (⟨"HuskYard$MatRoom", "joinLot", "(II)V"⟩, 12) := ⟨⟨by decide +kernel, by decide +kernel⟩, List.mem_of_getElem? (i := 113) (by decide +kernel), List.mem_of_getElem? (i := 460) (by decide +kernel), List.mem_of_getElem? (i := 461) (by decide +kernel)⟩
theorem lw_p21 : lw_okq (⟨"HuskYard$MatRoom", "cutsToLay", "(III)I"⟩, 12) := ⟨⟨by decide +kernel, by decide +kernel⟩, List.mem_of_getElem? (i := 113) (by decide +kernel), List.mem_of_getElem? (i := 464) (by decide +kernel), List.mem_of_getElem? (i := 465) (by decide +kernel)⟩
theorem lw_p22 : lw_okq (⟨"HuskYard$MatRoom", "layOnLowestRoll", "(I)V"⟩, 12) := ⟨⟨by decide +kernel, by decide +kernel⟩, List.mem_of_getElem? (i := 113) (by decide +kernel), List.mem_of_getElem? (i := 471) (by decide +kernel), List.mem_of_getElem? (i := 472) (by decide +kernel)⟩
theorem lw_p23 : lw_okq (⟨"HuskYard$Scale", "greatestWeight", "(I)I"⟩, 3) := ⟨⟨by decide +kernel, by decide +kernel⟩, List.mem_of_getElem? (i := 156) (by decide +kernel), List.mem_of_getElem? (i := 519) (by decide +kernel), List.mem_of_getElem? (i := 520) (by decide +kernel)⟩
theorem lw_p24 : lw_okq (⟨"HuskYard$Scale", "leastWeight", "(I)I"⟩, 3) := ⟨⟨by decide +kernel, by decide +kernel⟩, List.mem_of_getElem? (i := 156) (by decide +kernel), List.mem_of_getElem? (i := 530) (by decide +kernel), List.mem_of_getElem? (i := 531) (by decide +kernel)⟩
theorem lw_p25 : lw_okq (⟨"HuskYardModel", "isNet", "(I)Z"⟩, 36) := ⟨⟨by decide +kernel, by decide +kernel⟩, List.mem_of_getElem? (i := 570) (by decide +kernel), List.mem_of_getElem? (i := 709) (by decide +kernel), List.mem_of_getElem? (i := 710) (by decide +kernel)⟩
theorem lw_p26 : lw_okq (⟨"HuskYardModel", "stateOf", "(I)I"⟩, 36) := ⟨⟨by decide +kernel, by decide +kernel⟩, List.mem_of_getElem? (i := 570) (by decide +kernel), List.mem_of_getElem? (i := 713) (by decide +kernel), List.mem_of_getElem? (i := 714) (by decide +kernel)⟩
theorem lw_p27 : lw_okq (⟨"HuskYardModel", "findOf", "(I)I"⟩, 36) := ⟨⟨by decide +kernel, by decide +kernel⟩, List.mem_of_getElem? (i := 570) (by decide +kernel), List.mem_of_getElem? (i := 717) (by decide +kernel), List.mem_of_getElem? (i := 718) (by decide +kernel)⟩
theorem lw_p28 : lw_okq (⟨"HuskYardModel", "knows", "()V"⟩, 36) := ⟨⟨by decide +kernel, by decide +kernel⟩, List.mem_of_getElem? (i := 570) (by decide +kernel), List.mem_of_getElem? (i := 721) (by decide +kernel), List.mem_of_getElem? (i := 722) (by decide +kernel)⟩
theorem lw_p29 : lw_okq (⟨"HuskYardModel", "fits", "(II)Z"⟩, 36) := ⟨⟨by decide +kernel, by decide +kernel⟩, List.mem_of_getElem? (i := 570) (by decide +kernel), List.mem_of_getElem? (i := 725) (by decide +kernel), List.mem_of_getElem? (i := 726) (by decide +kernel)⟩
theorem lw_p30 : lw_okq (⟨"HuskYardModel", "isWay", "(II)Z"⟩, 36) := ⟨⟨by decide +kernel, by decide +kernel⟩, List.mem_of_getElem? (i := 570) (by decide +kernel), List.mem_of_getElem? (i := 729) (by decide +kernel), List.mem_of_getElem? (i := 730) (by decide +kernel)⟩
theorem lw_p31 : lw_okq (⟨"HuskYardModel", "isRipe", "(I)Z"⟩, 36) := ⟨⟨by decide +kernel, by decide +kernel⟩, List.mem_of_getElem? (i := 570) (by decide +kernel), List.mem_of_getElem? (i := 733) (by decide +kernel), List.mem_of_getElem? (i := 734) (by decide +kernel)⟩
def lw_privs_2 : List (MethodName × Nat) := [(⟨"HuskYard$MatRoom", "leastWith", "(I)I"⟩, 12), (⟨"HuskYard$MatRoom", "usedOf", "(II)I"⟩, 12), (⟨"HuskYard$MatRoom", "packLot", "(II)V"⟩, 12), (⟨"HuskYard$MatRoom", "packRoll", "(IIII)V"⟩, 12), (⟨"HuskYard$MatRoom", "joinLot", "(II)V"⟩, 12), (⟨"HuskYard$MatRoom", "cutsToLay", "(III)I"⟩, 12), (⟨"HuskYard$MatRoom", "layOnLowestRoll", "(I)V"⟩, 12), (⟨"HuskYard$Scale", "greatestWeight", "(I)I"⟩, 3), (⟨"HuskYard$Scale", "leastWeight", "(I)I"⟩, 3), (⟨"HuskYardModel", "isNet", "(I)Z"⟩, 36), (⟨"HuskYardModel", "stateOf", "(I)I"⟩, 36), (⟨"HuskYardModel", "findOf", "(I)I"⟩, 36), (⟨"HuskYardModel", "knows", "()V"⟩, 36), (⟨"HuskYardModel", "fits", "(II)Z"⟩, 36), (⟨"HuskYardModel", "isWay", "(II)Z"⟩, 36), (⟨"HuskYardModel", "isRipe", "(I)Z"⟩, 36)]
theorem lw_r2 : ∀ q ∈ lw_privs_2, lw_okq q := List.forall_mem_cons.mpr ⟨lw_p16, List.forall_mem_cons.mpr ⟨lw_p17, List.forall_mem_cons.mpr ⟨lw_p18, List.forall_mem_cons.mpr ⟨lw_p19, List.forall_mem_cons.mpr ⟨lw_p20, List.forall_mem_cons.mpr ⟨lw_p21, List.forall_mem_cons.mpr ⟨lw_p22, List.forall_mem_cons.mpr ⟨lw_p23, List.forall_mem_cons.mpr ⟨lw_p24, List.forall_mem_cons.mpr ⟨lw_p25, List.forall_mem_cons.mpr ⟨lw_p26, List.forall_mem_cons.mpr ⟨lw_p27, List.forall_mem_cons.mpr ⟨lw_p28, List.forall_mem_cons.mpr ⟨lw_p29, List.forall_mem_cons.mpr ⟨lw_p30, List.forall_mem_cons.mpr ⟨lw_p31, fun _ h => absurd h List.not_mem_nil⟩⟩⟩⟩⟩⟩⟩⟩⟩⟩⟩⟩⟩⟩⟩⟩
theorem lw_p32 : lw_okq (⟨"HuskYardModel", "weeksLeft", "(I)I"⟩, 36) := ⟨⟨by decide +kernel, by decide +kernel⟩, List.mem_of_getElem? (i := 570) (by decide +kernel), List.mem_of_getElem? (i := 753) (by decide +kernel), List.mem_of_getElem? (i := 754) (by decide +kernel)⟩
theorem lw_p33 : lw_okq (⟨"HuskYardModel", "spins", "()I"⟩, 36) := ⟨⟨by decide +kernel, by decide +kernel⟩, List.mem_of_getElem? (i := 570) (by decide +kernel), List.mem_of_getElem? (i := 769) (by decide +kernel), List.mem_of_getElem? (i := 770) (by decide +kernel)⟩
theorem lw_p34 : lw_okq (⟨"HuskYardModel", "endOf", "(IZ)I"⟩, 36) := ⟨⟨by decide +kernel, by decide +kernel⟩, List.mem_of_getElem? (i := 570) (by decide +kernel), List.mem_of_getElem? (i := 774) (by decide +kernel), List.mem_of_getElem? (i := 775) (by decide +kernel)⟩
theorem lw_p35 : lw_okq (⟨"HuskYardModel", "nextRow", "()Z"⟩, 36) := ⟨⟨by decide +kernel, by decide +kernel⟩, List.mem_of_getElem? (i := 570) (by decide +kernel), List.mem_of_getElem? (i := 778) (by decide +kernel), List.mem_of_getElem? (i := 779) (by decide +kernel)⟩
theorem lw_p36 : lw_okq (⟨"HuskYardModel", "swaps", "(II)V"⟩, 36) := ⟨⟨by decide +kernel, by decide +kernel⟩, List.mem_of_getElem? (i := 570) (by decide +kernel), List.mem_of_getElem? (i := 782) (by decide +kernel), List.mem_of_getElem? (i := 783) (by decide +kernel)⟩
theorem lw_p37 : lw_okq (⟨"HuskYardModel", "lays", "()I"⟩, 36) := ⟨⟨by decide +kernel, by decide +kernel⟩, List.mem_of_getElem? (i := 570) (by decide +kernel), List.mem_of_getElem? (i := 806) (by decide +kernel), List.mem_of_getElem? (i := 807) (by decide +kernel)⟩
theorem lw_p38 : lw_okq (⟨"HuskYardModel", "openedBy", "(I)I"⟩, 36) := ⟨⟨by decide +kernel, by decide +kernel⟩, List.mem_of_getElem? (i := 570) (by decide +kernel), List.mem_of_getElem? (i := 810) (by decide +kernel), List.mem_of_getElem? (i := 811) (by decide +kernel)⟩
theorem lw_p39 : lw_okq (⟨"HuskYardModel", "cutOf", "(II)I"⟩, 36) := ⟨⟨by decide +kernel, by decide +kernel⟩, List.mem_of_getElem? (i := 570) (by decide +kernel), List.mem_of_getElem? (i := 814) (by decide +kernel), List.mem_of_getElem? (i := 815) (by decide +kernel)⟩
theorem lw_p40 : lw_okq (⟨"HuskYardModel", "mayLie", "(I)Z"⟩, 36) := ⟨⟨by decide +kernel, by decide +kernel⟩, List.mem_of_getElem? (i := 570) (by decide +kernel), List.mem_of_getElem? (i := 818) (by decide +kernel), List.mem_of_getElem? (i := 819) (by decide +kernel)⟩
def lw_privs_3 : List (MethodName × Nat) := [(⟨"HuskYardModel", "weeksLeft", "(I)I"⟩, 36), (⟨"HuskYardModel", "spins", "()I"⟩, 36), (⟨"HuskYardModel", "endOf", "(IZ)I"⟩, 36), (⟨"HuskYardModel", "nextRow", "()Z"⟩, 36), (⟨"HuskYardModel", "swaps", "(II)V"⟩, 36), (⟨"HuskYardModel", "lays", "()I"⟩, 36), (⟨"HuskYardModel", "openedBy", "(I)I"⟩, 36), (⟨"HuskYardModel", "cutOf", "(II)I"⟩, 36), (⟨"HuskYardModel", "mayLie", "(I)Z"⟩, 36)]
theorem lw_r3 : ∀ q ∈ lw_privs_3, lw_okq q := List.forall_mem_cons.mpr ⟨lw_p32, List.forall_mem_cons.mpr ⟨lw_p33, List.forall_mem_cons.mpr ⟨lw_p34, List.forall_mem_cons.mpr ⟨lw_p35, List.forall_mem_cons.mpr ⟨lw_p36, List.forall_mem_cons.mpr ⟨lw_p37, List.forall_mem_cons.mpr ⟨lw_p38, List.forall_mem_cons.mpr ⟨lw_p39, List.forall_mem_cons.mpr ⟨lw_p40, fun _ h => absurd h List.not_mem_nil⟩⟩⟩⟩⟩⟩⟩⟩⟩
def lw_privs : List (MethodName × Nat) := lw_privs_1 ++ (lw_privs_2 ++ (lw_privs_3))
def lw_tbl : List Cond := k2_sels lw_privs ++ tables_1
theorem lw_privs_ok : ∀ q ∈ lw_privs, lw_okq q := by
  show ∀ q ∈ lw_privs_1 ++ (lw_privs_2 ++ (lw_privs_3)), lw_okq q
  exact List.forall_mem_append.mpr ⟨lw_r1, List.forall_mem_append.mpr ⟨lw_r2, lw_r3⟩⟩
-- ===== end of PART A; then your names; then what follows =====
end
section
/-! ===== BEGIN words of one list among another's, by their places ===== -/
theorem goodIn_r {big : List Cond} (ws : List Cond) (ps : List Nat) (hp : ws = ps.filterMap (fun i => big[i]?)) (h : ws.all goodWord = true) : GoodIn big ws := by
  intro w hw
  have h1 := List.all_eq_true.mp h w hw
  rw [hp] at hw
  obtain ⟨i, -, hi⟩ := List.mem_filterMap.mp hw
  have hm : w ∈ big := by first | exact List.mem_of_getElem? hi | exact List.getElem?_mem hi
  exact ⟨hm, good_of_word h1⟩
theorem goodIn_app {big a b : List Cond} (ha : GoodIn big a) (hb : GoodIn big b) : GoodIn big (a ++ b) := fun w h => (List.mem_append.mp h).elim (ha w) (hb w)
theorem goodIn_ca {big a b : List Cond} {c : Cond} (ha : GoodIn big (c :: a)) (hb : GoodIn big b) : GoodIn big (c :: (a ++ b)) := fun w h => (List.mem_cons.mp h).elim (fun e => ha w (List.mem_cons.mpr (Or.inl e))) (fun h => (List.mem_append.mp h).elim (fun h => ha w (List.mem_cons.mpr (Or.inr h))) (hb w))
theorem goodIn_sub {big ws : List Cond} (hm : ∀ w ∈ ws, w ∈ big) (h : ws.all goodWord = true) : GoodIn big ws := fun w hw => ⟨hm w hw, good_of_word (List.all_eq_true.mp h w hw)⟩
/-! ===== END ===== -/

/-! ===== BEGIN printed: names, fields, word lists, decode rows ===== -/
def RX0 : String := "HuskYard$Finds"
def TX0 : u_T := fun k => match k with
  | 0 => ("HuskYard$Finds", "fits", "[I", true)
  | 1 => ("HuskYard$Finds", "sureNets", "[I", true)
  | _ => ("HuskYard$Finds", "count", "I", false)
def tyX0 : Nat → FieldType := fun k => match k with
  | 0 => .array .int
  | 1 => .array .int
  | _ => .int
abbrev wsX00 : List Cond := u_ws RX0 TX0 3
theorem nmX0 : ∀ a, a < 3 → ∀ b, b < 3 → a ≠ b → (TX0 a).2.1 ≠ (TX0 b).2.1 := by decide +kernel
theorem tyX0_ok : ∀ k, k < 3 → parseFieldDescriptor (TX0 k).2.2.1 = some (tyX0 k) := by decide +kernel
abbrev cX0_init : ByteArray := prog_2_method_1_code
def yX0_init : MethodName := ⟨RX0, "<init>", "()V"⟩
abbrev cX0_count : ByteArray := prog_2_method_2_code
def yX0_count : MethodName := ⟨RX0, "count", "()I"⟩
abbrev cX0_tell : ByteArray := prog_2_method_3_code
def yX0_tell : MethodName := ⟨RX0, "tell", "(I)I"⟩
abbrev cX0_howManyFit : ByteArray := prog_2_method_4_code
def yX0_howManyFit : MethodName := ⟨RX0, "howManyFit", "(I)I"⟩
abbrev cX0_sureNet : ByteArray := prog_2_method_5_code
def yX0_sureNet : MethodName := ⟨RX0, "sureNet", "(I)I"⟩
abbrev cX0_sureFind : ByteArray := prog_2_method_6_code
def yX0_sureFind : MethodName := ⟨RX0, "sureFind", "(I)I"⟩
abbrev cX0_hasWay : ByteArray := prog_2_method_7_code
def yX0_hasWay : MethodName := ⟨RX0, "hasWay", "(I)Z"⟩
abbrev cX0_reachable : ByteArray := prog_2_method_8_code
def yX0_reachable : MethodName := ⟨RX0, "reachable", "(I)I"⟩
abbrev cX0_fittedBy : ByteArray := prog_2_method_9_code
def yX0_fittedBy : MethodName := ⟨RX0, "fittedBy", "(I)I"⟩
abbrev cX0_onlyOne : ByteArray := prog_2_method_10_code
def yX0_onlyOne : MethodName := ⟨RX0, "onlyOne", "(I)I"⟩
abbrev cX0_isFind : ByteArray := prog_2_method_11_code
def yX0_isFind : MethodName := ⟨RX0, "isFind", "(I)Z"⟩
def RX1 : String := "HuskYard$MatRoom"
def TX1 : u_T := fun k => match k with
  | 0 => ("HuskYard$MatRoom", "rollLengths", "[I", true)
  | 1 => ("HuskYard$MatRoom", "rollLots", "[I", true)
  | 2 => ("HuskYard$MatRoom", "cutLengths", "[I", true)
  | 3 => ("HuskYard$MatRoom", "cutMats", "[I", true)
  | 4 => ("HuskYard$MatRoom", "rollOf", "[I", true)
  | 5 => ("HuskYard$MatRoom", "lengthOfSet", "[I", true)
  | 6 => ("HuskYard$MatRoom", "packed", "[I", true)
  | 7 => ("HuskYard$MatRoom", "joined", "[I", true)
  | 8 => ("HuskYard$MatRoom", "rolls", "I", false)
  | 9 => ("HuskYard$MatRoom", "cuts", "I", false)
  | 10 => ("HuskYard$MatRoom", "least", "I", false)
  | _ => ("HuskYard$MatRoom", "laid", "Z", false)
def tyX1 : Nat → FieldType := fun k => match k with
  | 0 => .array .int
  | 1 => .array .int
  | 2 => .array .int
  | 3 => .array .int
  | 4 => .array .int
  | 5 => .array .int
  | 6 => .array .int
  | 7 => .array .int
  | 8 => .int
  | 9 => .int
  | 10 => .int
  | _ => .boolean
abbrev wsX10 : List Cond := u_ws RX1 TX1 12
theorem nmX1 : ∀ a, a < 12 → ∀ b, b < 12 → a ≠ b → (TX1 a).2.1 ≠ (TX1 b).2.1 := by decide +kernel
theorem tyX1_ok : ∀ k, k < 12 → parseFieldDescriptor (TX1 k).2.2.1 = some (tyX1 k) := by decide +kernel
abbrev cX1_init : ByteArray := prog_3_method_1_code
def yX1_init : MethodName := ⟨RX1, "<init>", "()V"⟩
abbrev cX1_rollCount : ByteArray := prog_3_method_2_code
def yX1_rollCount : MethodName := ⟨RX1, "rollCount", "()I"⟩
abbrev cX1_cutCount : ByteArray := prog_3_method_3_code
def yX1_cutCount : MethodName := ⟨RX1, "cutCount", "()I"⟩
abbrev cX1_addRoll : ByteArray := prog_3_method_4_code
def yX1_addRoll : MethodName := ⟨RX1, "addRoll", "(II)I"⟩
abbrev cX1_addCut : ByteArray := prog_3_method_5_code
def yX1_addCut : MethodName := ⟨RX1, "addCut", "(II)I"⟩
abbrev cX1_dropAll : ByteArray := prog_3_method_6_code
def yX1_dropAll : MethodName := ⟨RX1, "dropAll", "()I"⟩
abbrev cX1_leastOpened : ByteArray := prog_3_method_7_code
def yX1_leastOpened : MethodName := ⟨RX1, "leastOpened", "()I"⟩
abbrev cX1_rollUnder : ByteArray := prog_3_method_8_code
def yX1_rollUnder : MethodName := ⟨RX1, "rollUnder", "(I)I"⟩
abbrev cX1_lay : ByteArray := prog_3_method_9_code
def yX1_lay : MethodName := ⟨RX1, "lay", "()V"⟩
abbrev cX1_measureSets : ByteArray := prog_3_method_10_code
def yX1_measureSets : MethodName := ⟨RX1, "measureSets", "()V"⟩
abbrev cX1_layOnLowestRoll : ByteArray := prog_3_method_11_code
def yX1_layOnLowestRoll : MethodName := ⟨RX1, "layOnLowestRoll", "(I)V"⟩
abbrev cX1_leastWith : ByteArray := prog_3_method_12_code
def yX1_leastWith : MethodName := ⟨RX1, "leastWith", "(I)I"⟩
abbrev cX1_usedOf : ByteArray := prog_3_method_13_code
def yX1_usedOf : MethodName := ⟨RX1, "usedOf", "(II)I"⟩
abbrev cX1_packLot : ByteArray := prog_3_method_14_code
def yX1_packLot : MethodName := ⟨RX1, "packLot", "(II)V"⟩
abbrev cX1_packRoll : ByteArray := prog_3_method_15_code
def yX1_packRoll : MethodName := ⟨RX1, "packRoll", "(IIII)V"⟩
abbrev cX1_joinLot : ByteArray := prog_3_method_16_code
def yX1_joinLot : MethodName := ⟨RX1, "joinLot", "(II)V"⟩
abbrev cX1_cutsToLay : ByteArray := prog_3_method_17_code
def yX1_cutsToLay : MethodName := ⟨RX1, "cutsToLay", "(III)I"⟩
def RX2 : String := "HuskYard$Nets"
def TX2 : u_T := fun k => match k with
  | 0 => ("HuskYard$Nets", "salts", "[I", true)
  | 1 => ("HuskYard$Nets", "rates", "[I", true)
  | 2 => ("HuskYard$Nets", "pits", "[I", true)
  | 3 => ("HuskYard$Nets", "marks", "[I", true)
  | 4 => ("HuskYard$Nets", "husks", "[I", true)
  | 5 => ("HuskYard$Nets", "ages", "[I", true)
  | 6 => ("HuskYard$Nets", "points", "[I", true)
  | 7 => ("HuskYard$Nets", "states", "[I", true)
  | 8 => ("HuskYard$Nets", "count", "I", false)
  | 9 => ("HuskYard$Nets", "week", "I", false)
  | _ => ("HuskYard$Nets", "ripeHusks", "I", false)
def tyX2 : Nat → FieldType := fun k => match k with
  | 0 => .array .int
  | 1 => .array .int
  | 2 => .array .int
  | 3 => .array .int
  | 4 => .array .int
  | 5 => .array .int
  | 6 => .array .int
  | 7 => .array .int
  | 8 => .int
  | 9 => .int
  | _ => .int
abbrev wsX20 : List Cond := u_ws RX2 TX2 11
theorem nmX2 : ∀ a, a < 11 → ∀ b, b < 11 → a ≠ b → (TX2 a).2.1 ≠ (TX2 b).2.1 := by decide +kernel
theorem tyX2_ok : ∀ k, k < 11 → parseFieldDescriptor (TX2 k).2.2.1 = some (tyX2 k) := by decide +kernel
abbrev cX2_init : ByteArray := prog_4_method_1_code
def yX2_init : MethodName := ⟨RX2, "<init>", "()V"⟩
abbrev cX2_count : ByteArray := prog_4_method_2_code
def yX2_count : MethodName := ⟨RX2, "count", "()I"⟩
abbrev cX2_clock : ByteArray := prog_4_method_3_code
def yX2_clock : MethodName := ⟨RX2, "clock", "()I"⟩
abbrev cX2_huskTotal : ByteArray := prog_4_method_4_code
def yX2_huskTotal : MethodName := ⟨RX2, "huskTotal", "()I"⟩
abbrev cX2_setSalt : ByteArray := prog_4_method_5_code
def yX2_setSalt : MethodName := ⟨RX2, "setSalt", "(II)Z"⟩
abbrev cX2_setRipens : ByteArray := prog_4_method_6_code
def yX2_setRipens : MethodName := ⟨RX2, "setRipens", "(II)Z"⟩
abbrev cX2_putIn : ByteArray := prog_4_method_7_code
def yX2_putIn : MethodName := ⟨RX2, "putIn", "(IIII)I"⟩
abbrev cX2_goBy : ByteArray := prog_4_method_8_code
def yX2_goBy : MethodName := ⟨RX2, "goBy", "(I)I"⟩
abbrev cX2_takeOut : ByteArray := prog_4_method_9_code
def yX2_takeOut : MethodName := ⟨RX2, "takeOut", "(I)I"⟩
abbrev cX2_floatOff : ByteArray := prog_4_method_10_code
def yX2_floatOff : MethodName := ⟨RX2, "floatOff", "(I)I"⟩
abbrev cX2_afloatWith : ByteArray := prog_4_method_11_code
def yX2_afloatWith : MethodName := ⟨RX2, "afloatWith", "(II)I"⟩
abbrev cX2_comeBack : ByteArray := prog_4_method_12_code
def yX2_comeBack : MethodName := ⟨RX2, "comeBack", "(I)V"⟩
abbrev cX2_countIn : ByteArray := prog_4_method_13_code
def yX2_countIn : MethodName := ⟨RX2, "countIn", "(I)I"⟩
abbrev cX2_tellOf : ByteArray := prog_4_method_14_code
def yX2_tellOf : MethodName := ⟨RX2, "tellOf", "(II)I"⟩
abbrev cX2_weeksToRipe : ByteArray := prog_4_method_15_code
def yX2_weeksToRipe : MethodName := ⟨RX2, "weeksToRipe", "(I)I"⟩
abbrev cX2_rateAt : ByteArray := prog_4_method_16_code
def yX2_rateAt : MethodName := ⟨RX2, "rateAt", "(I)I"⟩
abbrev cX2_isRipe : ByteArray := prog_4_method_17_code
def yX2_isRipe : MethodName := ⟨RX2, "isRipe", "(I)Z"⟩
abbrev cX2_isNet : ByteArray := prog_4_method_18_code
def yX2_isNet : MethodName := ⟨RX2, "isNet", "(I)Z"⟩
abbrev cX2_isPit : ByteArray := prog_4_method_19_code
def yX2_isPit : MethodName := ⟨RX2, "isPit", "(I)Z"⟩
def RX3 : String := "HuskYard$Scale"
def TX3 : u_T := fun k => match k with
  | 0 => ("HuskYard$Scale", "low", "I", false)
  | 1 => ("HuskYard$Scale", "high", "I", false)
  | _ => ("HuskYard$Scale", "count", "I", false)
def tyX3 : Nat → FieldType := fun k => match k with
  | 0 => .int
  | 1 => .int
  | _ => .int
abbrev wsX30 : List Cond := u_ws RX3 TX3 3
theorem nmX3 : ∀ a, a < 3 → ∀ b, b < 3 → a ≠ b → (TX3 a).2.1 ≠ (TX3 b).2.1 := by decide +kernel
theorem tyX3_ok : ∀ k, k < 3 → parseFieldDescriptor (TX3 k).2.2.1 = some (tyX3 k) := by decide +kernel
abbrev cX3_init : ByteArray := prog_5_method_1_code
def yX3_init : MethodName := ⟨RX3, "<init>", "()V"⟩
abbrev cX3_count : ByteArray := prog_5_method_2_code
def yX3_count : MethodName := ⟨RX3, "count", "()I"⟩
abbrev cX3_bound : ByteArray := prog_5_method_3_code
def yX3_bound : MethodName := ⟨RX3, "bound", "(Z)I"⟩
abbrev cX3_tell : ByteArray := prog_5_method_4_code
def yX3_tell : MethodName := ⟨RX3, "tell", "(II)I"⟩
abbrev cX3_weightFor : ByteArray := prog_5_method_5_code
def yX3_weightFor : MethodName := ⟨RX3, "weightFor", "(IZ)I"⟩
abbrev cX3_leastWeight : ByteArray := prog_5_method_6_code
def yX3_leastWeight : MethodName := ⟨RX3, "leastWeight", "(I)I"⟩
abbrev cX3_greatestWeight : ByteArray := prog_5_method_7_code
def yX3_greatestWeight : MethodName := ⟨RX3, "greatestWeight", "(I)I"⟩
abbrev cX3_readBy : ByteArray := prog_5_method_8_code
def yX3_readBy : MethodName := ⟨RX3, "readBy", "(II)I"⟩
abbrev cX3_isReadSo : ByteArray := prog_5_method_9_code
def yX3_isReadSo : MethodName := ⟨RX3, "isReadSo", "(III)Z"⟩
abbrev cX3_weightsBelow : ByteArray := prog_5_method_10_code
def yX3_weightsBelow : MethodName := ⟨RX3, "weightsBelow", "(II)I"⟩
def RX4 : String := "HuskYard$SpinYard"
def TX4 : u_T := fun k => match k with
  | 0 => ("HuskYard$SpinYard", "sorts", "[I", true)
  | 1 => ("HuskYard$SpinYard", "hours", "[I", true)
  | 2 => ("HuskYard$SpinYard", "dues", "[I", true)
  | 3 => ("HuskYard$SpinYard", "worths", "[I", true)
  | 4 => ("HuskYard$SpinYard", "row", "[I", true)
  | 5 => ("HuskYard$SpinYard", "best", "[I", true)
  | 6 => ("HuskYard$SpinYard", "count", "I", false)
  | 7 => ("HuskYard$SpinYard", "changeHours", "I", false)
  | 8 => ("HuskYard$SpinYard", "bestLate", "I", false)
  | _ => ("HuskYard$SpinYard", "planned", "Z", false)
def tyX4 : Nat → FieldType := fun k => match k with
  | 0 => .array .int
  | 1 => .array .int
  | 2 => .array .int
  | 3 => .array .int
  | 4 => .array .int
  | 5 => .array .int
  | 6 => .int
  | 7 => .int
  | 8 => .int
  | _ => .boolean
abbrev wsX40 : List Cond := u_ws RX4 TX4 10
theorem nmX4 : ∀ a, a < 10 → ∀ b, b < 10 → a ≠ b → (TX4 a).2.1 ≠ (TX4 b).2.1 := by decide +kernel
theorem tyX4_ok : ∀ k, k < 10 → parseFieldDescriptor (TX4 k).2.2.1 = some (tyX4 k) := by decide +kernel
abbrev cX4_init : ByteArray := prog_6_method_1_code
def yX4_init : MethodName := ⟨RX4, "<init>", "()V"⟩
abbrev cX4_count : ByteArray := prog_6_method_2_code
def yX4_count : MethodName := ⟨RX4, "count", "()I"⟩
abbrev cX4_take : ByteArray := prog_6_method_3_code
def yX4_take : MethodName := ⟨RX4, "take", "(IIII)I"⟩
abbrev cX4_setChange : ByteArray := prog_6_method_4_code
def yX4_setChange : MethodName := ⟨RX4, "setChange", "(I)Z"⟩
abbrev cX4_dropOrders : ByteArray := prog_6_method_5_code
def yX4_dropOrders : MethodName := ⟨RX4, "dropOrders", "()I"⟩
abbrev cX4_leastLate : ByteArray := prog_6_method_6_code
def yX4_leastLate : MethodName := ⟨RX4, "leastLate", "()I"⟩
abbrev cX4_orderAt : ByteArray := prog_6_method_7_code
def yX4_orderAt : MethodName := ⟨RX4, "orderAt", "(I)I"⟩
abbrev cX4_endAt : ByteArray := prog_6_method_8_code
def yX4_endAt : MethodName := ⟨RX4, "endAt", "(I)I"⟩
abbrev cX4_plan : ByteArray := prog_6_method_9_code
def yX4_plan : MethodName := ⟨RX4, "plan", "()V"⟩
abbrev cX4_tryPlace : ByteArray := prog_6_method_10_code
def yX4_tryPlace : MethodName := ⟨RX4, "tryPlace", "(IIIII)V"⟩
abbrev cX4_tryRest : ByteArray := prog_6_method_11_code
def yX4_tryRest : MethodName := ⟨RX4, "tryRest", "(IIIII)V"⟩
abbrev cX4_keepRow : ByteArray := prog_6_method_12_code
def yX4_keepRow : MethodName := ⟨RX4, "keepRow", "(I)V"⟩
abbrev cX4_endOf : ByteArray := prog_6_method_13_code
def yX4_endOf : MethodName := ⟨RX4, "endOf", "(III)I"⟩
def RX5 : String := "HuskYard"
def TX5 : u_T := fun k => match k with
  | 0 => ("HuskYard", "nets", "LHuskYard$Nets;", true)
  | 1 => ("HuskYard", "finds", "LHuskYard$Finds;", true)
  | 2 => ("HuskYard", "spinYard", "LHuskYard$SpinYard;", true)
  | 3 => ("HuskYard", "matRoom", "LHuskYard$MatRoom;", true)
  | _ => ("HuskYard", "scale", "LHuskYard$Scale;", true)
def tyX5 : Nat → FieldType := fun k => match k with
  | 0 => .object "HuskYard$Nets"
  | 1 => .object "HuskYard$Finds"
  | 2 => .object "HuskYard$SpinYard"
  | 3 => .object "HuskYard$MatRoom"
  | _ => .object "HuskYard$Scale"
abbrev wsX50 : List Cond := u_ws RX5 TX5 5
theorem nmX5 : ∀ a, a < 5 → ∀ b, b < 5 → a ≠ b → (TX5 a).2.1 ≠ (TX5 b).2.1 := by decide +kernel
theorem tyX5_ok : ∀ k, k < 5 → parseFieldDescriptor (TX5 k).2.2.1 = some (tyX5 k) := by decide +kernel
abbrev cX5_init : ByteArray := prog_1_method_1_code
def yX5_init : MethodName := ⟨RX5, "<init>", "()V"⟩
abbrev cX5_salt : ByteArray := prog_1_method_2_code
def yX5_salt : MethodName := ⟨RX5, "salt", "(II)Z"⟩
abbrev cX5_ripens : ByteArray := prog_1_method_3_code
def yX5_ripens : MethodName := ⟨RX5, "ripens", "(II)Z"⟩
abbrev cX5_net : ByteArray := prog_1_method_4_code
def yX5_net : MethodName := ⟨RX5, "net", "(IIII)I"⟩
abbrev cX5_weeks : ByteArray := prog_1_method_5_code
def yX5_weeks : MethodName := ⟨RX5, "weeks", "(I)I"⟩
abbrev cX5_pull : ByteArray := prog_1_method_6_code
def yX5_pull : MethodName := ⟨RX5, "pull", "(I)I"⟩
abbrev cX5_flood : ByteArray := prog_1_method_7_code
def yX5_flood : MethodName := ⟨RX5, "flood", "(I)I"⟩
abbrev cX5_find : ByteArray := prog_1_method_8_code
def yX5_find : MethodName := ⟨RX5, "find", "(II)I"⟩
abbrev cX5_found : ByteArray := prog_1_method_9_code
def yX5_found : MethodName := ⟨RX5, "found", "(II)I"⟩
abbrev cX5_netOf : ByteArray := prog_1_method_10_code
def yX5_netOf : MethodName := ⟨RX5, "netOf", "(II)I"⟩
abbrev cX5_order : ByteArray := prog_1_method_11_code
def yX5_order : MethodName := ⟨RX5, "order", "(IIII)I"⟩
abbrev cX5_change : ByteArray := prog_1_method_12_code
def yX5_change : MethodName := ⟨RX5, "change", "(I)Z"⟩
abbrev cX5_late : ByteArray := prog_1_method_13_code
def yX5_late : MethodName := ⟨RX5, "late", "()I"⟩
abbrev cX5_spun : ByteArray := prog_1_method_14_code
def yX5_spun : MethodName := ⟨RX5, "spun", "(II)I"⟩
abbrev cX5_clear : ByteArray := prog_1_method_15_code
def yX5_clear : MethodName := ⟨RX5, "clear", "()I"⟩
abbrev cX5_roll : ByteArray := prog_1_method_16_code
def yX5_roll : MethodName := ⟨RX5, "roll", "(II)I"⟩
abbrev cX5_cut : ByteArray := prog_1_method_17_code
def yX5_cut : MethodName := ⟨RX5, "cut", "(II)I"⟩
abbrev cX5_opened : ByteArray := prog_1_method_18_code
def yX5_opened : MethodName := ⟨RX5, "opened", "()I"⟩
abbrev cX5_from : ByteArray := prog_1_method_19_code
def yX5_from : MethodName := ⟨RX5, "from", "(I)I"⟩
abbrev cX5_away : ByteArray := prog_1_method_20_code
def yX5_away : MethodName := ⟨RX5, "away", "()I"⟩
abbrev cX5_reading : ByteArray := prog_1_method_21_code
def yX5_reading : MethodName := ⟨RX5, "reading", "(II)I"⟩
abbrev cX5_errs : ByteArray := prog_1_method_22_code
def yX5_errs : MethodName := ⟨RX5, "errs", "(Z)I"⟩
abbrev cX5_back : ByteArray := prog_1_method_23_code
def yX5_back : MethodName := ⟨RX5, "back", "(IZ)I"⟩
abbrev cX5_about : ByteArray := prog_1_method_24_code
def yX5_about : MethodName := ⟨RX5, "about", "(I)I"⟩
abbrev cX5_bringBackTheSure : ByteArray := prog_1_method_25_code
def yX5_bringBackTheSure : MethodName := ⟨RX5, "bringBackTheSure", "()V"⟩
abbrev cX5_isMarks : ByteArray := prog_1_method_26_code
def yX5_isMarks : MethodName := ⟨RX5, "isMarks", "(I)Z"⟩
abbrev cX5_within : ByteArray := prog_1_method_27_code
def yX5_within : MethodName := ⟨RX5, "within", "(III)Z"⟩
def RX6 : String := "HuskYardModel"
def TX6 : u_T := fun k => match k with
  | 0 => ("HuskYardModel", "clock", "I", false)
  | 1 => ("HuskYardModel", "salt", "[I", true)
  | 2 => ("HuskYardModel", "ripens", "[I", true)
  | 3 => ("HuskYardModel", "nets", "I", false)
  | 4 => ("HuskYardModel", "pit", "[I", true)
  | 5 => ("HuskYardModel", "marks", "[I", true)
  | 6 => ("HuskYardModel", "husks", "[I", true)
  | 7 => ("HuskYardModel", "age", "[I", true)
  | 8 => ("HuskYardModel", "points", "[I", true)
  | 9 => ("HuskYardModel", "state", "[I", true)
  | 10 => ("HuskYardModel", "finds", "I", false)
  | 11 => ("HuskYardModel", "fitting", "[I", true)
  | 12 => ("HuskYardModel", "isKnown", "Z", false)
  | 13 => ("HuskYardModel", "sureOf", "[I", true)
  | 14 => ("HuskYardModel", "pulled", "I", false)
  | 15 => ("HuskYardModel", "orders", "I", false)
  | 16 => ("HuskYardModel", "sort", "[I", true)
  | 17 => ("HuskYardModel", "hours", "[I", true)
  | 18 => ("HuskYardModel", "due", "[I", true)
  | 19 => ("HuskYardModel", "worth", "[I", true)
  | 20 => ("HuskYardModel", "change", "I", false)
  | 21 => ("HuskYardModel", "rolls", "I", false)
  | 22 => ("HuskYardModel", "length", "[I", true)
  | 23 => ("HuskYardModel", "lot", "[I", true)
  | 24 => ("HuskYardModel", "cuts", "I", false)
  | 25 => ("HuskYardModel", "cutLength", "[I", true)
  | 26 => ("HuskYardModel", "mat", "[I", true)
  | 27 => ("HuskYardModel", "readings", "I", false)
  | 28 => ("HuskYardModel", "lowest", "I", false)
  | 29 => ("HuskYardModel", "highest", "I", false)
  | 30 => ("HuskYardModel", "can", "[Z", true)
  | 31 => ("HuskYardModel", "row", "[I", true)
  | 32 => ("HuskYardModel", "best", "[I", true)
  | 33 => ("HuskYardModel", "lateness", "I", false)
  | 34 => ("HuskYardModel", "from", "[I", true)
  | _ => ("HuskYardModel", "least", "[I", true)
def tyX6 : Nat → FieldType := fun k => match k with
  | 0 => .int
  | 1 => .array .int
  | 2 => .array .int
  | 3 => .int
  | 4 => .array .int
  | 5 => .array .int
  | 6 => .array .int
  | 7 => .array .int
  | 8 => .array .int
  | 9 => .array .int
  | 10 => .int
  | 11 => .array .int
  | 12 => .boolean
  | 13 => .array .int
  | 14 => .int
  | 15 => .int
  | 16 => .array .int
  | 17 => .array .int
  | 18 => .array .int
  | 19 => .array .int
  | 20 => .int
  | 21 => .int
  | 22 => .array .int
  | 23 => .array .int
  | 24 => .int
  | 25 => .array .int
  | 26 => .array .int
  | 27 => .int
  | 28 => .int
  | 29 => .int
  | 30 => .array .boolean
  | 31 => .array .int
  | 32 => .array .int
  | 33 => .int
  | 34 => .array .int
  | _ => .array .int
abbrev wsX60 : List Cond := u_ws RX6 TX6 36
theorem nmX6 : ∀ a, a < 36 → ∀ b, b < 36 → a ≠ b → (TX6 a).2.1 ≠ (TX6 b).2.1 := by decide +kernel
theorem tyX6_ok : ∀ k, k < 36 → parseFieldDescriptor (TX6 k).2.2.1 = some (tyX6 k) := by decide +kernel
abbrev cX6_init : ByteArray := prog_8_method_1_code
def yX6_init : MethodName := ⟨RX6, "<init>", "()V"⟩
abbrev cX6_in : ByteArray := prog_8_method_2_code
def yX6_in : MethodName := ⟨RX6, "in", "(III)Z"⟩
abbrev cX6_isNet : ByteArray := prog_8_method_3_code
def yX6_isNet : MethodName := ⟨RX6, "isNet", "(I)Z"⟩
abbrev cX6_salt : ByteArray := prog_8_method_4_code
def yX6_salt : MethodName := ⟨RX6, "salt", "(II)Z"⟩
abbrev cX6_ripens : ByteArray := prog_8_method_5_code
def yX6_ripens : MethodName := ⟨RX6, "ripens", "(II)Z"⟩
abbrev cX6_net : ByteArray := prog_8_method_6_code
def yX6_net : MethodName := ⟨RX6, "net", "(IIII)I"⟩
abbrev cX6_weeks : ByteArray := prog_8_method_7_code
def yX6_weeks : MethodName := ⟨RX6, "weeks", "(I)I"⟩
abbrev cX6_fits : ByteArray := prog_8_method_8_code
def yX6_fits : MethodName := ⟨RX6, "fits", "(II)Z"⟩
abbrev cX6_isWay : ByteArray := prog_8_method_9_code
def yX6_isWay : MethodName := ⟨RX6, "isWay", "(II)Z"⟩
abbrev cX6_knows : ByteArray := prog_8_method_10_code
def yX6_knows : MethodName := ⟨RX6, "knows", "()V"⟩
abbrev cX6_findOf : ByteArray := prog_8_method_11_code
def yX6_findOf : MethodName := ⟨RX6, "findOf", "(I)I"⟩
abbrev cX6_stateOf : ByteArray := prog_8_method_12_code
def yX6_stateOf : MethodName := ⟨RX6, "stateOf", "(I)I"⟩
abbrev cX6_isRipe : ByteArray := prog_8_method_13_code
def yX6_isRipe : MethodName := ⟨RX6, "isRipe", "(I)Z"⟩
abbrev cX6_pull : ByteArray := prog_8_method_14_code
def yX6_pull : MethodName := ⟨RX6, "pull", "(I)I"⟩
abbrev cX6_flood : ByteArray := prog_8_method_15_code
def yX6_flood : MethodName := ⟨RX6, "flood", "(I)I"⟩
abbrev cX6_find : ByteArray := prog_8_method_16_code
def yX6_find : MethodName := ⟨RX6, "find", "(II)I"⟩
abbrev cX6_found : ByteArray := prog_8_method_17_code
def yX6_found : MethodName := ⟨RX6, "found", "(II)I"⟩
abbrev cX6_weeksLeft : ByteArray := prog_8_method_18_code
def yX6_weeksLeft : MethodName := ⟨RX6, "weeksLeft", "(I)I"⟩
abbrev cX6_netOf : ByteArray := prog_8_method_19_code
def yX6_netOf : MethodName := ⟨RX6, "netOf", "(II)I"⟩
abbrev cX6_order : ByteArray := prog_8_method_20_code
def yX6_order : MethodName := ⟨RX6, "order", "(IIII)I"⟩
abbrev cX6_change : ByteArray := prog_8_method_21_code
def yX6_change : MethodName := ⟨RX6, "change", "(I)Z"⟩
abbrev cX6_endOf : ByteArray := prog_8_method_22_code
def yX6_endOf : MethodName := ⟨RX6, "endOf", "(IZ)I"⟩
abbrev cX6_nextRow : ByteArray := prog_8_method_23_code
def yX6_nextRow : MethodName := ⟨RX6, "nextRow", "()Z"⟩
abbrev cX6_swaps : ByteArray := prog_8_method_24_code
def yX6_swaps : MethodName := ⟨RX6, "swaps", "(II)V"⟩
abbrev cX6_spins : ByteArray := prog_8_method_25_code
def yX6_spins : MethodName := ⟨RX6, "spins", "()I"⟩
abbrev cX6_late : ByteArray := prog_8_method_26_code
def yX6_late : MethodName := ⟨RX6, "late", "()I"⟩
abbrev cX6_spun : ByteArray := prog_8_method_27_code
def yX6_spun : MethodName := ⟨RX6, "spun", "(II)I"⟩
abbrev cX6_clear : ByteArray := prog_8_method_28_code
def yX6_clear : MethodName := ⟨RX6, "clear", "()I"⟩
abbrev cX6_roll : ByteArray := prog_8_method_29_code
def yX6_roll : MethodName := ⟨RX6, "roll", "(II)I"⟩
abbrev cX6_cut : ByteArray := prog_8_method_30_code
def yX6_cut : MethodName := ⟨RX6, "cut", "(II)I"⟩
abbrev cX6_cutOf : ByteArray := prog_8_method_31_code
def yX6_cutOf : MethodName := ⟨RX6, "cutOf", "(II)I"⟩
abbrev cX6_openedBy : ByteArray := prog_8_method_32_code
def yX6_openedBy : MethodName := ⟨RX6, "openedBy", "(I)I"⟩
abbrev cX6_mayLie : ByteArray := prog_8_method_33_code
def yX6_mayLie : MethodName := ⟨RX6, "mayLie", "(I)Z"⟩
abbrev cX6_lays : ByteArray := prog_8_method_34_code
def yX6_lays : MethodName := ⟨RX6, "lays", "()I"⟩
abbrev cX6_opened : ByteArray := prog_8_method_35_code
def yX6_opened : MethodName := ⟨RX6, "opened", "()I"⟩
abbrev cX6_from : ByteArray := prog_8_method_36_code
def yX6_from : MethodName := ⟨RX6, "from", "(I)I"⟩
abbrev cX6_away : ByteArray := prog_8_method_37_code
def yX6_away : MethodName := ⟨RX6, "away", "()I"⟩
abbrev cX6_reads : ByteArray := prog_8_method_38_code
def yX6_reads : MethodName := ⟨RX6, "reads", "(II)I"⟩
abbrev cX6_reading : ByteArray := prog_8_method_39_code
def yX6_reading : MethodName := ⟨RX6, "reading", "(II)I"⟩
abbrev cX6_errs : ByteArray := prog_8_method_40_code
def yX6_errs : MethodName := ⟨RX6, "errs", "(Z)I"⟩
abbrev cX6_back : ByteArray := prog_8_method_41_code
def yX6_back : MethodName := ⟨RX6, "back", "(IZ)I"⟩
abbrev cX6_about : ByteArray := prog_8_method_42_code
def yX6_about : MethodName := ⟨RX6, "about", "(I)I"⟩
def RJ6 : String := "java/lang/Integer"
def TJ6 : u_T := fun k => match k with
  | _ => ("", "", "", false)
def tyJ6 : Nat → FieldType := fun k => match k with
  | _ => .int
abbrev wsJ60 : List Cond := u_ws RJ6 TJ6 0
theorem nmJ6 : ∀ a, a < 0 → ∀ b, b < 0 → a ≠ b → (TJ6 a).2.1 ≠ (TJ6 b).2.1 := by decide +kernel
theorem tyJ6_ok : ∀ k, k < 0 → parseFieldDescriptor (TJ6 k).2.2.1 = some (tyJ6 k) := by decide +kernel
abbrev cJ6_numberOfTrailingZeros_0f7a4 : ByteArray := prog_9_method_48_code
def yJ6_numberOfTrailingZeros_0f7a4 : MethodName := ⟨RJ6, "numberOfTrailingZeros", "(I)I"⟩
abbrev cJ6_bitCount_0f7a4 : ByteArray := prog_9_method_49_code
def yJ6_bitCount_0f7a4 : MethodName := ⟨RJ6, "bitCount", "(I)I"⟩
def RJ9 : String := "java/lang/Math"
def TJ9 : u_T := fun k => match k with
  | _ => ("", "", "", false)
def tyJ9 : Nat → FieldType := fun k => match k with
  | _ => .int
abbrev wsJ90 : List Cond := u_ws RJ9 TJ9 0
theorem nmJ9 : ∀ a, a < 0 → ∀ b, b < 0 → a ≠ b → (TJ9 a).2.1 ≠ (TJ9 b).2.1 := by decide +kernel
theorem tyJ9_ok : ∀ k, k < 0 → parseFieldDescriptor (TJ9 k).2.2.1 = some (tyJ9 k) := by decide +kernel
abbrev cJ9_max_7cf53 : ByteArray := prog_10_method_65_code
def yJ9_max_7cf53 : MethodName := ⟨RJ9, "max", "(II)I"⟩
abbrev cJ9_min_7cf53 : ByteArray := prog_10_method_69_code
def yJ9_min_7cf53 : MethodName := ⟨RJ9, "min", "(II)I"⟩
def RL : String := "HuskYardLaw"
abbrev cL_law : ByteArray := code
def yL_law : MethodName := ⟨RL, "law", "([I)Z"⟩
abbrev vwCl : List vw_C := [(RX0, TX0, 3), (RX1, TX1, 12), (RX2, TX2, 11), (RX3, TX3, 3), (RX4, TX4, 10), (RX5, TX5, 5), (RX6, TX6, 36)]
end
section
/-! A pure machine over worlds of cells that are known by their places: values, cells, worlds, frames, methods, linked instructions. -/
abbrev hyV : Type := Int32 ⊕ (Nat ⊕ Bool)
abbrev hyC : Type := (Bool × Nat × (Nat → Int32)) ⊕ (Nat × List hyV)
abbrev hyW : Type := List hyC
abbrev hyL : Type := List (Option hyV)
abbrev hyF : Type := Nat × hyL × List hyV × hyW
abbrev hyM : Type := MethodName × ByteArray × Nat × Option FieldType
abbrev hyE : Type := Instr × Nat × Nat × Nat × Nat × Nat × Int32 × Option hyM × List (Int × Nat)
abbrev hyT : Type := List (List (Nat × hyE))
abbrev hyQ : Type := Option Int32 → hyW → Prop
abbrev hyP : Type := Nat → Option (Nat × (List Int32 → Int32))
abbrev hyS : Type := Option (Nat × (Nat → Int32))
abbrev hy_i (x : Int32) : hyV := .inl x
abbrev hy_r (k : Nat) : hyV := .inr (.inl k)
def hy_tt : List Cond := lw_tbl.filter goodWord
def hy_isN : Cond → Bool
  | .methodLinkNest .. => true
  | _ => false
def hy_nw : List Cond := lw_tbl.filter hy_isN
def hy_ws (M : hyM) : List Cond := .code M.1 M.2.1 M.2.2.1 M.2.2.2 :: hy_tt
def hy_rm (d kc ks : Nat) : Room := { frames := d, cells := kc, slots := ks, locals := 40 * (d + 1) }
def hy_v (b : Nat) (ρ : Nat → Nat) : hyV → Value
  | .inl x => .int x
  | .inr (.inl k) => .ref (ρ k)
  | .inr (.inr false) => .null
  | .inr (.inr true) => .ref b
def hy_c (b : Nat) (ρ : Nat → Nat) (κ : Nat → ClassId) (k : Nat) : hyC → va_E
  | .inl (_, n, f) => .inl (κ k, n, .inl f)
  | .inr (ci, fs) => .inr (ci, fs.map (hy_v b ρ))
def hy_w (b : Nat) (ρ : Nat → Nat) (κ : Nat → ClassId) (w : hyW) : va_W := w.mapIdx (fun k c => (ρ k, hy_c b ρ κ k c))
def hy_ty (t : Bool) : FieldType := match t with
  | true => .boolean
  | false => .int
def hy_K (dC : Nat → ClassId) (dI : Nat → Nat → Nat) (κ : Nat → ClassId) (w : hyW) (U : State) : Prop :=
  va_K (dC, dI) vwCl [] U ∧ ∀ (k : Nat) (t : Bool) (n : Nat) (f : Nat → Int32), w[k]? = some (.inl (t, n, f)) → va_K (dC, dI) vwCl [(κ k, hy_ty t)] U
def hy_U (dC : Nat → ClassId) (dI : Nat → Nat → Nat) (b : Nat) (ρ : Nat → Nat) (κ : Nat → ClassId) (A : Nat → Prop) (w : hyW) (U : State) (H : Heap) : Prop :=
  va_P (dC, dI) vwCl (hy_w b ρ κ w) H ∧ va_D A (hy_w b ρ κ w) ∧ hy_K dC dI κ w U
def hy_ag (kc n n' : Nat) (ρ : Nat → Nat) (κ : Nat → ClassId) (ρ' : Nat → Nat) (κ' : Nat → ClassId) : Prop :=
  n ≤ n' ∧ (kc = 0 → ρ' = ρ ∧ κ' = κ) ∧ ∀ k, k < n → ρ' k = ρ k ∧ κ' k = κ k
abbrev hyG : Type := hyW × (Nat → Nat) × (Nat → ClassId)
def hy_Qc (ret : Option FieldType) (Q : hyQ) (kc : Nat) (w : hyW) (dC : Nat → ClassId) (dI : Nat → Nat → Nat) (b : Nat) (ρ : Nat → Nat) (κ : Nat → ClassId) (A : Nat → Prop) : Array Value → State → Outcome → State → Prop := match ret with
  | none => va_Qv (S := hyG) (fun u => Q none u.1 ∧ hy_ag kc w.length u.1.length ρ κ u.2.1 u.2.2) (fun u t => hy_U dC dI b u.2.1 u.2.2 A u.1 t t.heap) A
  | some _ => va_Qi (S := hyG) (fun r u => Q (some r) u.1 ∧ hy_ag kc w.length u.1.length ρ κ u.2.1 u.2.2) (fun u t => hy_U dC dI b u.2.1 u.2.2 A u.1 t t.heap) A
/-- a method, called with these values in this world, returns, and its answer and the world behind it are in Q -/
def hy_R (d : Nat) (M : hyM) (kc ks : Nat) (as : List hyV) (w : hyW) (Q : hyQ) : Prop :=
  ∀ (l : Launch) (dC : Nat → ClassId) (dI : Nat → Nat → Nat) (b : Nat) (ρ : Nat → Nat) (κ : Nat → ClassId) (sz : Nat),
    Met l M.1 (hy_ws M) (hy_rm d kc ks) (va_Pc (as.map (hy_v b ρ)) (fun U => U.heap.size = sz ∧ hy_U dC dI b ρ κ (fun _ => True) w U U.heap ∧ ∀ x ∈ hy_nw, va_Nw x U)) (hy_Qc M.2.2.2 Q kc w dC dI b ρ κ (va_A (hy_w b ρ κ w) sz)) kc ks (va_A (hy_w b ρ κ w) sz)
def hy_cx (M : hyM) (p : Program) (s : State) (m : MethodId) (args : Array Value) (meth : Method) (c : Code) (A : Nat → Prop) : Prop :=
  p.tables.exec = Jvm.exec ∧ c.code = M.2.1 ∧ c.maxLocals = M.2.2.1 ∧ s.vm.findClass M.1.cls = some m.cls ∧ (∀ x ∈ hy_tt, x.before args s = true) ∧ (∀ x ∈ hy_nw, va_Nw x s) ∧ (M.1.name = "<init>" → meth.name = "<init>") ∧ ∀ q, s.heap.size ≤ q → A q
def hy_sc (scr : hyS) (b : Nat) (s : State) (A : Nat → Prop) : Prop := ∀ (L : Nat) (xs : Nat → Int32), scr = some (L, xs) → va_X b L xs s s.heap ∧ b < s.heap.size ∧ ¬ A b
def hy_lr (b : Nat) (ρ : Nat → Nat) (nL : Nat) (L : hyL) (ls : Array Slot) : Prop := ls.size = nL ∧ L.length = nL ∧ lv_wf ls ∧ ∀ (i : Nat) (v : hyV), L[i]? = some (some v) → ls[i]? = some (.val (hy_v b ρ v))
def hy_ri (r : Option Int32) : Instr := match r with
  | some _ => .ireturn
  | none => .return_
def hy_rv (r : Option Int32) : List Value := match r with
  | some x => [.int x]
  | none => []
def hy_rt (p : Program) (l : Launch) (e : Env) (R : Room) (s : State) (m : MethodId) (args : Array Value) (below : List Frame) (meth : Method) (c : Code) (A : Nat → Prop) (dC : Nat → ClassId) (dI : Nat → Nat → Nat) (b : Nat) (Qf : State → Prop) (M : hyM) (Q : hyQ) (kc ks n : Nat) (ρ : Nat → Nat) (κ : Nat → ClassId) (cells slots : Nat) : Prop :=
  ∀ (r : Option Int32) (w' : hyW) (ρ' : Nat → Nat) (κ' : Nat → ClassId) (H' : Heap) (locs' : List Loc) (pc' : Nat) (ls' : Array Slot), Q r w' → hy_ag kc n w'.length ρ κ ρ' κ' → hy_U dC dI b ρ' κ' A w' s H' → va_S A s.heap H' locs' → decode M.2.1 pc' = .ok (hy_ri r, 1) → W p l e R s m args below meth c H' locs' (cells + kc) (slots + ks) Qf (F0 m pc' ls' (hy_rv r))
/-- the frame f of the method M comes to its end, and answer and world there are in Q -/
def hy_X (scr : hyS) (d : Nat) (M : hyM) (Q : hyQ) (kc ks : Nat) (f : hyF) : Prop :=
  ∀ (p : Program) (l : Launch) (e : Env) (R : Room) (s : State) (m : MethodId) (args : Array Value) (below : List Frame) (meth : Method) (c : Code) (A : Nat → Prop) (dC : Nat → ClassId) (dI : Nat → Nat → Nat) (b : Nat) (Qf : State → Prop) (ρ : Nat → Nat) (κ : Nat → ClassId) (H : Heap) (locs : List Loc) (cells slots : Nat) (ls : Array Slot),
    hy_cx M p s m args meth c A → hy_sc scr b s A → d ≤ R.frames → 40 * (d + 1) ≤ R.locals → cells + kc ≤ R.cells → slots + ks ≤ R.slots →
    hy_lr b ρ M.2.2.1 f.2.1 ls → hy_U dC dI b ρ κ A f.2.2.2 s H → va_S A s.heap H locs →
    hy_rt p l e R s m args below meth c A dC dI b Qf M Q kc ks f.2.2.2.length ρ κ cells slots →
    W p l e R s m args below meth c H locs cells slots Qf (F0 m f.1 ls (f.2.2.1.map (hy_v b ρ)))
/-! ===== the pure steps, in the style of what must hold before ===== -/
def hy_nth {α : Type} : List α → Nat → (α → Prop) → Prop
  | [], _, _ => False
  | a :: r, n, K => match n with
    | 0 => K a
    | n + 1 => hy_nth r n K
def hy_upd {α : Type} : List α → Nat → α → (List α → Prop) → Prop
  | [], _, _, _ => False
  | a :: r, n, v, K => match n with
    | 0 => K (v :: r)
    | n + 1 => hy_upd r n v (fun r' => K (a :: r'))
def hy_pop {α : Type} : Nat → List α → List α → (List α → List α → Prop) → Prop
  | 0, st, acc, K => K acc st
  | n + 1, st, acc, K => match st with
    | [] => False
    | x :: r => hy_pop n r (x :: acc) K
def hy_ints : List hyV → (List Int32 → Prop) → Prop
  | [], K => K []
  | a :: r, K => match a with
    | .inl x => hy_ints r (fun xs => K (x :: xs))
    | .inr _ => False
def hy_fnd : List (Nat × hyE) → Nat → Option hyE
  | [], _ => none
  | a :: r, n => match Nat.beq a.1 n with
    | true => some a.2
    | false => hy_fnd r n
def hy_ft (tb : hyT) (pc : Nat) : Option hyE := hy_fnd (tb.getD (pc / 16) []) pc
def hy_mem : List Nat → Nat → Bool
  | [], _ => false
  | a :: r, n => match Nat.beq a n with
    | true => true
    | false => hy_mem r n
def hy_vok (n : Nat) : hyV → Bool
  | .inl _ => true
  | .inr (.inl k) => Nat.blt k n
  | .inr (.inr _) => true
def hy_lok (n : Nat) (L : hyL) : Bool := L.all (fun o => match o with
  | some v => hy_vok n v
  | none => true)
def hy_wok (n : Nat) (w : hyW) : Bool := w.all (fun c => match c with
  | .inl _ => true
  | .inr o => o.2.all (hy_vok n))
def hy_fok (L : hyL) (st : List hyV) (w : hyW) : Bool := hy_lok w.length L && st.all (hy_vok w.length) && hy_wok w.length w
def hy_cmp (c : ClassFile.Cond) (x y : Int32) : Prop := match c with
  | .eq => x = y
  | .ne => ¬ x = y
  | .lt => x < y
  | .ge => y ≤ x
  | .gt => y < x
  | .le => x ≤ y
def hy_br (c : ClassFile.Cond) (x y : Int32) (A B : Prop) : Prop := match c with
  | .eq => (x = y → A) ∧ (¬ x = y → B)
  | .ne => (x = y → B) ∧ (¬ x = y → A)
  | .lt => (x < y → A) ∧ (¬ x < y → B)
  | .ge => (y ≤ x → A) ∧ (¬ y ≤ x → B)
  | .gt => (y < x → A) ∧ (¬ y < x → B)
  | .le => (x ≤ y → A) ∧ (¬ x ≤ y → B)
def hy_sw (x : Int32) (d : Prop) (K : Nat → Prop) : List (Int × Nat) → Prop
  | [] => d
  | a :: r => (x.toInt = a.1 → K a.2) ∧ (¬ x.toInt = a.1 → hy_sw x d K r)
def hy_ar (i : Int32) (n : Nat) (P : Prop) : Prop := vp_in i n ∧ P
def hy_cl0 (d d' : Nat) (M : hyM) (as : List hyV) (w : hyW) (P : Option Int32 → hyW → Prop) : Prop :=
  ∃ Q1 : hyQ, hy_R d' M 0 0 as w Q1 ∧ d' + 1 ≤ d ∧ ∀ r w1, Q1 r w1 → P r w1
def hy_call (d : Nat) (M : hyM) (as : List hyV) (w : hyW) (P : Option Int32 → hyW → Prop) : Prop := ∃ d' : Nat, hy_cl0 d d' M as w P
def hy_make (d kc ks : Nat) (M : hyM) (as : List hyV) (w : hyW) (P : Nat → Nat → hyW → Prop) : Prop :=
  ∃ (d' mc ms : Nat) (Q1 : hyQ), hy_R d' M mc ms as w Q1 ∧ d' + 1 ≤ d ∧ mc ≤ kc ∧ ms ≤ ks ∧ ∀ w1, Q1 none w1 → P (kc - mc) (ks - ms) w1
def hy_fits (c : Nat) (x : hyV) (P : Prop) : Prop := match c, x with
  | 0, .inl _ => P
  | 1, .inl z => (z = 0 ∨ z = 1) ∧ P
  | 2, .inr (.inl _) => P
  | 3, .inl _ => P
  | _, _ => False
def hy_dflt (ci : Nat) : List hyV := match ci with
  | 0 => [.inr (.inr false), .inr (.inr false), .inl 0]
  | 1 => [.inr (.inr false), .inr (.inr false), .inr (.inr false), .inr (.inr false), .inr (.inr false), .inr (.inr false), .inr (.inr false), .inr (.inr false), .inl 0, .inl 0, .inl 0, .inl 0]
  | 2 => [.inr (.inr false), .inr (.inr false), .inr (.inr false), .inr (.inr false), .inr (.inr false), .inr (.inr false), .inr (.inr false), .inr (.inr false), .inl 0, .inl 0, .inl 0]
  | 3 => [.inl 0, .inl 0, .inl 0]
  | 4 => [.inr (.inr false), .inr (.inr false), .inr (.inr false), .inr (.inr false), .inr (.inr false), .inr (.inr false), .inl 0, .inl 0, .inl 0, .inl 0]
  | 5 => [.inr (.inr false), .inr (.inr false), .inr (.inr false), .inr (.inr false), .inr (.inr false)]
  | 6 => [.inl 0, .inr (.inr false), .inr (.inr false), .inl 0, .inr (.inr false), .inr (.inr false), .inr (.inr false), .inr (.inr false), .inr (.inr false), .inr (.inr false), .inl 0, .inr (.inr false), .inl 0, .inr (.inr false), .inl 0, .inl 0, .inr (.inr false), .inr (.inr false), .inr (.inr false), .inr (.inr false), .inl 0, .inl 0, .inr (.inr false), .inr (.inr false), .inl 0, .inr (.inr false), .inr (.inr false), .inl 0, .inl 0, .inl 0, .inr (.inr false), .inr (.inr false), .inr (.inr false), .inl 0, .inr (.inr false), .inr (.inr false)]
  | _ => []
/-- one linked instruction: next pc, a, b, c, r, v, method, switch -/
def hy_st (pf : hyP) (scr : hyS) (d : Nat) (Q : hyQ) (e : hyE) (kc ks : Nat) (ls : hyL) (st : List hyV) (w : hyW) (K : Nat → Nat → hyF → Prop) : Prop :=
  match e with
  | (ins, nx, a, b, c, r, v, mo, sw) => match ins with
    | .iload_n _ | .iload _ => hy_nth ls a (fun o => match o with
      | some (.inl x) => K kc ks (nx, ls, .inl x :: st, w)
      | _ => False)
    | .aload_n _ | .aload _ => hy_nth ls a (fun o => match o with
      | some (.inr (.inl k)) => K kc ks (nx, ls, .inr (.inl k) :: st, w)
      | some (.inr (.inr true)) => K kc ks (nx, ls, .inr (.inr true) :: st, w)
      | _ => False)
    | .istore_n _ | .istore _ => match st with
      | .inl x :: st' => hy_upd ls a (some (.inl x)) (fun ls' => K kc ks (nx, ls', st', w))
      | _ => False
    | .astore_n _ | .astore _ => match st with
      | .inr (.inl k) :: st' => hy_upd ls a (some (.inr (.inl k))) (fun ls' => K kc ks (nx, ls', st', w))
      | _ => False
    | .iconst _ | .bipush _ | .sipush _ | .ldc _ | .ldc_w _ => K kc ks (nx, ls, .inl v :: st, w)
    | .iinc _ _ => hy_nth ls a (fun o => match o with
      | some (.inl x) => hy_upd ls a (some (.inl (x + v))) (fun ls' => K kc ks (nx, ls', st, w))
      | _ => False)
    | .iadd => match st with
      | .inl y :: .inl x :: st' => K kc ks (nx, ls, .inl (x + y) :: st', w)
      | _ => False
    | .isub => match st with
      | .inl y :: .inl x :: st' => K kc ks (nx, ls, .inl (x - y) :: st', w)
      | _ => False
    | .imul => match st with
      | .inl y :: .inl x :: st' => K kc ks (nx, ls, .inl (x * y) :: st', w)
      | _ => False
    | .iand => match st with
      | .inl y :: .inl x :: st' => K kc ks (nx, ls, .inl (x &&& y) :: st', w)
      | _ => False
    | .ior => match st with
      | .inl y :: .inl x :: st' => K kc ks (nx, ls, .inl (x ||| y) :: st', w)
      | _ => False
    | .ixor => match st with
      | .inl y :: .inl x :: st' => K kc ks (nx, ls, .inl (x ^^^ y) :: st', w)
      | _ => False
    | .ishl => match st with
      | .inl y :: .inl x :: st' => K kc ks (nx, ls, .inl (x <<< (y &&& 31)) :: st', w)
      | _ => False
    | .ishr => match st with
      | .inl y :: .inl x :: st' => K kc ks (nx, ls, .inl (x >>> (y &&& 31)) :: st', w)
      | _ => False
    | .iushr => match st with
      | .inl y :: .inl x :: st' => K kc ks (nx, ls, .inl ((x.toUInt32 >>> (y.toUInt32 &&& Int32.toUInt32 31)).toInt32) :: st', w)
      | _ => False
    | .idiv => match st with
      | .inl y :: .inl x :: st' => (¬ y = 0) ∧ K kc ks (nx, ls, .inl (x / y) :: st', w)
      | _ => False
    | .dup => match st with
      | x :: st' => K kc ks (nx, ls, x :: x :: st', w)
      | _ => False
    | .dup2 => match st with
      | x :: y :: st' => K kc ks (nx, ls, x :: y :: x :: y :: st', w)
      | _ => False
    | .goto _ => K kc ks (a, ls, st, w)
    | .if_icmp cd _ => match st with
      | .inl y :: .inl x :: st' => hy_br cd x y (K kc ks (a, ls, st', w)) (K kc ks (nx, ls, st', w))
      | _ => False
    | .ifCond cd _ => match st with
      | .inl x :: st' => hy_br cd x 0 (K kc ks (a, ls, st', w)) (K kc ks (nx, ls, st', w))
      | _ => False
    | .tableswitch _ _ _ _ | .lookupswitch _ _ => match st with
      | .inl x :: st' => hy_sw x (K kc ks (a, ls, st', w)) (fun t => K kc ks (t, ls, st', w)) sw
      | _ => False
    | .getfield _ => match st with
      | .inr (.inl k) :: st' => hy_nth w k (fun cl => match cl with
        | .inr (ci, fs) => match Nat.beq ci a with
          | true => hy_nth fs b (fun x => K kc ks (nx, ls, x :: st', w))
          | false => False
        | .inl _ => False)
      | _ => False
    | .putfield _ => match st with
      | x :: .inr (.inl k) :: st' => hy_nth w k (fun cl => match cl with
        | .inr (ci, fs) => match Nat.beq ci a with
          | true => hy_fits c x (hy_upd fs b x (fun fs' => hy_upd w k (.inr (ci, fs')) (fun w' => K kc ks (nx, ls, st', w'))))
          | false => False
        | .inl _ => False)
      | _ => False
    | .iaload => match st with
      | .inl i :: .inr (.inl k) :: st' => hy_nth w k (fun cl => match cl with
        | .inl (false, n, f) => hy_ar i n (K kc ks (nx, ls, .inl (f i.toNatClampNeg) :: st', w))
        | _ => False)
      | .inl i :: .inr (.inr true) :: st' => match scr with
        | some (L, xs) => hy_ar i L (K kc ks (nx, ls, .inl (xs i.toNatClampNeg) :: st', w))
        | none => False
      | _ => False
    | .baload => match st with
      | .inl i :: .inr (.inl k) :: st' => hy_nth w k (fun cl => match cl with
        | .inl (true, n, f) => hy_ar i n (K kc ks (nx, ls, .inl (f i.toNatClampNeg) :: st', w))
        | _ => False)
      | _ => False
    | .iastore => match st with
      | .inl x :: .inl i :: .inr (.inl k) :: st' => hy_nth w k (fun cl => match cl with
        | .inl (false, n, f) => hy_ar i n (hy_upd w k (.inl (false, n, upd f i.toNatClampNeg x)) (fun w' => K kc ks (nx, ls, st', w')))
        | _ => False)
      | _ => False
    | .bastore => match st with
      | .inl x :: .inl i :: .inr (.inl k) :: st' => hy_nth w k (fun cl => match cl with
        | .inl (true, n, f) => hy_ar i n (hy_upd w k (.inl (true, n, upd f i.toNatClampNeg (vp_nar .boolean x))) (fun w' => K kc ks (nx, ls, st', w')))
        | _ => False)
      | _ => False
    | .arraylength => match st with
      | .inr (.inr true) :: st' => match scr with
        | some (L, _) => K kc ks (nx, ls, .inl (Int32.ofNat L) :: st', w)
        | none => False
      | _ => False
    | .ireturn => match st with
      | .inl x :: [] => Q (some x) w
      | _ => False
    | .return_ => match st with
      | [] => Q none w
      | _ => False
    | .new _ => match Nat.ble 1 kc, Nat.ble b ks, hy_fok ls st w with
      | true, true, true => K (kc - 1) (ks - b) (nx, ls, .inr (.inl w.length) :: st, w ++ [.inr (a, hy_dflt a)])
      | _, _, _ => False
    | .newarray _ => match st with
      | .inl n :: st' => match Nat.ble 1 kc, Nat.ble n.toNatClampNeg ks, hy_fok ls st' w with
        | true, true, true => (¬ n < 0 ∧ n.toNatClampNeg ≤ 1024) ∧ K (kc - 1) (ks - n.toNatClampNeg) (nx, ls, .inr (.inl w.length) :: st', w ++ [.inl (Nat.beq a 1, n.toNatClampNeg, fun _ => 0)])
        | _, _, _ => False
      | _ => False
    | .invokestatic _ => match mo with
      | none => False
      | some M => match r with
       | 1 => match st with
         | .inl y :: .inl x :: st' => match Nat.ble st'.length 8, Nat.ble 1 d with
           | true, true => K kc ks (nx, ls, .inl (if x < y then y else x) :: st', w)
           | _, _ => False
         | _ => False
       | 2 => match st with
         | .inl y :: .inl x :: st' => match Nat.ble st'.length 8, Nat.ble 1 d with
           | true, true => K kc ks (nx, ls, .inl (if y < x then y else x) :: st', w)
           | _, _ => False
         | _ => False
       | _ => hy_pop b st [] (fun as st' => match Nat.ble st'.length 8 with
        | false => False
        | true => match pf a with
          | some (n, g) => match Nat.beq n b, Nat.ble 4 d with
            | true, true => hy_ints as (fun xs => K kc ks (nx, ls, .inl (g xs) :: st', w))
            | _, _ => False
          | none => hy_call d M as w (fun o w1 => match o with
            | some y => K kc ks (nx, ls, .inl y :: st', w1)
            | none => K kc ks (nx, ls, st', w1)))
    | .invokevirtual _ => match mo with
      | none => False
      | some M => hy_pop (b + 1) st [] (fun as st' => match Nat.ble st'.length 8 with
        | false => False
        | true => match as with
          | .inr (.inl k) :: _ => hy_nth w k (fun cl => match cl with
            | .inr (ci, _) => match Nat.beq ci r with
              | true => hy_call d M as w (fun o w1 => match o with
                | some y => K kc ks (nx, ls, .inl y :: st', w1)
                | none => K kc ks (nx, ls, st', w1))
              | false => False
            | .inl _ => False)
          | _ => False)
    | .invokespecial _ => match mo with
      | none => match st with
        | .inr (.inl _) :: st' => match Nat.ble st'.length 8, Nat.ble 1 d with
          | true, true => K kc ks (nx, ls, st', w)
          | _, _ => False
        | _ => False
      | some M => hy_pop (b + 1) st [] (fun as st' => match Nat.ble st'.length 8, hy_fok ls st' w with
        | true, true => match as with
          | .inr (.inl _) :: _ => hy_make d kc ks M as w (fun kc' ks' w1 => K kc' ks' (nx, ls, st', w1))
          | _ => False
        | _, _ => False)
    | _ => False
def hy_wp (pf : hyP) (tb : hyT) (S : List Nat) (scr : hyS) (d : Nat) (M : hyM) (Q : hyQ) : Nat → Nat → Nat → hyF → Prop
  | 0, kc, ks, f => hy_X scr d M Q kc ks f
  | n + 1, kc, ks, f => match f with
    | (pc, ls, st, w) => match hy_ft tb pc with
      | none => False
      | some e => hy_st pf scr d Q e kc ks ls st w (fun kc' ks' f' => match hy_mem S f'.1 with
        | true => hy_X scr d M Q kc' ks' f'
        | false => hy_wp pf tb S scr d M Q n kc' ks' f')
end
section
/-! ===== what a linked instruction must be: by program ===== -/
def hy_inT (w : Cond) : Bool := goodWord w && decide (w ∈ lw_tbl)
def hy_inN (w : Cond) : Bool := hy_isN w && decide (w ∈ lw_tbl)
theorem hy_inT_mem {w : Cond} (h : hy_inT w = true) : w ∈ hy_tt := by
  simp only [hy_inT, Bool.and_eq_true, decide_eq_true_eq] at h
  exact List.mem_filter.mpr ⟨h.2, h.1⟩
theorem hy_inN_mem {w : Cond} (h : hy_inN w = true) : w ∈ hy_nw := by
  simp only [hy_inN, Bool.and_eq_true, decide_eq_true_eq] at h
  exact List.mem_filter.mpr ⟨h.2, h.1⟩
def hy_plain (y : MethodName) (n : Nat) : Bool := decide (y.cls ≠ "java/lang/invoke/MethodHandle") && decide (y.cls ≠ "java/lang/invoke/VarHandle") && decide ((parseMethodDescriptor y.desc).map (fun d => d.parameters.length) = some n)
def hy_mok (M : hyM) (n : Nat) : Bool := hy_plain M.1 n && decide (M.2.2.1 ≤ 20) && hy_inT (.code M.1 M.2.1 M.2.2.1 M.2.2.2) && hy_inT (.initialized M.1.cls)
def hy_tsw (pc : Nat) : Int → List Int → List (Int × Nat) → Bool
  | _, [], [] => true
  | lo, o :: os, s :: ss => decide (s.1 = lo) && decide ((pc : Int) + o = (s.2 : Int)) && hy_tsw pc (lo + 1) os ss
  | _, _, _ => false
def hy_lsw (pc : Nat) : List (Int × Int) → List (Int × Nat) → Bool
  | [], [] => true
  | o :: os, s :: ss => decide (s.1 = o.1) && decide ((pc : Int) + o.2 = (s.2 : Int)) && hy_lsw pc os ss
  | _, _ => false
def hy_isR (t : Option FieldType) : Bool := match t with
  | some (.array _) => true
  | some (.object _) => true
  | _ => false
def hy_fk (c : Nat) (own : String) (nm : String) (q : String × String × String × Bool) : Bool := match c with
  | 0 => decide (q.2.2.1 = "I") && decide (q.2.2.2 = false)
  | 1 => decide (q.2.2.1 = "Z") && decide (q.2.2.2 = false)
  | 2 => hy_isR (parseFieldDescriptor q.2.2.1) && decide (q.2.2.2 = true) && decide (nm = "<init>") && decide (q.1 = own)
  | 3 => decide (q.2.2.1 = "I") && decide (q.2.2.2 = true) && decide (nm = "<init>") && decide (q.1 = own)
  | _ => false
/-- the pure static methods, by number -/
def hy_pm : Nat → hyM
  | 1 => (yX5_within, cX5_within, 3, some .boolean)
  | 2 => (yX6_in, cX6_in, 3, some .boolean)
  | 3 => (yJ9_max_7cf53, cJ9_max_7cf53, 2, some .int)
  | 4 => (yJ9_min_7cf53, cJ9_min_7cf53, 2, some .int)
  | 5 => (yJ6_bitCount_0f7a4, cJ6_bitCount_0f7a4, 1, some .int)
  | 6 => (yJ6_numberOfTrailingZeros_0f7a4, cJ6_numberOfTrailingZeros_0f7a4, 2, some .int)
  | 7 => (yX3_readBy, cX3_readBy, 2, some .int)
  | 8 => (yX6_reads, cX6_reads, 2, some .int)
  | 9 => (yX3_weightsBelow, cX3_weightsBelow, 3, some .int)
  | 10 => (yX5_isMarks, cX5_isMarks, 1, some .boolean)
  | 11 => (yX2_isPit, cX2_isPit, 1, some .boolean)
  | 12 => (yX3_isReadSo, cX3_isReadSo, 3, some .boolean)
  | _ => (yX0_onlyOne, cX0_onlyOne, 1, some .int)
def hy_lk (M : hyM) (pc : Nat) (e : hyE) : Bool :=
  match e with
  | (ins, nx, a, b, c, r, v, mo, sw) => match ins with
    | .iload_n k => decide (nx = pc + 1) && decide (k.val = a)
    | .iload i => decide (nx = pc + 2) && decide (i = a)
    | .aload_n k => decide (nx = pc + 1) && decide (k.val = a)
    | .aload i => decide (nx = pc + 2) && decide (i = a)
    | .istore_n k => decide (nx = pc + 1) && decide (k.val = a)
    | .istore i => decide (nx = pc + 2) && decide (i = a)
    | .astore_n k => decide (nx = pc + 1) && decide (k.val = a)
    | .astore i => decide (nx = pc + 2) && decide (i = a)
    | .iconst n => decide (nx = pc + 1) && decide (Int32.ofInt n = v)
    | .bipush n => decide (nx = pc + 2) && decide ((Int8.ofInt n).toInt32 = v)
    | .sipush n => decide (nx = pc + 3) && decide ((Int16.ofInt n).toInt32 = v)
    | .ldc i => decide (nx = pc + 2) && hy_inT (.constant M.1.cls i v)
    | .ldc_w i => decide (nx = pc + 3) && hy_inT (.constant M.1.cls i v)
    | .iinc i n => decide (nx = pc + 3) && decide (i = a) && decide (Int32.ofInt n = v)
    | .iadd | .isub | .imul | .iand | .ior | .ixor | .ishl | .ishr | .iushr | .idiv | .dup | .dup2 | .iaload | .baload | .iastore | .bastore | .arraylength => decide (nx = pc + 1)
    | .goto off => decide (nx = pc + 3) && decide ((pc : Int) + off = (a : Int))
    | .if_icmp _ off => decide (nx = pc + 3) && decide ((pc : Int) + off = (a : Int))
    | .ifCond _ off => decide (nx = pc + 3) && decide ((pc : Int) + off = (a : Int))
    | .tableswitch df lo hi offs => decide ((pc : Int) + df = (a : Int)) && decide (hi + 1 = lo + (offs.size : Int)) && hy_tsw pc lo offs.toList sw
    | .lookupswitch df ps => decide ((pc : Int) + df = (a : Int)) && (ps.toList.zip (ps.toList.drop 1)).all (fun (a, next) => decide (a.1 < next.1)) && hy_lsw pc ps.toList sw
    | .getfield i => match vwCl[a]? with
      | some (_, T, N) => decide (nx = pc + 3) && decide (b < N) && hy_inT (.fieldLink M.1.cls i (T b).1 (T b).2.1 (T b).2.2.1)
      | none => false
    | .putfield i => match vwCl[a]? with
      | some (_, T, N) => decide (nx = pc + 3) && decide (b < N) && hy_inT (.fieldLink M.1.cls i (T b).1 (T b).2.1 (T b).2.2.1) && hy_fk c M.1.cls M.1.name (T b)
      | none => false
    | .ireturn | .return_ => decide (nx = pc + 1)
    | .new i => match vwCl[a]? with
      | some (C, _, N) => decide (nx = pc + 3) && decide (b = N) && hy_inT (.classLink M.1.cls i C) && hy_inT (.instantiable C N) && hy_inT (.initialized C)
      | none => false
    | .newarray t => decide (nx = pc + 2) && hy_inT (.arrayClass (newarray.typeOf t)) && decide (newarray.typeOf t = hy_ty (Nat.beq a 1))
    | .invokestatic i => match mo with
      | some Mc => match r with
       | 1 => decide (nx = pc + 3) && hy_inT (.methodLink M.1.cls i Lib.Math.max.name) && hy_inT (.static Lib.Math.max.name) && hy_inT (.initialized "java/lang/Math") && hy_inT (.code Lib.Math.max.name Lib.Math.max.code 2 (some .int))
       | 2 => decide (nx = pc + 3) && hy_inT (.methodLink M.1.cls i Lib.Math.min.name) && hy_inT (.static Lib.Math.min.name) && hy_inT (.initialized "java/lang/Math") && hy_inT (.code Lib.Math.min.name Lib.Math.min.code 2 (some .int))
       | _ => decide (nx = pc + 3) && hy_mok Mc b && Mc.2.2.2.isSome && hy_inT (.static Mc.1) && (Nat.beq a 0 || decide (Mc = hy_pm a)) && (match c with
        | 0 => hy_inT (.methodLink M.1.cls i Mc.1)
        | _ => hy_inN (.methodLinkNest M.1.cls i Mc.1 "HuskYard"))
      | none => false
    | .invokevirtual i => match mo, vwCl[r]? with
      | some Mc, some (C, _, _) => decide (nx = pc + 3) && hy_mok Mc b && decide (C = Mc.1.cls) && hy_inT (.instanceMethod Mc.1) && hy_inT (.selects C Mc.1 Mc.1) && hy_inT (.methodLink M.1.cls i Mc.1)
      | _, _ => false
    | .invokespecial i => match mo with
      | none => decide (nx = pc + 3) && hy_inT (.methodLink M.1.cls i objectInit) && hy_inT (.instanceMethod objectInit) && hy_inT (.code objectInit ⟨#[0xb1]⟩ 1 none)
      | some Mc => decide (nx = pc + 3) && hy_mok Mc b && Mc.2.2.2.isNone && decide (Mc.1.name = "<init>") && hy_inT (.instanceMethod Mc.1) && (match c with
        | 0 => hy_inT (.methodLink M.1.cls i Mc.1)
        | _ => hy_inN (.methodLinkNest M.1.cls i Mc.1 "HuskYard"))
    | _ => false
def hy_len (M : hyM) (pc : Nat) : Nat := match decode M.2.1 pc with
  | .ok q => q.2
  | .error _ => 0
def hy_dec (M : hyM) (pc : Nat) (ins : Instr) (nx : Nat) : Bool := match decode M.2.1 pc with
  | .ok q => decide (q.1 = ins) && decide (pc + q.2 = nx)
  | .error _ => false
def hy_ok (M : hyM) (pc : Nat) (e : hyE) : Bool := hy_dec M pc e.1 e.2.1 && hy_lk M pc e
theorem hy_ok_dec {M : hyM} {pc : Nat} {e : hyE} (h : hy_ok M pc e = true) : ∃ k, decode M.2.1 pc = .ok (e.1, k) ∧ pc + k = e.2.1 := by
  simp only [hy_ok, hy_dec, Bool.and_eq_true] at h
  revert h
  cases hd : decode M.2.1 pc with
  | error x => intro h; exact absurd h.1 (by simp)
  | ok q =>
    intro h
    simp only [Bool.and_eq_true, decide_eq_true_eq] at h
    exact ⟨q.2, by rw [← h.1.1], h.1.2⟩
def hy_tok (M : hyM) (tb : hyT) : Prop := ∀ ch ∈ tb, ∀ q ∈ ch, hy_ok M q.1 q.2 = true
theorem hy_fnd_mem : ∀ {l : List (Nat × hyE)} {pc : Nat} {e : hyE}, hy_fnd l pc = some e → (pc, e) ∈ l
  | [], _, _, h => by cases h
  | a :: r, pc, e, h => by
    simp only [hy_fnd] at h
    cases hb : Nat.beq a.1 pc with
    | true =>
      rw [hb] at h
      cases h
      have : a.1 = pc := Nat.eq_of_beq_eq_true hb
      exact List.mem_cons.mpr (Or.inl (by rw [← this]))
    | false =>
      rw [hb] at h
      exact List.mem_cons_of_mem _ (hy_fnd_mem h)
theorem hy_tok_at {M : hyM} {tb : hyT} (h : hy_tok M tb) {pc : Nat} {e : hyE} (he : hy_ft tb pc = some e) : hy_ok M pc e = true := by
  have hm := hy_fnd_mem he
  rw [List.getD_eq_getElem?_getD] at hm
  cases hc : tb[pc / 16]? with
  | none => rw [hc] at hm; cases hm
  | some ch =>
    rw [hc] at hm
    have hm1 : (pc, e) ∈ ch := hm
    have h1 : ∀ q ∈ ch, hy_ok M q.1 q.2 = true := h ch (List.mem_of_getElem? hc)
    exact h1 (pc, e) hm1
theorem hy_clsX0 : ∀ w ∈ u_ws RX0 TX0 3, w ∈ hy_tt := by decide +kernel
theorem hy_clsX1 : ∀ w ∈ u_ws RX1 TX1 12, w ∈ hy_tt := by decide +kernel
theorem hy_clsX2 : ∀ w ∈ u_ws RX2 TX2 11, w ∈ hy_tt := by decide +kernel
theorem hy_clsX3 : ∀ w ∈ u_ws RX3 TX3 3, w ∈ hy_tt := by decide +kernel
theorem hy_clsX4 : ∀ w ∈ u_ws RX4 TX4 10, w ∈ hy_tt := by decide +kernel
theorem hy_clsX5 : ∀ w ∈ u_ws RX5 TX5 5, w ∈ hy_tt := by decide +kernel
theorem hy_clsX6 : ∀ w ∈ u_ws RX6 TX6 36, w ∈ hy_tt := by decide +kernel
theorem hy_dfX (b : Nat) (ρ : Nat → Nat) : (∀ j, j < 3 → defaultValue (tyX0 j) = vp_V ((hy_dflt 0).map (hy_v b ρ)) j) ∧ (∀ j, j < 12 → defaultValue (tyX1 j) = vp_V ((hy_dflt 1).map (hy_v b ρ)) j) ∧ (∀ j, j < 11 → defaultValue (tyX2 j) = vp_V ((hy_dflt 2).map (hy_v b ρ)) j) ∧ (∀ j, j < 3 → defaultValue (tyX3 j) = vp_V ((hy_dflt 3).map (hy_v b ρ)) j) ∧ (∀ j, j < 10 → defaultValue (tyX4 j) = vp_V ((hy_dflt 4).map (hy_v b ρ)) j) ∧ (∀ j, j < 5 → defaultValue (tyX5 j) = vp_V ((hy_dflt 5).map (hy_v b ρ)) j) ∧ (∀ j, j < 36 → defaultValue (tyX6 j) = vp_V ((hy_dflt 6).map (hy_v b ρ)) j) := by
  refine ⟨?_, ?_, ?_, ?_, ?_, ?_, ?_⟩
  · intro j hj; match j, hj with
    | 0, _ => rfl
    | 1, _ => rfl
    | 2, _ => rfl
    | j + 3, h => exact absurd h (by omega)
  · intro j hj; match j, hj with
    | 0, _ => rfl
    | 1, _ => rfl
    | 2, _ => rfl
    | 3, _ => rfl
    | 4, _ => rfl
    | 5, _ => rfl
    | 6, _ => rfl
    | 7, _ => rfl
    | 8, _ => rfl
    | 9, _ => rfl
    | 10, _ => rfl
    | 11, _ => rfl
    | j + 12, h => exact absurd h (by omega)
  · intro j hj; match j, hj with
    | 0, _ => rfl
    | 1, _ => rfl
    | 2, _ => rfl
    | 3, _ => rfl
    | 4, _ => rfl
    | 5, _ => rfl
    | 6, _ => rfl
    | 7, _ => rfl
    | 8, _ => rfl
    | 9, _ => rfl
    | 10, _ => rfl
    | j + 11, h => exact absurd h (by omega)
  · intro j hj; match j, hj with
    | 0, _ => rfl
    | 1, _ => rfl
    | 2, _ => rfl
    | j + 3, h => exact absurd h (by omega)
  · intro j hj; match j, hj with
    | 0, _ => rfl
    | 1, _ => rfl
    | 2, _ => rfl
    | 3, _ => rfl
    | 4, _ => rfl
    | 5, _ => rfl
    | 6, _ => rfl
    | 7, _ => rfl
    | 8, _ => rfl
    | 9, _ => rfl
    | j + 10, h => exact absurd h (by omega)
  · intro j hj; match j, hj with
    | 0, _ => rfl
    | 1, _ => rfl
    | 2, _ => rfl
    | 3, _ => rfl
    | 4, _ => rfl
    | j + 5, h => exact absurd h (by omega)
  · intro j hj
    have h : ∀ j : Fin 36, defaultValue (tyX6 j.val) = vp_V ((hy_dflt 6).map (hy_v b ρ)) j.val := by
      intro j
      match j with
      | ⟨0, _⟩ | ⟨1, _⟩ | ⟨2, _⟩ | ⟨3, _⟩ | ⟨4, _⟩ | ⟨5, _⟩ | ⟨6, _⟩ | ⟨7, _⟩ | ⟨8, _⟩ | ⟨9, _⟩ | ⟨10, _⟩ | ⟨11, _⟩ | ⟨12, _⟩ | ⟨13, _⟩ | ⟨14, _⟩ | ⟨15, _⟩ | ⟨16, _⟩ | ⟨17, _⟩ | ⟨18, _⟩ | ⟨19, _⟩ | ⟨20, _⟩ | ⟨21, _⟩ | ⟨22, _⟩ | ⟨23, _⟩ | ⟨24, _⟩ | ⟨25, _⟩ | ⟨26, _⟩ | ⟨27, _⟩ | ⟨28, _⟩ | ⟨29, _⟩ | ⟨30, _⟩ | ⟨31, _⟩ | ⟨32, _⟩ | ⟨33, _⟩ | ⟨34, _⟩ | ⟨35, _⟩ => rfl
      | ⟨j + 36, h⟩ => exact absurd h (by omega)
    exact h ⟨j, hj⟩
theorem hy_cls (b : Nat) (ρ : Nat → Nat) {a : Nat} {C : String} {T : u_T} {N : Nat} (h : vwCl[a]? = some (C, T, N)) : ∃ ty0 : Nat → FieldType, (∀ k, k < N → parseFieldDescriptor (T k).2.2.1 = some (ty0 k)) ∧ (∀ a, a < N → ∀ b, b < N → a ≠ b → (T a).2.1 ≠ (T b).2.1) ∧ (∀ w ∈ u_ws C T N, w ∈ hy_tt) ∧ ∀ j, j < N → defaultValue (ty0 j) = vp_V ((hy_dflt a).map (hy_v b ρ)) j := by
  obtain ⟨d0, d1, d2, d3, d4, d5, d6⟩ := hy_dfX b ρ
  match a, h with
  | 0, h => cases h; exact ⟨tyX0, tyX0_ok, nmX0, hy_clsX0, d0⟩
  | 1, h => cases h; exact ⟨tyX1, tyX1_ok, nmX1, hy_clsX1, d1⟩
  | 2, h => cases h; exact ⟨tyX2, tyX2_ok, nmX2, hy_clsX2, d2⟩
  | 3, h => cases h; exact ⟨tyX3, tyX3_ok, nmX3, hy_clsX3, d3⟩
  | 4, h => cases h; exact ⟨tyX4, tyX4_ok, nmX4, hy_clsX4, d4⟩
  | 5, h => cases h; exact ⟨tyX5, tyX5_ok, nmX5, hy_clsX5, d5⟩
  | 6, h => cases h; exact ⟨tyX6, tyX6_ok, nmX6, hy_clsX6, d6⟩
  | a + 7, h => simp at h
end
section
/-! ===== worlds under their steps ===== -/
theorem hy_w_get (b : Nat) (ρ : Nat → Nat) (κ : Nat → ClassId) (w : hyW) (k : Nat) : (hy_w b ρ κ w)[k]? = (w[k]?).map (fun c => (ρ k, hy_c b ρ κ k c)) := by
  simp [hy_w, List.getElem?_mapIdx]
theorem hy_w_at {b : Nat} {ρ : Nat → Nat} {κ : Nat → ClassId} {w : hyW} {k : Nat} {c : hyC} (h : w[k]? = some c) : (hy_w b ρ κ w)[k]? = some (ρ k, hy_c b ρ κ k c) := by
  rw [hy_w_get, h]; rfl
theorem hy_w_len (b : Nat) (ρ : Nat → Nat) (κ : Nat → ClassId) (w : hyW) : (hy_w b ρ κ w).length = w.length := by
  simp [hy_w]
theorem hy_w_set (b : Nat) (ρ : Nat → Nat) (κ : Nat → ClassId) (w : hyW) (k : Nat) (c : hyC) : (hy_w b ρ κ w).set k (ρ k, hy_c b ρ κ k c) = hy_w b ρ κ (w.set k c) := by
  apply List.ext_getElem?
  intro j
  rw [hy_w_get, List.getElem?_set, List.getElem?_set, hy_w_get, hy_w_len]
  by_cases h : k = j
  · subst h
    by_cases h2 : k < w.length
    · simp [h2]
    · simp [h2]
  · simp [h]
theorem hy_v_ag {b n : Nat} {ρ ρ' : Nat → Nat} (h : ∀ k, k < n → ρ' k = ρ k) {v : hyV} (hv : hy_vok n v = true) : hy_v b ρ' v = hy_v b ρ v := by
  match v, hv with
  | .inl x, _ => rfl
  | .inr (.inl k), hv => exact congrArg Value.ref (h k (Nat.lt_of_lt_of_le (Nat.lt_succ_self k) (Nat.le_of_ble_eq_true hv)))
  | .inr (.inr false), _ => rfl
  | .inr (.inr true), _ => rfl
theorem hy_vs_ag {b n : Nat} {ρ ρ' : Nat → Nat} (h : ∀ k, k < n → ρ' k = ρ k) {vs : List hyV} (hv : vs.all (hy_vok n) = true) : vs.map (hy_v b ρ') = vs.map (hy_v b ρ) :=
  List.map_congr_left (fun v hm => hy_v_ag h (List.all_eq_true.mp hv v hm))
theorem hy_w_ag {b n : Nat} {ρ ρ' : Nat → Nat} {κ κ' : Nat → ClassId} {w : hyW} (h : ∀ k, k < n → ρ' k = ρ k ∧ κ' k = κ k) (hl : w.length ≤ n) (hw : hy_wok n w = true) : hy_w b ρ' κ' w = hy_w b ρ κ w := by
  apply List.ext_getElem?
  intro j
  rw [hy_w_get, hy_w_get]
  cases hj : w[j]? with
  | none => rfl
  | some c =>
    have hlt : j < n := Nat.lt_of_lt_of_le (List.getElem?_eq_some_iff.mp hj).1 hl
    have hc := List.all_eq_true.mp hw c (List.mem_of_getElem? hj)
    obtain ⟨h1, h2⟩ := h j hlt
    cases c with
    | inl a =>
      obtain ⟨t, m, f⟩ := a
      simp only [Option.map_some, hy_c, h1, h2]
    | inr o =>
      obtain ⟨ci, fs⟩ := o
      simp only [Option.map_some, hy_c, h1]
      rw [hy_vs_ag (fun k hk => (h k hk).1) hc]
theorem hy_w_app {b : Nat} {ρ : Nat → Nat} {κ : Nat → ClassId} {w : hyW} {c : hyC} : hy_w b ρ κ (w ++ [c]) = hy_w b ρ κ w ++ [(ρ w.length, hy_c b ρ κ w.length c)] := by
  simp [hy_w, List.mapIdx_append]
theorem hy_nth_ok {α : Type} : ∀ {l : List α} {n : Nat} {K : α → Prop}, hy_nth l n K → ∃ a, l[n]? = some a ∧ K a
  | [], _, _, h => h.elim
  | a :: _, 0, _, h => ⟨a, rfl, h⟩
  | _ :: r, n + 1, K, h => by
    obtain ⟨x, h1, h2⟩ := hy_nth_ok (l := r) (n := n) (K := K) h
    exact ⟨x, by simpa using h1, h2⟩
theorem hy_upd_ok {α : Type} : ∀ {l : List α} {n : Nat} {v : α} {K : List α → Prop}, hy_upd l n v K → n < l.length ∧ K (l.set n v)
  | [], _, _, _, h => h.elim
  | _ :: _, 0, _, _, h => ⟨Nat.succ_pos _, h⟩
  | a :: r, n + 1, v, K, h => by
    obtain ⟨h1, h2⟩ := hy_upd_ok (l := r) (n := n) (v := v) (K := fun r' => K (a :: r')) h
    exact ⟨Nat.succ_lt_succ h1, h2⟩
theorem hy_pop_ok {α : Type} : ∀ {n : Nat} {st acc : List α} {K : List α → List α → Prop}, hy_pop n st acc K → ∃ as rest, as.length = n ∧ st = as.reverse ++ rest ∧ K (as ++ acc) rest
  | 0, st, acc, K, h => ⟨[], st, rfl, rfl, h⟩
  | n + 1, [], acc, K, h => h.elim
  | n + 1, x :: r, acc, K, h => by
    obtain ⟨as, rest, h1, h2, h3⟩ := hy_pop_ok (n := n) (st := r) (acc := x :: acc) (K := K) h
    exact ⟨as ++ [x], rest, by simp [h1], by simp [h2], by simpa using h3⟩
theorem hy_ints_ok : ∀ {as : List hyV} {K : List Int32 → Prop}, hy_ints as K → ∃ xs : List Int32, as = xs.map (fun x => Sum.inl x) ∧ K xs
  | [], K, h => ⟨[], rfl, h⟩
  | .inl x :: r, K, h => by
    obtain ⟨xs, h1, h2⟩ := hy_ints_ok (as := r) (K := fun xs => K (x :: xs)) h
    exact ⟨x :: xs, by rw [h1]; rfl, h2⟩
  | .inr _ :: _, _, h => h.elim
def hy_lv (b : Nat) (ρ : Nat → Nat) (L : hyL) : List (Nat × Value) := L.zipIdx.filterMap (fun q => q.1.map (fun v => (q.2, hy_v b ρ v)))
theorem hy_lv_mem {b : Nat} {ρ : Nat → Nat} {L : hyL} {i : Nat} {x : Value} : (i, x) ∈ hy_lv b ρ L ↔ ∃ v, L[i]? = some (some v) ∧ hy_v b ρ v = x := by
  unfold hy_lv
  rw [List.mem_filterMap]
  constructor
  · rintro ⟨⟨o, j⟩, h1, h2⟩
    rw [List.mem_zipIdx_iff_getElem?] at h1
    cases o with
    | none => cases h2
    | some v =>
      simp only [Option.map_some, Option.some.injEq, Prod.mk.injEq] at h2
      exact ⟨v, by rw [← h2.1]; exact h1, h2.2⟩
  · rintro ⟨v, h1, h2⟩
    exact ⟨(some v, i), by rw [List.mem_zipIdx_iff_getElem?]; exact h1, by simp [h2]⟩
theorem hy_lr_has {b : Nat} {ρ : Nat → Nat} {nL : Nat} {L : hyL} {ls : Array Slot} (h : hy_lr b ρ nL L ls) : lv_has ls nL (hy_lv b ρ L) := by
  refine ⟨h.1, h.2.2.1, fun q hq => ?_⟩
  obtain ⟨v, h1, h2⟩ := hy_lv_mem.mp (show (q.1, q.2) ∈ hy_lv b ρ L from hq)
  rw [← h2]
  exact h.2.2.2 q.1 v h1
theorem hy_v_cat (b : Nat) (ρ : Nat → Nat) (v : hyV) : (hy_v b ρ v).category = 1 := by
  match v with
  | .inl _ => rfl
  | .inr (.inl _) => rfl
  | .inr (.inr false) => rfl
  | .inr (.inr true) => rfl
theorem hy_lr_set {b : Nat} {ρ : Nat → Nat} {nL : Nat} {L : hyL} {ls : Array Slot} {a : Nat} {x : hyV} (hL : L.length = nL) (h : lv_has ls nL ((a, hy_v b ρ x) :: (hy_lv b ρ L).filter (fun q => !(q.1 == a) && !(q.1 + 1 == a && q.2.category == 2)))) : hy_lr b ρ nL (L.set a (some x)) ls := by
  refine ⟨h.1, by simp [hL], h.2.1, fun i v hi => ?_⟩
  rw [List.getElem?_set] at hi
  by_cases e : a = i
  · subst e
    rw [if_pos rfl] at hi
    split at hi
    · cases hi
      exact h.2.2 (a, hy_v b ρ x) List.mem_cons_self
    · cases hi
  · rw [if_neg e] at hi
    refine h.2.2 (i, hy_v b ρ v) (List.mem_cons_of_mem _ (List.mem_filter.mpr ⟨hy_lv_mem.mpr ⟨v, hi, rfl⟩, ?_⟩))
    have hc := hy_v_cat b ρ v
    simp [hc]
    exact fun h => e h.symm
theorem hy_lr_ag {b n : Nat} {ρ ρ' : Nat → Nat} {nL : Nat} {L : hyL} {ls : Array Slot} (h : ∀ k, k < n → ρ' k = ρ k) (hL : hy_lok n L = true) (hl : hy_lr b ρ nL L ls) : hy_lr b ρ' nL L ls := by
  refine ⟨hl.1, hl.2.1, hl.2.2.1, fun i v hi => ?_⟩
  rw [hy_v_ag h (List.all_eq_true.mp hL _ (List.mem_of_getElem? hi))]
  exact hl.2.2.2 i v hi
theorem hy_K_set {dC : Nat → ClassId} {dI : Nat → Nat → Nat} {κ : Nat → ClassId} {w : hyW} {U : State} {k : Nat} {c : hyC} (h : hy_K dC dI κ w U) (hc : ∀ t n f, c = .inl (t, n, f) → ∃ n' f', w[k]? = some (.inl (t, n', f'))) : hy_K dC dI κ (w.set k c) U := by
  refine ⟨h.1, fun j t n f hj => ?_⟩
  rw [List.getElem?_set] at hj
  by_cases e : k = j
  · subst e
    rw [if_pos rfl] at hj
    split at hj
    · obtain ⟨n', f', h1⟩ := hc t n f (Option.some.inj hj)
      exact h.2 k t n' f' h1
    · cases hj
  · rw [if_neg e] at hj
    exact h.2 j t n f hj
theorem hy_K_moved {dC : Nat → ClassId} {dI : Nat → Nat → Nat} {κ : Nat → ClassId} {w : hyW} {u U : State} (hvm : u.vm.Alike U.vm) (h : hy_K dC dI κ w u) : hy_K dC dI κ w U :=
  ⟨va_K.moved hvm h.1, fun k t n f hk => va_K.moved hvm (h.2 k t n f hk)⟩
theorem hy_nw_form {x : Cond} (h : x ∈ hy_nw) : ∃ a i y hh, x = .methodLinkNest a i y hh := by
  have h2 := (List.mem_filter.mp h).2
  revert h2
  cases x <;> intro h2 <;> first | exact ⟨_, _, _, _, rfl⟩ | cases h2
theorem hy_nw_warm {s U : State} (hW : s.WarmedH U.vm) (h : ∀ x ∈ hy_nw, va_Nw x s) : ∀ x ∈ hy_nw, va_Nw x U := by
  intro x hx
  obtain ⟨a, i, y, hh, rfl⟩ := hy_nw_form hx
  exact va_Nw.warmM hW (h _ hx)
theorem hy_nw_same {s U : State} (hW : s.vm = U.vm) (h : ∀ x ∈ hy_nw, va_Nw x s) : ∀ x ∈ hy_nw, va_Nw x U := by
  intro x hx
  obtain ⟨a, i, y, hh, rfl⟩ := hy_nw_form hx
  exact va_Nw.same rfl hW (h _ hx)
theorem hy_ag_refl (kc n : Nat) (ρ : Nat → Nat) (κ : Nat → ClassId) : hy_ag kc n n ρ κ ρ κ := ⟨Nat.le_refl n, fun _ => ⟨rfl, rfl⟩, fun _ _ => ⟨rfl, rfl⟩⟩
/-! ===== one step of a frame ===== -/
/-- a step that leaves locals and world alone -/
theorem hy_s0 {scr : hyS} {d : Nat} {M : hyM} {Q : hyQ} {kc ks pc pc' : Nat} {L : hyL} {st st' : List hyV} {w : hyW}
    (h : ∀ (p : Program) (l : Launch) (e : Env) (R : Room) (s : State) (m : MethodId) (args : Array Value) (below : List Frame) (meth : Method) (c : Code) (A : Nat → Prop) (dC : Nat → ClassId) (dI : Nat → Nat → Nat) (b : Nat) (Qf : State → Prop) (ρ : Nat → Nat) (κ : Nat → ClassId) (H : Heap) (locs : List Loc) (cells slots : Nat) (ls : Array Slot),
      hy_cx M p s m args meth c A → hy_sc scr b s A → d ≤ R.frames → 40 * (d + 1) ≤ R.locals → hy_lr b ρ M.2.2.1 L ls → hy_U dC dI b ρ κ A w s H → va_S A s.heap H locs →
      W p l e R s m args below meth c H locs cells slots Qf (F0 m pc' ls (st'.map (hy_v b ρ))) → W p l e R s m args below meth c H locs cells slots Qf (F0 m pc ls (st.map (hy_v b ρ))))
    (k : hy_X scr d M Q kc ks (pc', L, st', w)) : hy_X scr d M Q kc ks (pc, L, st, w) := by
  intro p l e R s m args below meth c A dC dI b Qf ρ κ H locs cells slots ls h1 h2 h3 h4 h5 h6 h7 h8 h9 h10
  exact h p l e R s m args below meth c A dC dI b Qf ρ κ H locs cells slots ls h1 h2 h3 h4 h7 h8 h9 (k p l e R s m args below meth c A dC dI b Qf ρ κ H locs cells slots ls h1 h2 h3 h4 h5 h6 h7 h8 h9 h10)
/-- a step that stores into a local -/
theorem hy_s1 {scr : hyS} {d : Nat} {M : hyM} {Q : hyQ} {kc ks pc pc' a : Nat} {L : hyL} {st st' : List hyV} {w : hyW} {x : hyV}
    (h : ∀ (p : Program) (l : Launch) (e : Env) (R : Room) (s : State) (m : MethodId) (args : Array Value) (below : List Frame) (meth : Method) (c : Code) (A : Nat → Prop) (b : Nat) (Qf : State → Prop) (ρ : Nat → Nat) (H : Heap) (locs : List Loc) (cells slots : Nat) (ls : Array Slot),
      hy_cx M p s m args meth c A → hy_lr b ρ M.2.2.1 L ls → lv_has ls M.2.2.1 (hy_lv b ρ L) →
      (∀ ls', lv_has ls' M.2.2.1 ((a, hy_v b ρ x) :: (hy_lv b ρ L).filter (fun q => !(q.1 == a) && !(q.1 + 1 == a && q.2.category == 2))) → W p l e R s m args below meth c H locs cells slots Qf (F0 m pc' ls' (st'.map (hy_v b ρ)))) → W p l e R s m args below meth c H locs cells slots Qf (F0 m pc ls (st.map (hy_v b ρ))))
    (k : hy_X scr d M Q kc ks (pc', L.set a (some x), st', w)) : hy_X scr d M Q kc ks (pc, L, st, w) := by
  intro p l e R s m args below meth c A dC dI b Qf ρ κ H locs cells slots ls h1 h2 h3 h4 h5 h6 h7 h8 h9 h10
  exact h p l e R s m args below meth c A b Qf ρ H locs cells slots ls h1 h7 (hy_lr_has h7) (fun ls' h' => k p l e R s m args below meth c A dC dI b Qf ρ κ H locs cells slots ls' h1 h2 h3 h4 h5 h6 (hy_lr_set h7.2.1 h') h8 h9 h10)
/-- a step that changes one cell -/
theorem hy_s2 {scr : hyS} {d : Nat} {M : hyM} {Q : hyQ} {kc ks pc pc' a : Nat} {L : hyL} {st st' : List hyV} {w : hyW} {x : hyC} (hx : ∀ t n f, x = .inl (t, n, f) → ∃ n' f', w[a]? = some (.inl (t, n', f')))
    (h : ∀ (p : Program) (l : Launch) (e : Env) (R : Room) (s : State) (m : MethodId) (args : Array Value) (below : List Frame) (meth : Method) (c : Code) (A : Nat → Prop) (dC : Nat → ClassId) (dI : Nat → Nat → Nat) (b : Nat) (Qf : State → Prop) (ρ : Nat → Nat) (κ : Nat → ClassId) (H : Heap) (locs : List Loc) (cells slots : Nat) (ls : Array Slot),
      hy_cx M p s m args meth c A → hy_U dC dI b ρ κ A w s H → va_S A s.heap H locs →
      (∀ H1 locs1, va_P (dC, dI) vwCl ((hy_w b ρ κ w).set a (ρ a, hy_c b ρ κ a x)) H1 → va_D A ((hy_w b ρ κ w).set a (ρ a, hy_c b ρ κ a x)) → va_S A s.heap H1 locs1 → W p l e R s m args below meth c H1 locs1 cells slots Qf (F0 m pc' ls (st'.map (hy_v b ρ)))) → W p l e R s m args below meth c H locs cells slots Qf (F0 m pc ls (st.map (hy_v b ρ))))
    (k : hy_X scr d M Q kc ks (pc', L, st', w.set a x)) : hy_X scr d M Q kc ks (pc, L, st, w) := by
  intro p l e R s m args below meth c A dC dI b Qf ρ κ H locs cells slots ls h1 h2 h3 h4 h5 h6 h7 h8 h9 h10
  refine h p l e R s m args below meth c A dC dI b Qf ρ κ H locs cells slots ls h1 h8 h9 (fun H1 locs1 a1 a2 a3 => ?_)
  rw [hy_w_set] at a1 a2
  exact k p l e R s m args below meth c A dC dI b Qf ρ κ H1 locs1 cells slots ls h1 h2 h3 h4 h5 h6 h7 ⟨a1, a2, hy_K_set h8.2.2 hx⟩ a3 (by
    show hy_rt p l e R s m args below meth c A dC dI b Qf M Q kc ks (w.set a x).length ρ κ cells slots
    rw [List.length_set]; exact h10)
theorem hy_br_ok {cd : ClassFile.Cond} {x y : Int32} {A B : Prop} (h : hy_br cd x y A B) : (hy_cmp cd x y → A) ∧ (¬ hy_cmp cd x y → B) := by
  cases cd with
  | ne => exact ⟨h.2, fun q => h.1 (Classical.not_not.mp q)⟩
  | _ => exact h
end
section
/-! ===== each instruction ===== -/
theorem hy_and1 {a b : Bool} (h : (a && b) = true) : a = true ∧ b = true := by simpa using h
theorem hy_x_iload_n {scr : hyS} {d : Nat} {M : hyM} {Q : hyQ} {kc ks pc : Nat} {L : hyL} {st : List hyV} {w : hyW} {k : Fin 4} {x : Int32} (hd : decode M.2.1 pc = .ok (.iload_n k, 1)) (hx : L[k.val]? = some (some (.inl x))) (K : hy_X scr d M Q kc ks (pc + 1, L, .inl x :: st, w)) : hy_X scr d M Q kc ks (pc, L, st, w) :=
  hy_s0 (fun p l e R s m args below meth c A dC dI b Qf ρ κ H locs cells slots ls h1 h2 h3 h4 h7 h8 h9 kk => lv_iload_n h1.1 h1.2.1 hd rfl (h7.2.2.2 _ _ hx) kk) K
theorem hy_x_iload {scr : hyS} {d : Nat} {M : hyM} {Q : hyQ} {kc ks pc : Nat} {L : hyL} {st : List hyV} {w : hyW} {i : Nat} {x : Int32} (hd : decode M.2.1 pc = .ok (.iload i, 2)) (hx : L[i]? = some (some (.inl x))) (K : hy_X scr d M Q kc ks (pc + 2, L, .inl x :: st, w)) : hy_X scr d M Q kc ks (pc, L, st, w) :=
  hy_s0 (fun p l e R s m args below meth c A dC dI b Qf ρ κ H locs cells slots ls h1 h2 h3 h4 h7 h8 h9 kk => lv_iload h1.1 h1.2.1 hd (h7.2.2.2 _ _ hx) kk) K
def hy_isref (v : hyV) : Prop := (∃ k, v = .inr (.inl k)) ∨ v = .inr (.inr true)
theorem hy_isref_v {v : hyV} (h : hy_isref v) (b : Nat) (ρ : Nat → Nat) : ∃ a, hy_v b ρ v = .ref a := by
  rcases h with ⟨k, rfl⟩ | rfl
  · exact ⟨_, rfl⟩
  · exact ⟨_, rfl⟩
theorem hy_x_aload_n {scr : hyS} {d : Nat} {M : hyM} {Q : hyQ} {kc ks pc : Nat} {L : hyL} {st : List hyV} {w : hyW} {k : Fin 4} {x : hyV} (hr : hy_isref x) (hd : decode M.2.1 pc = .ok (.aload_n k, 1)) (hx : L[k.val]? = some (some x)) (K : hy_X scr d M Q kc ks (pc + 1, L, x :: st, w)) : hy_X scr d M Q kc ks (pc, L, st, w) :=
  hy_s0 (fun p l e R s m args below meth c A dC dI b Qf ρ κ H locs cells slots ls h1 h2 h3 h4 h7 h8 h9 kk => by
    obtain ⟨a, ha⟩ := hy_isref_v hr b ρ
    have h := h7.2.2.2 _ _ hx
    rw [List.map_cons, ha] at kk
    rw [ha] at h
    exact lv_aload_n h1.1 h1.2.1 hd rfl h kk) K
theorem hy_x_aload {scr : hyS} {d : Nat} {M : hyM} {Q : hyQ} {kc ks pc : Nat} {L : hyL} {st : List hyV} {w : hyW} {i : Nat} {x : hyV} (hr : hy_isref x) (hd : decode M.2.1 pc = .ok (.aload i, 2)) (hx : L[i]? = some (some x)) (K : hy_X scr d M Q kc ks (pc + 2, L, x :: st, w)) : hy_X scr d M Q kc ks (pc, L, st, w) :=
  hy_s0 (fun p l e R s m args below meth c A dC dI b Qf ρ κ H locs cells slots ls h1 h2 h3 h4 h7 h8 h9 kk => by
    obtain ⟨a, ha⟩ := hy_isref_v hr b ρ
    have h := h7.2.2.2 _ _ hx
    rw [List.map_cons, ha] at kk
    rw [ha] at h
    exact lv_aload h1.1 h1.2.1 hd h kk) K
theorem hy_x_istore_n {scr : hyS} {d : Nat} {M : hyM} {Q : hyQ} {kc ks pc : Nat} {L : hyL} {st : List hyV} {w : hyW} {k : Fin 4} {x : Int32} (hd : decode M.2.1 pc = .ok (.istore_n k, 1)) (hn : k.val < L.length) (K : hy_X scr d M Q kc ks (pc + 1, L.set k.val (some (.inl x)), st, w)) : hy_X scr d M Q kc ks (pc, L, .inl x :: st, w) :=
  hy_s1 (fun p l e R s m args below meth c A b Qf ρ H locs cells slots ls h1 h7 h8 kk => lv_istore_n h1.1 h1.2.1 hd rfl h8 (h7.2.1 ▸ hn) rfl kk) K
theorem hy_x_istore {scr : hyS} {d : Nat} {M : hyM} {Q : hyQ} {kc ks pc : Nat} {L : hyL} {st : List hyV} {w : hyW} {i : Nat} {x : Int32} (hd : decode M.2.1 pc = .ok (.istore i, 2)) (hn : i < L.length) (K : hy_X scr d M Q kc ks (pc + 2, L.set i (some (.inl x)), st, w)) : hy_X scr d M Q kc ks (pc, L, .inl x :: st, w) :=
  hy_s1 (fun p l e R s m args below meth c A b Qf ρ H locs cells slots ls h1 h7 h8 kk => lv_istore h1.1 h1.2.1 hd h8 (h7.2.1 ▸ hn) rfl kk) K
theorem hy_x_astore_n {scr : hyS} {d : Nat} {M : hyM} {Q : hyQ} {kc ks pc : Nat} {L : hyL} {st : List hyV} {w : hyW} {k : Fin 4} {x : Nat} (hd : decode M.2.1 pc = .ok (.astore_n k, 1)) (hn : k.val < L.length) (K : hy_X scr d M Q kc ks (pc + 1, L.set k.val (some (.inr (.inl x))), st, w)) : hy_X scr d M Q kc ks (pc, L, .inr (.inl x) :: st, w) :=
  hy_s1 (fun p l e R s m args below meth c A b Qf ρ H locs cells slots ls h1 h7 h8 kk => lv_astore_n h1.1 h1.2.1 hd rfl h8 (h7.2.1 ▸ hn) rfl kk) K
theorem hy_x_astore {scr : hyS} {d : Nat} {M : hyM} {Q : hyQ} {kc ks pc : Nat} {L : hyL} {st : List hyV} {w : hyW} {i : Nat} {x : Nat} (hd : decode M.2.1 pc = .ok (.astore i, 2)) (hn : i < L.length) (K : hy_X scr d M Q kc ks (pc + 2, L.set i (some (.inr (.inl x))), st, w)) : hy_X scr d M Q kc ks (pc, L, .inr (.inl x) :: st, w) :=
  hy_s1 (fun p l e R s m args below meth c A b Qf ρ H locs cells slots ls h1 h7 h8 kk => lv_astore h1.1 h1.2.1 hd h8 (h7.2.1 ▸ hn) rfl kk) K
theorem hy_x_iinc {scr : hyS} {d : Nat} {M : hyM} {Q : hyQ} {kc ks pc : Nat} {L : hyL} {st : List hyV} {w : hyW} {i : Nat} {n : Int} {x v : Int32} (hd : decode M.2.1 pc = .ok (.iinc i n, 3)) (hv : Int32.ofInt n = v) (hx : L[i]? = some (some (.inl x))) (K : hy_X scr d M Q kc ks (pc + 3, L.set i (some (.inl (x + v))), st, w)) : hy_X scr d M Q kc ks (pc, L, st, w) :=
  hy_s1 (fun p l e R s m args below meth c A b Qf ρ H locs cells slots ls h1 h7 h8 kk => by
    obtain ⟨k, hk⟩ := List.getElem?_of_mem (hy_lv_mem.mpr ⟨_, hx, rfl⟩ : (i, hy_v b ρ (.inl x)) ∈ hy_lv b ρ L)
    subst hv
    exact lv_iinc h1.1 h1.2.1 hd h8 hk rfl (h7.2.1 ▸ (List.getElem?_eq_some_iff.mp hx).1) rfl kk) K
theorem hy_x_iconst {scr : hyS} {d : Nat} {M : hyM} {Q : hyQ} {kc ks pc : Nat} {L : hyL} {st : List hyV} {w : hyW} {n : Int} {v : Int32} (hd : decode M.2.1 pc = .ok (.iconst n, 1)) (hv : Int32.ofInt n = v) (K : hy_X scr d M Q kc ks (pc + 1, L, .inl v :: st, w)) : hy_X scr d M Q kc ks (pc, L, st, w) :=
  hy_s0 (fun p l e R s m args below meth c A dC dI b Qf ρ κ H locs cells slots ls h1 h2 h3 h4 h7 h8 h9 kk => lv_iconst h1.1 h1.2.1 hd hv kk) K
theorem hy_x_bipush {scr : hyS} {d : Nat} {M : hyM} {Q : hyQ} {kc ks pc : Nat} {L : hyL} {st : List hyV} {w : hyW} {n : Int} {v : Int32} (hd : decode M.2.1 pc = .ok (.bipush n, 2)) (hv : (Int8.ofInt n).toInt32 = v) (K : hy_X scr d M Q kc ks (pc + 2, L, .inl v :: st, w)) : hy_X scr d M Q kc ks (pc, L, st, w) :=
  hy_s0 (fun p l e R s m args below meth c A dC dI b Qf ρ κ H locs cells slots ls h1 h2 h3 h4 h7 h8 h9 kk => lv_bipush h1.1 h1.2.1 hd hv kk) K
theorem hy_x_sipush {scr : hyS} {d : Nat} {M : hyM} {Q : hyQ} {kc ks pc : Nat} {L : hyL} {st : List hyV} {w : hyW} {n : Int} {v : Int32} (hd : decode M.2.1 pc = .ok (.sipush n, 3)) (hv : (Int16.ofInt n).toInt32 = v) (K : hy_X scr d M Q kc ks (pc + 3, L, .inl v :: st, w)) : hy_X scr d M Q kc ks (pc, L, st, w) :=
  hy_s0 (fun p l e R s m args below meth c A dC dI b Qf ρ κ H locs cells slots ls h1 h2 h3 h4 h7 h8 h9 kk => lv_sipush h1.1 h1.2.1 hd hv kk) K
theorem hy_x_ldc {scr : hyS} {d : Nat} {M : hyM} {Q : hyQ} {kc ks pc : Nat} {L : hyL} {st : List hyV} {w : hyW} {i : Nat} {v : Int32} (hd : decode M.2.1 pc = .ok (.ldc i, 2)) (hv : Cond.constant M.1.cls i v ∈ hy_tt) (K : hy_X scr d M Q kc ks (pc + 2, L, .inl v :: st, w)) : hy_X scr d M Q kc ks (pc, L, st, w) :=
  hy_s0 (fun p l e R s m args below meth c A dC dI b Qf ρ κ H locs cells slots ls h1 h2 h3 h4 h7 h8 h9 kk => lv_ldc h1.1 h1.2.1 h1.2.2.2.1 (h1.2.2.2.2.1 _ hv) hd kk) K
theorem hy_x_ldcw {scr : hyS} {d : Nat} {M : hyM} {Q : hyQ} {kc ks pc : Nat} {L : hyL} {st : List hyV} {w : hyW} {i : Nat} {v : Int32} (hd : decode M.2.1 pc = .ok (.ldc_w i, 3)) (hv : Cond.constant M.1.cls i v ∈ hy_tt) (K : hy_X scr d M Q kc ks (pc + 3, L, .inl v :: st, w)) : hy_X scr d M Q kc ks (pc, L, st, w) :=
  hy_s0 (fun p l e R s m args below meth c A dC dI b Qf ρ κ H locs cells slots ls h1 h2 h3 h4 h7 h8 h9 kk => lv_ldcw h1.1 h1.2.1 h1.2.2.2.1 (h1.2.2.2.2.1 _ hv) hd kk) K
theorem hy_x_icmp {scr : hyS} {d : Nat} {M : hyM} {Q : hyQ} {kc ks pc a : Nat} {L : hyL} {st : List hyV} {w : hyW} {cd : ClassFile.Cond} {off : Int} {x y : Int32} (hd : decode M.2.1 pc = .ok (.if_icmp cd off, 3)) (ht : (pc : Int) + off = (a : Int)) (kt : hy_cmp cd x y → hy_X scr d M Q kc ks (a, L, st, w)) (kf : ¬ hy_cmp cd x y → hy_X scr d M Q kc ks (pc + 3, L, st, w)) : hy_X scr d M Q kc ks (pc, L, .inl y :: .inl x :: st, w) := by
  intro p l e R s m args below meth c A dC dI b Qf ρ κ H locs cells slots ls h1 h2 h3 h4 h5 h6 h7 h8 h9 h10
  have k1 := fun q => kt q p l e R s m args below meth c A dC dI b Qf ρ κ H locs cells slots ls h1 h2 h3 h4 h5 h6 h7 h8 h9 h10
  have k2 := fun q => kf q p l e R s m args below meth c A dC dI b Qf ρ κ H locs cells slots ls h1 h2 h3 h4 h5 h6 h7 h8 h9 h10
  cases cd with
  | eq => exact lv_icmp_eq h1.1 h1.2.1 hd ht k1 k2
  | ne => exact lv_icmp_ne h1.1 h1.2.1 hd ht k1 (fun q => k2 (fun h => h q))
  | lt => exact lv_icmp_lt h1.1 h1.2.1 hd ht k1 k2
  | ge => exact lv_icmp_ge h1.1 h1.2.1 hd ht k1 k2
  | gt => exact lv_icmp_gt h1.1 h1.2.1 hd ht k1 k2
  | le => exact lv_icmp_le h1.1 h1.2.1 hd ht k1 k2
theorem hy_x_if {scr : hyS} {d : Nat} {M : hyM} {Q : hyQ} {kc ks pc a : Nat} {L : hyL} {st : List hyV} {w : hyW} {cd : ClassFile.Cond} {off : Int} {x : Int32} (hd : decode M.2.1 pc = .ok (.ifCond cd off, 3)) (ht : (pc : Int) + off = (a : Int)) (kt : hy_cmp cd x 0 → hy_X scr d M Q kc ks (a, L, st, w)) (kf : ¬ hy_cmp cd x 0 → hy_X scr d M Q kc ks (pc + 3, L, st, w)) : hy_X scr d M Q kc ks (pc, L, .inl x :: st, w) := by
  intro p l e R s m args below meth c A dC dI b Qf ρ κ H locs cells slots ls h1 h2 h3 h4 h5 h6 h7 h8 h9 h10
  have k1 := fun q => kt q p l e R s m args below meth c A dC dI b Qf ρ κ H locs cells slots ls h1 h2 h3 h4 h5 h6 h7 h8 h9 h10
  have k2 := fun q => kf q p l e R s m args below meth c A dC dI b Qf ρ κ H locs cells slots ls h1 h2 h3 h4 h5 h6 h7 h8 h9 h10
  cases cd with
  | eq => exact lv_if_eq h1.1 h1.2.1 hd ht k1 k2
  | ne => exact lv_if_ne h1.1 h1.2.1 hd ht k1 (fun q => k2 (fun h => h q))
  | lt => exact lv_if_lt h1.1 h1.2.1 hd ht k1 k2
  | ge => exact lv_if_ge h1.1 h1.2.1 hd ht k1 k2
  | gt => exact lv_if_gt h1.1 h1.2.1 hd ht k1 k2
  | le => exact lv_if_le h1.1 h1.2.1 hd ht k1 k2
def hy_tg (x : Int) (a : Nat) : List (Int × Nat) → Nat
  | [] => a
  | s :: r => if x = s.1 then s.2 else hy_tg x a r
theorem hy_sw_ok {x : Int32} {a : Nat} {K : Nat → Prop} : ∀ {sw : List (Int × Nat)}, hy_sw x (K a) K sw → K (hy_tg x.toInt a sw)
  | [], h => h
  | s :: r, h => by
    by_cases e : x.toInt = s.1
    · rw [hy_tg, if_pos e]; exact h.1 e
    · rw [hy_tg, if_neg e]; exact hy_sw_ok (h.2 e)
theorem hy_tsw_in {pc a : Nat} {x : Int} : ∀ {lo : Int} {offs : List Int} {sw : List (Int × Nat)}, hy_tsw pc lo offs sw = true → lo ≤ x → x < lo + (offs.length : Int) → ∃ o, offs[(x - lo).toNat]? = some o ∧ (pc : Int) + o = (hy_tg x a sw : Nat)
  | lo, [], [], _, h1, h2 => absurd h2 (by simp; omega)
  | lo, o :: os, s :: ss, h, h1, h2 => by
    simp only [hy_tsw, Bool.and_eq_true, decide_eq_true_eq] at h
    by_cases e : x = s.1
    · rw [hy_tg, if_pos e]
      have : (x - lo).toNat = 0 := by omega
      exact ⟨o, by rw [this]; rfl, h.1.2⟩
    · rw [hy_tg, if_neg e]
      have hlt : lo + 1 ≤ x := by omega
      obtain ⟨o', a1, a2⟩ := hy_tsw_in (a := a) h.2 hlt (by simp at h2; omega)
      refine ⟨o', ?_, a2⟩
      have : (x - lo).toNat = (x - (lo + 1)).toNat + 1 := by omega
      rw [this]; simpa using a1
  | lo, [], _ :: _, h, _, _ => by cases h
  | lo, _ :: _, [], h, _, _ => by cases h
theorem hy_tsw_out {pc a : Nat} {x : Int} : ∀ {lo : Int} {offs : List Int} {sw : List (Int × Nat)}, hy_tsw pc lo offs sw = true → (x < lo ∨ lo + (offs.length : Int) ≤ x) → hy_tg x a sw = a
  | lo, [], [], _, _ => rfl
  | lo, o :: os, s :: ss, h, h2 => by
    simp only [hy_tsw, Bool.and_eq_true, decide_eq_true_eq] at h
    have hl : ((o :: os).length : Int) = (os.length : Int) + 1 := by simp
    rw [hl] at h2
    have e : ¬ x = s.1 := by omega
    rw [hy_tg, if_neg e]
    exact hy_tsw_out h.2 (by omega)
  | lo, [], _ :: _, h, _ => by cases h
  | lo, _ :: _, [], h, _ => by cases h
theorem hy_lsw_ok {pc : Nat} {dflt : Int} {a : Nat} (x : Int) (ha : (pc : Int) + dflt = (a : Int)) : ∀ {ps : List (Int × Int)} {sw : List (Int × Nat)}, hy_lsw pc ps sw = true → (pc : Int) + Op.lookupswitch.offset ps dflt x = (hy_tg x a sw : Nat)
  | [], [], _ => ha
  | o :: os, s :: ss, h => by
    simp only [hy_lsw, Bool.and_eq_true, decide_eq_true_eq] at h
    obtain ⟨o1, o2⟩ := o
    by_cases e : x = s.1
    · rw [hy_tg, if_pos e]
      have h2 : o1 = x := by rw [e]; exact h.1.1.symm
      have : Op.lookupswitch.offset ((o1, o2) :: os) dflt x = o2 := by simp [Op.lookupswitch.offset, h2]
      rw [this]; exact h.1.2
    · rw [hy_tg, if_neg e]
      have h2 : ¬ o1 = x := by intro q; apply e; rw [← q]; exact h.1.1.symm
      have : Op.lookupswitch.offset ((o1, o2) :: os) dflt x = Op.lookupswitch.offset os dflt x := by simp [Op.lookupswitch.offset, h2]
      rw [this]; exact hy_lsw_ok x ha h.2
  | [], _ :: _, h => by cases h
  | _ :: _, [], h => by cases h
end
section
/-! ===== fields, arrays, returns ===== -/
theorem hy_x_get {scr : hyS} {d : Nat} {M : hyM} {Q : hyQ} {kc ks pc : Nat} {L : hyL} {st : List hyV} {w : hyW} {i k a f : Nat} {C : String} {T : u_T} {N : Nat} {fs : List hyV} {x : hyV} (hd : decode M.2.1 pc = .ok (.getfield i, 3)) (hc : vwCl[a]? = some (C, T, N)) (hf : f < N) (hl : Cond.fieldLink M.1.cls i (T f).1 (T f).2.1 (T f).2.2.1 ∈ hy_tt) (hw : w[k]? = some (.inr (a, fs))) (hx : fs[f]? = some x) (K : hy_X scr d M Q kc ks (pc + 3, L, x :: st, w)) : hy_X scr d M Q kc ks (pc, L, .inr (.inl k) :: st, w) :=
  hy_s0 (fun p l e R s m args below meth c A dC dI b Qf ρ κ H locs cells slots ls h1 h2 h3 h4 h7 h8 h9 kk => by
    obtain ⟨ty0, -, -, hin, -⟩ := hy_cls 0 id hc
    have he : (hy_w b ρ κ w)[k]? = some (ρ k, .inr (a, fs.map (hy_v b ρ))) := hy_w_at hw
    have hv : (fs.map (hy_v b ρ))[f]? = some (hy_v b ρ x) := by rw [List.getElem?_map, hx]; rfl
    exact va_get (D := (dC, dI)) h1.1 h1.2.1 h1.2.2.2.2.1 hin h1.2.2.2.1 h8.2.2.1 h8.1 k he hc f hf (h1.2.2.2.2.1 _ hl) (fun _ h => h) hv hd kk) K
theorem hy_fits_ok {c : Nat} {x : hyV} {P : Prop} (h : hy_fits c x P) : P ∧ ((∃ z, (c = 0 ∨ c = 3) ∧ x = .inl z) ∨ (∃ z, c = 1 ∧ x = .inl z ∧ (z = 0 ∨ z = 1)) ∨ (∃ k, c = 2 ∧ x = .inr (.inl k))) := by
  unfold hy_fits at h
  split at h
  · exact ⟨h, Or.inl ⟨_, Or.inl rfl, rfl⟩⟩
  · exact ⟨h.2, Or.inr (Or.inl ⟨_, rfl, rfl, h.1⟩)⟩
  · exact ⟨h, Or.inr (Or.inr ⟨_, rfl, rfl⟩)⟩
  · exact ⟨h, Or.inl ⟨_, Or.inr rfl, rfl⟩⟩
  · exact h.elim
theorem hy_nar_ref {t : FieldType} (h : hy_isR (some t) = true) (a : Nat) : narrow t (.ref a) = .ref a ∧ fits t (.ref a) = true := by
  cases t <;> first | exact ⟨rfl, rfl⟩ | cases h
theorem hy_nar_bool {z : Int32} (h : z = 0 ∨ z = 1) : narrow .boolean (.int z) = .int z ∧ fits .boolean (.int z) = true := by
  rcases h with rfl | rfl
  · exact ⟨rfl, rfl⟩
  · exact ⟨rfl, rfl⟩
theorem hy_pI : parseFieldDescriptor "I" = some .int := by decide +kernel
theorem hy_pZ : parseFieldDescriptor "Z" = some .boolean := by decide +kernel
theorem hy_fk_ok {c : Nat} {own nm : String} {q : String × String × String × Bool} {x : hyV} {P : Prop} (hk : hy_fk c own nm q = true) (hx : hy_fits c x P) (b : Nat) (ρ : Nat → Nat) : ∃ ty, parseFieldDescriptor q.2.2.1 = some ty ∧ narrow ty (hy_v b ρ x) = hy_v b ρ x ∧ fits ty (hy_v b ρ x) = true ∧ (q.2.2.2 = false ∨ (q.2.2.2 = true ∧ nm = "<init>" ∧ q.1 = own)) := by
  obtain ⟨-, ⟨z, hc, rfl⟩ | ⟨z, rfl, rfl, hz⟩ | ⟨k, rfl, rfl⟩⟩ := hy_fits_ok hx
  · rcases hc with rfl | rfl
    · simp only [hy_fk, Bool.and_eq_true, decide_eq_true_eq] at hk
      exact ⟨.int, by rw [hk.1]; exact hy_pI, rfl, rfl, Or.inl hk.2⟩
    · simp only [hy_fk, Bool.and_eq_true, decide_eq_true_eq] at hk
      exact ⟨.int, by rw [hk.1.1.1]; exact hy_pI, rfl, rfl, Or.inr ⟨hk.1.1.2, hk.1.2, hk.2⟩⟩
  · simp only [hy_fk, Bool.and_eq_true, decide_eq_true_eq] at hk
    exact ⟨.boolean, by rw [hk.1]; exact hy_pZ, (hy_nar_bool hz).1, (hy_nar_bool hz).2, Or.inl hk.2⟩
  · simp only [hy_fk, Bool.and_eq_true, decide_eq_true_eq] at hk
    obtain ⟨⟨⟨h1, h2⟩, h3⟩, h4⟩ := hk
    cases ht : parseFieldDescriptor q.2.2.1 with
    | none => rw [ht] at h1; cases h1
    | some t =>
      rw [ht] at h1
      exact ⟨t, rfl, (hy_nar_ref h1 _).1, (hy_nar_ref h1 _).2, Or.inr ⟨h2, h3, h4⟩⟩
theorem hy_x_put {scr : hyS} {d : Nat} {M : hyM} {Q : hyQ} {kc ks pc : Nat} {L : hyL} {st : List hyV} {w : hyW} {i k a f cc : Nat} {C : String} {T : u_T} {N : Nat} {fs : List hyV} {x : hyV} {P : Prop} (hd : decode M.2.1 pc = .ok (.putfield i, 3)) (hc : vwCl[a]? = some (C, T, N)) (hf : f < N) (hl : Cond.fieldLink M.1.cls i (T f).1 (T f).2.1 (T f).2.2.1 ∈ hy_tt) (hk : hy_fk cc M.1.cls M.1.name (T f) = true) (hx : hy_fits cc x P) (hw : w[k]? = some (.inr (a, fs))) (hn : f < fs.length) (K : hy_X scr d M Q kc ks (pc + 3, L, st, w.set k (.inr (a, fs.set f x)))) : hy_X scr d M Q kc ks (pc, L, x :: .inr (.inl k) :: st, w) :=
  hy_s2 (fun t n f h => by cases h) (fun p l e R s m args below meth c A dC dI b Qf ρ κ H locs cells slots ls h1 h8 h9 kk => by
    obtain ⟨ty0, hty, hnm, hin, -⟩ := hy_cls 0 id hc
    obtain ⟨ty, t1, t2, t3, t4⟩ := hy_fk_ok hk hx b ρ
    have he : (hy_w b ρ κ w)[k]? = some (ρ k, .inr (a, fs.map (hy_v b ρ))) := hy_w_at hw
    have hs : hy_c b ρ κ k (.inr (a, fs.set f x)) = .inr (a, (fs.map (hy_v b ρ)).set f (hy_v b ρ x)) := by
      simp only [hy_c, List.map_set]
    rw [hs] at kk
    rcases t4 with t4 | ⟨t4, t5, t6⟩
    · exact va_put (D := (dC, dI)) h1.1 h1.2.1 h1.2.2.2.2.1 hin ty0 hty hnm h1.2.2.2.1 h8.2.2.1 h8.1 h8.2.1 h9 k he hc f hf (h1.2.2.2.2.1 _ hl) (fun _ h => h) t4 t1 t2 t3 (by rw [List.length_map]; exact hn) hd kk
    · exact va_putF (D := (dC, dI)) h1.1 h1.2.1 h1.2.2.2.2.1 hin ty0 hty hnm h1.2.2.2.1 h8.2.2.1 h8.1 h8.2.1 h9 k he hc f hf (h1.2.2.2.2.1 _ hl) (fun _ h => h) t4 (h1.2.2.2.2.2.2.1 t5) t6 t1 t2 t3 (by rw [List.length_map]; exact hn) hd kk) K
theorem hy_x_iald {scr : hyS} {d : Nat} {M : hyM} {Q : hyQ} {kc ks pc : Nat} {L : hyL} {st : List hyV} {w : hyW} {k n : Nat} {i : Int32} {f : Nat → Int32} (hd : decode M.2.1 pc = .ok (.iaload, 1)) (hw : w[k]? = some (.inl (false, n, f))) (hi : vp_in i n) (K : hy_X scr d M Q kc ks (pc + 1, L, .inl (f i.toNatClampNeg) :: st, w)) : hy_X scr d M Q kc ks (pc, L, .inl i :: .inr (.inl k) :: st, w) :=
  hy_s0 (fun p l e R s m args below meth c A dC dI b Qf ρ κ H locs cells slots ls h1 h2 h3 h4 h7 h8 h9 kk => va_iald (D := (dC, dI)) h1.1 h1.2.1 (h8.2.2.2 k _ _ _ hw) h8.1 k 0 (hy_w_at hw) rfl hi hd kk) K
theorem hy_x_zald {scr : hyS} {d : Nat} {M : hyM} {Q : hyQ} {kc ks pc : Nat} {L : hyL} {st : List hyV} {w : hyW} {k n : Nat} {i : Int32} {f : Nat → Int32} (hd : decode M.2.1 pc = .ok (.baload, 1)) (hw : w[k]? = some (.inl (true, n, f))) (hi : vp_in i n) (K : hy_X scr d M Q kc ks (pc + 1, L, .inl (f i.toNatClampNeg) :: st, w)) : hy_X scr d M Q kc ks (pc, L, .inl i :: .inr (.inl k) :: st, w) :=
  hy_s0 (fun p l e R s m args below meth c A dC dI b Qf ρ κ H locs cells slots ls h1 h2 h3 h4 h7 h8 h9 kk => va_zald (D := (dC, dI)) h1.1 h1.2.1 (h8.2.2.2 k _ _ _ hw) h8.1 k 0 (hy_w_at hw) rfl hi hd kk) K
theorem hy_x_sld {L1 : Nat} {xs : Nat → Int32} {d : Nat} {M : hyM} {Q : hyQ} {kc ks pc : Nat} {L : hyL} {st : List hyV} {w : hyW} {i : Int32} (hd : decode M.2.1 pc = .ok (.iaload, 1)) (hi : vp_in i L1) (K : hy_X (some (L1, xs)) d M Q kc ks (pc + 1, L, .inl (xs i.toNatClampNeg) :: st, w)) : hy_X (some (L1, xs)) d M Q kc ks (pc, L, .inl i :: .inr (.inr true) :: st, w) :=
  hy_s0 (fun p l e R s m args below meth c A dC dI b Qf ρ κ H locs cells slots ls h1 h2 h3 h4 h7 h8 h9 kk => va_sld h1.1 h1.2.1 (h2 _ _ rfl).1 (h2 _ _ rfl).2.1 (h2 _ _ rfl).2.2 h9 hi hd kk) K
theorem hy_x_slen {L1 : Nat} {xs : Nat → Int32} {d : Nat} {M : hyM} {Q : hyQ} {kc ks pc : Nat} {L : hyL} {st : List hyV} {w : hyW} (hd : decode M.2.1 pc = .ok (.arraylength, 1)) (K : hy_X (some (L1, xs)) d M Q kc ks (pc + 1, L, .inl (Int32.ofNat L1) :: st, w)) : hy_X (some (L1, xs)) d M Q kc ks (pc, L, .inr (.inr true) :: st, w) :=
  hy_s0 (fun p l e R s m args below meth c A dC dI b Qf ρ κ H locs cells slots ls h1 h2 h3 h4 h7 h8 h9 kk => va_slen h1.1 h1.2.1 (h2 _ _ rfl).1 (h2 _ _ rfl).2.1 (h2 _ _ rfl).2.2 h9 hd kk) K
theorem hy_x_iast {scr : hyS} {d : Nat} {M : hyM} {Q : hyQ} {kc ks pc : Nat} {L : hyL} {st : List hyV} {w : hyW} {k n : Nat} {i x : Int32} {f : Nat → Int32} (hd : decode M.2.1 pc = .ok (.iastore, 1)) (hw : w[k]? = some (.inl (false, n, f))) (hi : vp_in i n) (K : hy_X scr d M Q kc ks (pc + 1, L, st, w.set k (.inl (false, n, upd f i.toNatClampNeg x)))) : hy_X scr d M Q kc ks (pc, L, .inl x :: .inl i :: .inr (.inl k) :: st, w) :=
  hy_s2 (fun t n' f' h => by cases h; exact ⟨_, _, hw⟩) (fun p l e R s m args below meth c A dC dI b Qf ρ κ H locs cells slots ls h1 h8 h9 kk => va_iast (D := (dC, dI)) h1.1 h1.2.1 (h8.2.2.2 k _ _ _ hw) h8.1 h8.2.1 h9 k 0 (hy_w_at hw) rfl hi hd kk) K
theorem hy_x_zast {scr : hyS} {d : Nat} {M : hyM} {Q : hyQ} {kc ks pc : Nat} {L : hyL} {st : List hyV} {w : hyW} {k n : Nat} {i x : Int32} {f : Nat → Int32} (hd : decode M.2.1 pc = .ok (.bastore, 1)) (hw : w[k]? = some (.inl (true, n, f))) (hi : vp_in i n) (K : hy_X scr d M Q kc ks (pc + 1, L, st, w.set k (.inl (true, n, upd f i.toNatClampNeg (vp_nar .boolean x))))) : hy_X scr d M Q kc ks (pc, L, .inl x :: .inl i :: .inr (.inl k) :: st, w) :=
  hy_s2 (fun t n' f' h => by cases h; exact ⟨_, _, hw⟩) (fun p l e R s m args below meth c A dC dI b Qf ρ κ H locs cells slots ls h1 h8 h9 kk => va_zast (D := (dC, dI)) h1.1 h1.2.1 (h8.2.2.2 k _ _ _ hw) h8.1 h8.2.1 h9 k 0 (hy_w_at hw) rfl hi hd kk) K
theorem hy_x_ireturn {scr : hyS} {d : Nat} {M : hyM} {Q : hyQ} {kc ks pc : Nat} {L : hyL} {w : hyW} {x : Int32} (hd : decode M.2.1 pc = .ok (.ireturn, 1)) (h : Q (some x) w) : hy_X scr d M Q kc ks (pc, L, [.inl x], w) := by
  intro p l e R s m args below meth c A dC dI b Qf ρ κ H locs cells slots ls h1 h2 h3 h4 h5 h6 h7 h8 h9 h10
  exact W.widen (Nat.le_add_right _ _) (Nat.le_add_right _ _) (h10 (some x) w ρ κ H locs pc ls h (hy_ag_refl _ _ _ _) h8 h9 hd)
theorem hy_x_return {scr : hyS} {d : Nat} {M : hyM} {Q : hyQ} {kc ks pc : Nat} {L : hyL} {w : hyW} (hd : decode M.2.1 pc = .ok (.return_, 1)) (h : Q none w) : hy_X scr d M Q kc ks (pc, L, [], w) := by
  intro p l e R s m args below meth c A dC dI b Qf ρ κ H locs cells slots ls h1 h2 h3 h4 h5 h6 h7 h8 h9 h10
  exact W.widen (Nat.le_add_right _ _) (Nat.le_add_right _ _) (h10 none w ρ κ H locs pc ls h (hy_ag_refl _ _ _ _) h8 h9 hd)
/-! ===== new cells ===== -/
def hy_up {α : Type} (f : Nat → α) (k : Nat) (x : α) : Nat → α := fun j => if j = k then x else f j
theorem hy_up_same {α : Type} (f : Nat → α) (k : Nat) (x : α) : hy_up f k x k = x := by simp [hy_up]
theorem hy_up_lt {α : Type} (f : Nat → α) {k j : Nat} (x : α) (h : j < k) : hy_up f k x j = f j := by
  have : ¬ j = k := by omega
  simp [hy_up, this]
theorem hy_fok_ok {L : hyL} {st : List hyV} {w : hyW} (h : hy_fok L st w = true) : hy_lok w.length L = true ∧ st.all (hy_vok w.length) = true ∧ hy_wok w.length w = true := by
  simp only [hy_fok, Bool.and_eq_true] at h
  exact ⟨h.1.1, h.1.2, h.2⟩
theorem hy_dflt_vok (a n : Nat) : (hy_dflt a).all (hy_vok n) = true := by
  match a with
  | 0 => rfl
  | 1 => rfl
  | 2 => rfl
  | 3 => rfl
  | 4 => rfl
  | 5 => rfl
  | 6 => rfl
  | _ + 7 => rfl
theorem hy_rt_grow {p : Program} {l : Launch} {e : Env} {R : Room} {s : State} {m : MethodId} {args : Array Value} {below : List Frame} {meth : Method} {c : Code} {A : Nat → Prop} {dC : Nat → ClassId} {dI : Nat → Nat → Nat} {b : Nat} {Qf : State → Prop} {M : hyM} {Q : hyQ} {kc ks mc ms n n1 : Nat} {ρ ρ1 : Nat → Nat} {κ κ1 : Nat → ClassId} {cells slots : Nat}
    (h : hy_rt p l e R s m args below meth c A dC dI b Qf M Q kc ks n ρ κ cells slots) (hc : mc ≤ kc) (hs : ms ≤ ks) (hm : hy_ag mc n n1 ρ κ ρ1 κ1) : hy_rt p l e R s m args below meth c A dC dI b Qf M Q (kc - mc) (ks - ms) n1 ρ1 κ1 (cells + mc) (slots + ms) := by
  intro r w' ρ' κ' H' locs' pc' ls' a1 a2 a3 a4 a5
  have e1 : cells + mc + (kc - mc) = cells + kc := by omega
  have e2 : slots + ms + (ks - ms) = slots + ks := by omega
  rw [e1, e2]
  refine h r w' ρ' κ' H' locs' pc' ls' a1 ⟨Nat.le_trans hm.1 a2.1, fun h0 => ?_, fun k hk => ?_⟩ a3 a4 a5
  · obtain ⟨q1, q2⟩ := a2.2.1 (by omega)
    obtain ⟨q3, q4⟩ := hm.2.1 (by omega)
    exact ⟨q1.trans q3, q2.trans q4⟩
  · obtain ⟨q1, q2⟩ := a2.2.2 k (Nat.lt_of_lt_of_le hk hm.1)
    obtain ⟨q3, q4⟩ := hm.2.2 k hk
    exact ⟨q1.trans q3, q2.trans q4⟩
theorem hy_ag_new (n q : Nat) (cA : ClassId) (ρ : Nat → Nat) (κ : Nat → ClassId) : hy_ag 1 n (n + 1) ρ κ (hy_up ρ n q) (hy_up κ n cA) :=
  ⟨Nat.le_succ n, fun h => absurd h (by omega), fun k hk => ⟨hy_up_lt _ _ hk, hy_up_lt _ _ hk⟩⟩
theorem hy_x_new {scr : hyS} {d : Nat} {M : hyM} {Q : hyQ} {kc ks pc : Nat} {L : hyL} {st : List hyV} {w : hyW} {i a : Nat} {C : String} {T : u_T} {N : Nat} (hd : decode M.2.1 pc = .ok (.new i, 3)) (hc : vwCl[a]? = some (C, T, N)) (h1 : Cond.classLink M.1.cls i C ∈ hy_tt) (h2 : Cond.instantiable C N ∈ hy_tt) (h3 : Cond.initialized C ∈ hy_tt) (hkc : 1 ≤ kc) (hks : N ≤ ks) (hok : hy_fok L st w = true) (K : hy_X scr d M Q (kc - 1) (ks - N) (pc + 3, L, .inr (.inl w.length) :: st, w ++ [.inr (a, hy_dflt a)])) : hy_X scr d M Q kc ks (pc, L, st, w) := by
  intro p l e R s m args below meth c A dC dI b Qf ρ κ H locs cells slots ls a1 a2 a3 a4 a5 a6 a7 a8 a9 a10
  obtain ⟨ty0, hty, -, hin, hdf⟩ := hy_cls b ρ hc
  obtain ⟨o1, o2, o3⟩ := hy_fok_ok hok
  refine va_new (D := (dC, dI)) a1.1 a1.2.1 a1.2.2.2.2.1 hin ty0 hty a1.2.2.2.1 (a1.2.2.2.2.1 _ h1) (a1.2.2.2.2.1 _ h2) (a1.2.2.2.2.1 _ h3) a8.2.2.1 a8.1 a8.2.1 a9 a1.2.2.2.2.2.2.2 hc hdf (by omega) (by omega) hd (fun q H1 hP hD hS => ?_)
  have hag := hy_ag_new w.length q (κ w.length) ρ κ
  have hκ : hy_up κ w.length (κ w.length) = κ := by funext j; unfold hy_up; split <;> simp_all
  rw [hκ] at hag
  have e1 : hy_w b (hy_up ρ w.length q) κ (w ++ [.inr (a, hy_dflt a)]) = hy_w b ρ κ w ++ [(q, .inr (a, (hy_dflt a).map (hy_v b ρ)))] := by
    rw [hy_w_app, hy_w_ag (n := w.length) (fun k hk => ⟨hy_up_lt _ _ hk, rfl⟩) (Nat.le_refl _) o3, hy_up_same]
    simp only [hy_c]
    rw [hy_vs_ag (n := w.length) (fun k hk => hy_up_lt _ _ hk) (hy_dflt_vok a _)]
  have e2 : (Value.ref q :: st.map (hy_v b ρ)) = (Sum.inr (Sum.inl w.length) :: st : List hyV).map (hy_v b (hy_up ρ w.length q)) := by
    rw [List.map_cons, hy_vs_ag (n := w.length) (fun k hk => hy_up_lt _ _ hk) o2]
    simp only [hy_v, hy_up_same]
  rw [e2]
  refine K p l e R s m args below meth c A dC dI b Qf (hy_up ρ w.length q) κ H1 locs (cells + 1) (slots + N) ls a1 a2 a3 a4 (by omega) (by omega) (hy_lr_ag (fun k hk => hy_up_lt _ _ hk) o1 a7) ⟨by rw [e1]; exact hP, by rw [e1]; exact hD, a8.2.2.1, fun k t n f hk => ?_⟩ hS ?_
  · rw [List.getElem?_append] at hk
    split at hk
    · exact a8.2.2.2 k t n f hk
    · rw [List.getElem?_singleton] at hk
      split at hk
      · cases hk
      · cases hk
  · show hy_rt p l e R s m args below meth c A dC dI b Qf M Q (kc - 1) (ks - N) (w ++ [_]).length _ _ (cells + 1) (slots + N)
    rw [List.length_append]
    exact hy_rt_grow a10 hkc hks hag
theorem hy_x_newarr {scr : hyS} {d : Nat} {M : hyM} {Q : hyQ} {kc ks pc : Nat} {L : hyL} {st : List hyV} {w : hyW} {t : ArrayType} {tb : Bool} {n : Int32} (hd : decode M.2.1 pc = .ok (.newarray t, 2)) (h1 : Cond.arrayClass (newarray.typeOf t) ∈ hy_tt) (h2 : newarray.typeOf t = hy_ty tb) (hkc : 1 ≤ kc) (hks : n.toNatClampNeg ≤ ks) (hn : ¬ n < 0) (hn2 : n.toNatClampNeg ≤ 1024) (hok : hy_fok L st w = true) (K : hy_X scr d M Q (kc - 1) (ks - n.toNatClampNeg) (pc + 2, L, .inr (.inl w.length) :: st, w ++ [.inl (tb, n.toNatClampNeg, fun _ => 0)])) : hy_X scr d M Q kc ks (pc, L, .inl n :: st, w) := by
  intro p l e R s m args below meth c A dC dI b Qf ρ κ H locs cells slots ls a1 a2 a3 a4 a5 a6 a7 a8 a9 a10
  obtain ⟨o1, o2, o3⟩ := hy_fok_ok hok
  refine va_newa (D := (dC, dI)) (N' := n.toNatClampNeg) (a0 := (n.toNatClampNeg, .inl (fun _ => 0))) a1.1 a1.2.1 (a1.2.2.2.2.1 _ h1) h2 a8.2.2.1 a8.1 a8.2.1 a9 a1.2.2.2.2.2.2.2 (fun cA => by cases tb <;> rfl) hn rfl (by cases tb <;> simp only [hy_ty, componentBytes] <;> omega) (by omega) (by omega) hd (fun q cA H1 hK hP hD hS => ?_)
  have hag := hy_ag_new w.length q cA ρ κ
  have e1 : hy_w b (hy_up ρ w.length q) (hy_up κ w.length cA) (w ++ [.inl (tb, n.toNatClampNeg, fun _ => 0)]) = hy_w b ρ κ w ++ [(q, .inl (cA, n.toNatClampNeg, .inl (fun _ => 0)))] := by
    rw [hy_w_app, hy_w_ag (n := w.length) (fun k hk => ⟨hy_up_lt _ _ hk, hy_up_lt _ _ hk⟩) (Nat.le_refl _) o3, hy_up_same]
    simp only [hy_c, hy_up_same]
  have e2 : (Value.ref q :: st.map (hy_v b ρ)) = (Sum.inr (Sum.inl w.length) :: st : List hyV).map (hy_v b (hy_up ρ w.length q)) := by
    rw [List.map_cons, hy_vs_ag (n := w.length) (fun k hk => hy_up_lt _ _ hk) o2]
    simp only [hy_v, hy_up_same]
  show W p l e R s m args below meth c H1 locs (cells + 1) (slots + n.toNatClampNeg) Qf (F0 m (pc + 2) ls (Value.ref q :: st.map (hy_v b ρ)))
  rw [e2]
  refine K p l e R s m args below meth c A dC dI b Qf (hy_up ρ w.length q) (hy_up κ w.length cA) H1 locs (cells + 1) (slots + n.toNatClampNeg) ls a1 a2 a3 a4 (by omega) (by omega) (hy_lr_ag (fun k hk => hy_up_lt _ _ hk) o1 a7) ⟨by rw [e1]; exact hP, by rw [e1]; exact hD, a8.2.2.1, fun k t n f hk => ?_⟩ hS ?_
  · rw [List.getElem?_append] at hk
    split at hk
    · rename_i hlt
      rw [hy_up_lt _ _ hlt]
      exact a8.2.2.2 k t n f hk
    · rw [List.getElem?_singleton] at hk
      split at hk
      · rename_i hge hz
        cases hk
        have : k = w.length := by omega
        rw [this, hy_up_same]
        exact hK.sub (tys' := [(cA, hy_ty tb)]) [0] rfl
      · cases hk
  · show hy_rt p l e R s m args below meth c A dC dI b Qf M Q (kc - 1) (ks - n.toNatClampNeg) (w ++ [_]).length _ _ (cells + 1) (slots + n.toNatClampNeg)
    rw [List.length_append]
    exact hy_rt_grow a10 hkc hks hag
end
section
/-! ===== calls ===== -/
theorem hy_good {ws : List Cond} (h : ∀ w ∈ ws, w ∈ hy_tt) : GoodIn hy_tt ws := fun w hw => ⟨h w hw, good_of_word (List.mem_filter.mp (h w hw)).2⟩
theorem hy_ws_in {M : hyM} (h : Cond.code M.1 M.2.1 M.2.2.1 M.2.2.2 ∈ hy_tt) : ∀ w ∈ hy_ws M, w ∈ hy_tt := fun w hw => (List.mem_cons.mp hw).elim (fun e => e ▸ h) id
abbrev hy_Pc (dC : Nat → ClassId) (dI : Nat → Nat → Nat) (b : Nat) (ρ : Nat → Nat) (κ : Nat → ClassId) (sz : Nat) (as : List hyV) (w : hyW) : Array Value → State → Prop := va_Pc (as.map (hy_v b ρ)) (fun U => U.heap.size = sz ∧ hy_U dC dI b ρ κ (fun _ => True) w U U.heap ∧ ∀ x ∈ hy_nw, va_Nw x U)
theorem hy_blind {dC : Nat → ClassId} {dI : Nat → Nat → Nat} {b : Nat} {ρ : Nat → Nat} {κ : Nat → ClassId} {sz : Nat} {as : List hyV} {w : hyW} : FrameBlind (hy_Pc dC dI b ρ κ sz as w) := by
  intro a U g mk q
  obtain ⟨q0, q1, ⟨q2, q3, q4⟩, q5⟩ := q
  exact ⟨q0, q1, ⟨q2, q3, hy_K_moved (u := U) (U := U.calling g mk a) (Vm.Alike.refl U.vm) q4⟩, hy_nw_same (s := U) (U := U.calling g mk a) rfl q5⟩
theorem hy_pre {dC : Nat → ClassId} {dI : Nat → Nat → Nat} {b : Nat} {ρ : Nat → Nat} {κ : Nat → ClassId} {as : List hyV} {w : hyW} {s : State} {H : Heap} {A : Nat → Prop} (h : hy_U dC dI b ρ κ A w s H) (hn : ∀ x ∈ hy_nw, va_Nw x s) : ∀ U : State, U.heap = H → s.WarmedH U.vm → hy_Pc dC dI b ρ κ H.size as w (as.map (hy_v b ρ)).toArray U := by
  intro U hU hW
  exact ⟨rfl, by rw [hU], ⟨by rw [hU]; exact h.1, h.2.1.weaken (fun _ _ _ _ => trivial), hy_K_moved hW.alike h.2.2⟩, hy_nw_warm hW hn⟩
theorem hy_free {dC : Nat → ClassId} {dI : Nat → Nat → Nat} {b : Nat} {ρ : Nat → Nat} {κ : Nat → ClassId} {w : hyW} {s : State} {H : Heap} {A : Nat → Prop} {locs : List Loc} (h : hy_U dC dI b ρ κ A w s H) (hS : va_S A s.heap H locs) (hA : ∀ q, s.heap.size ≤ q → A q) : ∀ q, va_A (hy_w b ρ κ w) H.size q → A q := by
  rintro q (⟨k, e, hk⟩ | hq)
  · exact h.2.1.2 k _ hk
  · exact hA q (Nat.le_trans hS.1 hq)
/-- what a call instruction does, of whatever kind: the callee's contract is run -/
def hy_run (M Mc : hyM) (d' mc ms pc : Nat) (L : hyL) (st st' as : List hyV) (w : hyW) : Prop :=
  ∀ (p : Program) (l : Launch) (e : Env) (R : Room) (s : State) (m : MethodId) (args : Array Value) (below : List Frame) (meth : Method) (c : Code) (A : Nat → Prop) (dC : Nat → ClassId) (dI : Nat → Nat → Nat) (b : Nat) (ρ : Nat → Nat) (κ : Nat → ClassId) (H : Heap) (locs : List Loc) (cells slots : Nat) (ls : Array Slot) (Qc : Array Value → State → Outcome → State → Prop) (free : Addr → Prop),
    hy_cx M p s m args meth c A → d' + 1 ≤ R.frames → 40 * (d' + 2) ≤ R.locals → cells + mc ≤ R.cells → slots + ms ≤ R.slots → hy_lr b ρ M.2.2.1 L ls → hy_U dC dI b ρ κ A w s H →
    Met l Mc.1 (hy_ws Mc) (hy_rm d' mc ms) (hy_Pc dC dI b ρ κ H.size as w) Qc mc ms free →
    va_Run p l e R s m args below meth c H locs cells slots mc ms (F0 m pc ls (st.map (hy_v b ρ))) (st'.map (hy_v b ρ)) (Qc (as.map (hy_v b ρ)).toArray) free
theorem hy_plain_ok {y : MethodName} {n : Nat} (h : hy_plain y n = true) : y.cls ≠ "java/lang/invoke/MethodHandle" ∧ y.cls ≠ "java/lang/invoke/VarHandle" ∧ (parseMethodDescriptor y.desc).map (fun d => d.parameters.length) = some n := by
  simp only [hy_plain, Bool.and_eq_true, decide_eq_true_eq] at h
  exact ⟨h.1.1, h.1.2, h.2⟩
theorem hy_mok_ok {M : hyM} {n : Nat} (h : hy_mok M n = true) : (M.1.cls ≠ "java/lang/invoke/MethodHandle" ∧ M.1.cls ≠ "java/lang/invoke/VarHandle" ∧ (parseMethodDescriptor M.1.desc).map (fun d => d.parameters.length) = some n) ∧ M.2.2.1 ≤ 20 ∧ Cond.code M.1 M.2.1 M.2.2.1 M.2.2.2 ∈ hy_tt ∧ Cond.initialized M.1.cls ∈ hy_tt := by
  simp only [hy_mok, Bool.and_eq_true, decide_eq_true_eq] at h
  exact ⟨hy_plain_ok h.1.1.1, h.1.1.2, hy_inT_mem h.1.2, hy_inT_mem h.2⟩
theorem hy_room_st {m : MethodId} {pc : Nat} {ls : Array Slot} {rest : List Value} {b : Nat} {ρ : Nat → Nat} {st : List hyV} (h : st.length ≤ 8) : 2 * (F0 m pc ls rest).monitorRoom + ((st.map (hy_v b ρ)).map fun v => v.category).sum ≤ 8 := by
  refine lv_room ?_
  have : (st.map (hy_v b ρ)).map (fun v => v.category) = List.replicate st.length 1 := by
    rw [List.map_map]
    apply List.ext_getElem?
    intro i
    rw [List.getElem?_map, List.getElem?_replicate]
    cases hi : st[i]? with
    | none => rw [if_neg (by rw [List.getElem?_eq_none_iff] at hi; omega)]; rfl
    | some x => rw [if_pos (List.getElem?_eq_some_iff.mp hi).1]; simp [hy_v_cat]
  rw [this, List.sum_replicate_nat]
  omega
theorem hy_runS {M Mc : hyM} {d' mc ms pc i n : Nat} {L : hyL} {st' as : List hyV} {w : hyW} (hd : decode M.2.1 pc = .ok (.invokestatic i, 3)) (hm : hy_mok Mc n = true) (hs : Cond.static Mc.1 ∈ hy_tt) (hl : Cond.methodLink M.1.cls i Mc.1 ∈ hy_tt) (hn : as.length = n) (h8 : st'.length ≤ 8) : hy_run M Mc d' mc ms pc L (as.reverse ++ st') st' as w := by
  intro p l e R s m args below meth c A dC dI b ρ κ H locs cells slots ls Qc free a1 a2 a3 a4 a5 a6 a7 hM
  obtain ⟨m1, m2, m3, m4⟩ := hy_mok_ok hm
  refine va_runS (As := as.map (hy_v b ρ)) (Ts := hy_tt) (own := M.1.cls) ⟨a1.1, a1.2.1, a1.2.2.1, a1.2.2.2.1, a1.2.2.2.2.1⟩ hM (va_cwS n a1.2.2.2.2.1 (hy_good (fun x hx => ?_)) rfl rfl rfl m1 ⟨a2, ?_⟩) ⟨hy_blind, hy_pre a7 a1.2.2.2.2.2.1⟩ rfl (by rw [List.length_map]; exact hn) a6.1 (by simp) (hy_room_st h8) hd ⟨a4, a5⟩
  · rcases List.mem_append.mp hx with h | h
    · simp only [List.mem_cons, List.not_mem_nil, or_false] at h
      rcases h with rfl | rfl | rfl
      · exact hl
      · exact hs
      · exact m4
    · exact hy_ws_in m3 x h
  · show 8 + (Mc.2.2.1 + 11) + 40 * (d' + 1) ≤ R.locals
    omega
theorem hy_runSN {M Mc : hyM} {d' mc ms pc i n : Nat} {L : hyL} {st' as : List hyV} {w : hyW} (hd : decode M.2.1 pc = .ok (.invokestatic i, 3)) (hm : hy_mok Mc n = true) (hs : Cond.static Mc.1 ∈ hy_tt) (hl : Cond.methodLinkNest M.1.cls i Mc.1 "HuskYard" ∈ hy_nw) (hn : as.length = n) (h8 : st'.length ≤ 8) : hy_run M Mc d' mc ms pc L (as.reverse ++ st') st' as w := by
  intro p l e R s m args below meth c A dC dI b ρ κ H locs cells slots ls Qc free a1 a2 a3 a4 a5 a6 a7 hM
  obtain ⟨m1, m2, m3, m4⟩ := hy_mok_ok hm
  refine va_runSN (As := as.map (hy_v b ρ)) (Ts := hy_tt) (own := M.1.cls) ⟨a1.1, a1.2.1, a1.2.2.1, a1.2.2.2.1, a1.2.2.2.2.1⟩ hM ⟨va_cnB n a1.2.2.2.2.1 (hy_good (hy_ws_in m3)) rfl rfl rfl (a1.2.2.2.2.2.1 _ hl) (a1.2.2.2.2.1 _ m4) m1 ⟨a2, ?_⟩, a1.2.2.2.2.1 _ hs, trivial⟩ ⟨hy_blind, hy_pre a7 a1.2.2.2.2.2.1⟩ rfl (by rw [List.length_map]; exact hn) a6.1 (by simp) (hy_room_st h8) hd ⟨a4, a5⟩
  show 8 + (Mc.2.2.1 + 11) + 40 * (d' + 1) ≤ R.locals
  omega
theorem hy_runV {M Mc : hyM} {d' mc ms pc i n k a : Nat} {L : hyL} {st' as : List hyV} {w : hyW} {C : String} {T : u_T} {N : Nat} {fs : List hyV} (hd : decode M.2.1 pc = .ok (.invokevirtual i, 3)) (hm : hy_mok Mc n = true) (hc : vwCl[a]? = some (C, T, N)) (hC : C = Mc.1.cls) (h1 : Cond.instanceMethod Mc.1 ∈ hy_tt) (h2 : Cond.selects C Mc.1 Mc.1 ∈ hy_tt) (hl : Cond.methodLink M.1.cls i Mc.1 ∈ hy_tt) (hw : w[k]? = some (.inr (a, fs))) (hn : as.length = n) (h8 : st'.length ≤ 8) : hy_run M Mc d' mc ms pc L ((.inr (.inl k) :: as).reverse ++ st') st' (.inr (.inl k) :: as) w := by
  intro p l e R s m args below meth c A dC dI b ρ κ H locs cells slots ls Qc free a1 a2 a3 a4 a5 a6 a7 hM
  obtain ⟨m1, m2, m3, m4⟩ := hy_mok_ok hm
  refine va_runV (C := C) (b := ρ k) (As := as.map (hy_v b ρ)) (Ts := hy_tt) (own := M.1.cls) ⟨a1.1, a1.2.1, a1.2.2.1, a1.2.2.2.1, a1.2.2.2.2.1⟩ hM (cwV n a1.2.2.2.2.1 (hy_good (fun x hx => ?_)) rfl rfl rfl ⟨hC.symm, m1⟩ ⟨a2, ?_⟩) ⟨hy_blind, va_recv a7.2.2.1 a7.1 hc (hy_w_at hw), hy_pre a7 a1.2.2.2.2.2.1⟩ rfl (by rw [List.length_map]; exact hn) a6.1 (by simp [hy_v]) (hy_room_st h8) hd ⟨a4, a5⟩
  · rcases List.mem_append.mp hx with h | h
    · simp only [List.mem_cons, List.not_mem_nil, or_false] at h
      rcases h with rfl | rfl | rfl | rfl
      · exact hl
      · exact h1
      · exact h2
      · rw [hC]; exact m4
    · exact hy_ws_in m3 x h
  · show 8 + (Mc.2.2.1 + 11) + 40 * (d' + 1) ≤ R.locals
    omega
theorem hy_runI {M Mc : hyM} {d' mc ms pc i n k : Nat} {L : hyL} {st' as : List hyV} {w : hyW} (hd : decode M.2.1 pc = .ok (.invokespecial i, 3)) (hm : hy_mok Mc n = true) (hr : Mc.2.2.2 = none) (hi : Mc.1.name = "<init>") (h1 : Cond.instanceMethod Mc.1 ∈ hy_tt) (hl : Cond.methodLink M.1.cls i Mc.1 ∈ hy_tt) (hn : as.length = n) (h8 : st'.length ≤ 8) : hy_run M Mc d' mc ms pc L ((.inr (.inl k) :: as).reverse ++ st') st' (.inr (.inl k) :: as) w := by
  intro p l e R s m args below meth c A dC dI b ρ κ H locs cells slots ls Qc free a1 a2 a3 a4 a5 a6 a7 hM
  obtain ⟨m1, m2, m3, m4⟩ := hy_mok_ok hm
  have hw0 : hy_ws Mc = Cond.code Mc.1 Mc.2.1 Mc.2.2.1 none :: hy_tt := by unfold hy_ws; rw [hr]
  refine va_runI (b := ρ k) (As := as.map (hy_v b ρ)) (Ts := hy_tt) (own := M.1.cls) ⟨a1.1, a1.2.1, a1.2.2.1, a1.2.2.2.1, a1.2.2.2.2.1⟩ hM (cwI n a1.2.2.2.2.1 (hy_good (hy_ws_in m3)) hw0 rfl rfl (a1.2.2.2.2.1 _ m4) (a1.2.2.2.2.1 _ hl) (a1.2.2.2.2.1 _ h1) hi m1 ⟨a2, ?_⟩) ⟨hy_blind, hy_pre (as := .inr (.inl k) :: as) a7 a1.2.2.2.2.2.1⟩ rfl (by rw [List.length_map]; exact hn) a6.1 (by simp [hy_v]) (hy_room_st h8) hd ⟨a4, a5⟩
  show 8 + (Mc.2.2.1 + 11) + 40 * (d' + 1) ≤ R.locals
  omega
theorem hy_runIN {M Mc : hyM} {d' mc ms pc i n k : Nat} {L : hyL} {st' as : List hyV} {w : hyW} (hd : decode M.2.1 pc = .ok (.invokespecial i, 3)) (hm : hy_mok Mc n = true) (hr : Mc.2.2.2 = none) (hi : Mc.1.name = "<init>") (h1 : Cond.instanceMethod Mc.1 ∈ hy_tt) (hl : Cond.methodLinkNest M.1.cls i Mc.1 "HuskYard" ∈ hy_nw) (hn : as.length = n) (h8 : st'.length ≤ 8) : hy_run M Mc d' mc ms pc L ((.inr (.inl k) :: as).reverse ++ st') st' (.inr (.inl k) :: as) w := by
  intro p l e R s m args below meth c A dC dI b ρ κ H locs cells slots ls Qc free a1 a2 a3 a4 a5 a6 a7 hM
  obtain ⟨m1, m2, m3, m4⟩ := hy_mok_ok hm
  have hw0 : hy_ws Mc = Cond.code Mc.1 Mc.2.1 Mc.2.2.1 none :: hy_tt := by unfold hy_ws; rw [hr]
  refine va_runIN (b := ρ k) (As := as.map (hy_v b ρ)) (Ts := hy_tt) (own := M.1.cls) ⟨a1.1, a1.2.1, a1.2.2.1, a1.2.2.2.1, a1.2.2.2.2.1⟩ hM ⟨va_cnB n a1.2.2.2.2.1 (hy_good (hy_ws_in m3)) hw0 rfl rfl (a1.2.2.2.2.2.1 _ hl) (a1.2.2.2.2.1 _ m4) m1 ⟨a2, ?_⟩, hi, a1.2.2.2.2.1 _ h1⟩ ⟨hy_blind, hy_pre (as := .inr (.inl k) :: as) a7 a1.2.2.2.2.2.1⟩ rfl (by rw [List.length_map]; exact hn) a6.1 (by simp [hy_v]) (hy_room_st h8) hd ⟨a4, a5⟩
  show 8 + (Mc.2.2.1 + 11) + 40 * (d' + 1) ≤ R.locals
  omega
/-- behind a call that makes no cell -/
theorem hy_x_call {scr : hyS} {d d' : Nat} {M Mc : hyM} {Q Q1 : hyQ} {kc ks pc : Nat} {L : hyL} {st st' as : List hyV} {w : hyW} (hr : hy_run M Mc d' 0 0 pc L st st' as w) (hR : hy_R d' Mc 0 0 as w Q1) (hdd : d' + 1 ≤ d)
    (k : ∀ o w1, Q1 o w1 → hy_X scr d M Q kc ks (pc + 3, L, (match o with | some y => .inl y :: st' | none => st'), w1)) : hy_X scr d M Q kc ks (pc, L, st, w) := by
  intro p l e R s m args below meth c A dC dI b Qf ρ κ H locs cells slots ls a1 a2 a3 a4 a5 a6 a7 a8 a9 a10
  have hrun := hr p l e R s m args below meth c A dC dI b ρ κ H locs cells slots ls _ _ a1 (by omega) (by omega) (by omega) (by omega) a7 a8 (hR l dC dI b ρ κ H.size)
  have hF := hy_free a8 a9 a1.2.2.2.2.2.2.2
  revert hrun
  unfold hy_Qc
  cases hret : Mc.2.2.2 with
  | none =>
    intro hrun
    refine va_callv hrun a9 (fun q _ h => hF q h) hF (fun u t H1 locs1 ht hvm hw hB hz1 hk1 hS => ?_)
    obtain ⟨w1, ρ1, κ1⟩ := u
    obtain ⟨hq, g0, g1, g2⟩ := hw
    obtain ⟨rfl, rfl⟩ := g1 rfl
    rw [ht] at hB
    exact k none w1 hq p l e R s m args below meth c A dC dI b Qf _ _ H1 locs1 cells slots ls a1 a2 a3 a4 a5 a6 a7 ⟨hB.1, hB.2.1.weaken (fun _ q _ h => hF _ h), hy_K_moved hvm.symm hB.2.2⟩ hS (hy_rt_grow (mc := 0) (ms := 0) a10 (Nat.zero_le _) (Nat.zero_le _) ⟨g0, fun _ => ⟨rfl, rfl⟩, fun _ _ => ⟨rfl, rfl⟩⟩)
  | some ty =>
    intro hrun
    refine va_calli hrun a9 (fun q _ h => hF q h) hF (fun r u t H1 locs1 ht hvm hw hB hz1 hk1 hS => ?_)
    obtain ⟨w1, ρ1, κ1⟩ := u
    obtain ⟨hq, g0, g1, g2⟩ := hw
    obtain ⟨rfl, rfl⟩ := g1 rfl
    rw [ht] at hB
    exact k (some r) w1 hq p l e R s m args below meth c A dC dI b Qf _ _ H1 locs1 cells slots ls a1 a2 a3 a4 a5 a6 a7 ⟨hB.1, hB.2.1.weaken (fun _ q _ h => hF _ h), hy_K_moved hvm.symm hB.2.2⟩ hS (hy_rt_grow (mc := 0) (ms := 0) a10 (Nat.zero_le _) (Nat.zero_le _) ⟨g0, fun _ => ⟨rfl, rfl⟩, fun _ _ => ⟨rfl, rfl⟩⟩)
/-- behind a constructor's call -/
theorem hy_x_make {scr : hyS} {d d' mc ms : Nat} {M Mc : hyM} {Q Q1 : hyQ} {kc ks pc : Nat} {L : hyL} {st st' as : List hyV} {w : hyW} (hr : hy_run M Mc d' mc ms pc L st st' as w) (hret : Mc.2.2.2 = none) (hok : hy_fok L st' w = true) (hR : hy_R d' Mc mc ms as w Q1) (hdd : d' + 1 ≤ d) (hmc : mc ≤ kc) (hms : ms ≤ ks)
    (k : ∀ w1, Q1 none w1 → hy_X scr d M Q (kc - mc) (ks - ms) (pc + 3, L, st', w1)) : hy_X scr d M Q kc ks (pc, L, st, w) := by
  intro p l e R s m args below meth c A dC dI b Qf ρ κ H locs cells slots ls a1 a2 a3 a4 a5 a6 a7 a8 a9 a10
  obtain ⟨o1, o2, o3⟩ := hy_fok_ok hok
  have hrun := hr p l e R s m args below meth c A dC dI b ρ κ H locs cells slots ls _ _ a1 (by omega) (by omega) (by omega) (by omega) a7 a8 (hR l dC dI b ρ κ H.size)
  have hF := hy_free a8 a9 a1.2.2.2.2.2.2.2
  revert hrun
  unfold hy_Qc
  rw [hret]
  intro hrun
  refine va_callv hrun a9 (fun q _ h => hF q h) hF (fun u t H1 locs1 ht hvm hw hB hz1 hk1 hS => ?_)
  obtain ⟨w1, ρ1, κ1⟩ := u
  obtain ⟨hq, hag⟩ := hw
  rw [ht] at hB
  have e2 : st'.map (hy_v b ρ) = st'.map (hy_v b ρ1) := (hy_vs_ag (n := w.length) (fun k hk => (hag.2.2 k hk).1) o2).symm
  rw [e2]
  exact k w1 hq p l e R s m args below meth c A dC dI b Qf _ _ H1 locs1 (cells + mc) (slots + ms) ls a1 a2 a3 a4 (by omega) (by omega) (hy_lr_ag (fun k hk => (hag.2.2 k hk).1) o1 a7) ⟨hB.1, hB.2.1.weaken (fun _ q _ h => hF _ h), hy_K_moved hvm.symm hB.2.2⟩ hS (hy_rt_grow a10 hmc hms hag)
end
section
/-! ===== the pure step is sound ===== -/
def hy_pfok (pf : hyP) : Prop := pf 0 = none ∧ ∀ (a n : Nat) (g : List Int32 → Int32), pf a = some (n, g) → ∀ (xs : List Int32) (w : hyW), xs.length = n → hy_R 3 (hy_pm a) 0 0 (xs.map (fun x => Sum.inl x)) w (fun o w1 => o = some (g xs) ∧ w1 = w)
theorem hy_pf0 : hy_pfok (fun _ => none) := ⟨rfl, fun a n g h => by cases h⟩
theorem hy_blt {a b : Nat} (h : Nat.ble a b = true) : a ≤ b := Nat.le_of_ble_eq_true h
set_option maxHeartbeats 4000000 in
theorem hy_st_ok {pf : hyP} {scr : hyS} {d : Nat} {M : hyM} {Q : hyQ} {pc : Nat} {e : hyE} {kc ks : Nat} {L : hyL} {st : List hyV} {w : hyW} {K : Nat → Nat → hyF → Prop} (hpf : hy_pfok pf) (hok : hy_ok M pc e = true) (hK : ∀ kc ks f, K kc ks f → hy_X scr d M Q kc ks f) (h : hy_st pf scr d Q e kc ks L st w K) : hy_X scr d M Q kc ks (pc, L, st, w) := by
  obtain ⟨len, hd, hnx⟩ := hy_ok_dec hok
  have hlk : hy_lk M pc e = true := (hy_and1 hok).2
  obtain ⟨ins, nx, a, b, c, r, v, mo, sw⟩ := e
  dsimp only at hd hnx
  cases ins with
  | iload_n k =>
    simp only [hy_lk, Bool.and_eq_true, decide_eq_true_eq] at hlk
    obtain ⟨rfl, rfl⟩ := hlk
    obtain rfl : len = 1 := by omega
    obtain ⟨o, h1, h2⟩ := hy_nth_ok h
    match o, h1, h2 with
    | some (.inl x), h1, h2 => exact hy_x_iload_n hd h1 (hK _ _ _ h2)
  | iload k =>
    simp only [hy_lk, Bool.and_eq_true, decide_eq_true_eq] at hlk
    obtain ⟨rfl, rfl⟩ := hlk
    obtain rfl : len = 2 := by omega
    obtain ⟨o, h1, h2⟩ := hy_nth_ok h
    match o, h1, h2 with
    | some (.inl x), h1, h2 => exact hy_x_iload hd h1 (hK _ _ _ h2)
  | aload_n k =>
    simp only [hy_lk, Bool.and_eq_true, decide_eq_true_eq] at hlk
    obtain ⟨rfl, rfl⟩ := hlk
    obtain rfl : len = 1 := by omega
    obtain ⟨o, h1, h2⟩ := hy_nth_ok h
    match o, h1, h2 with
    | some (.inr (.inl x)), h1, h2 => exact hy_x_aload_n (Or.inl ⟨_, rfl⟩) hd h1 (hK _ _ _ h2)
    | some (.inr (.inr true)), h1, h2 => exact hy_x_aload_n (Or.inr rfl) hd h1 (hK _ _ _ h2)
  | aload k =>
    simp only [hy_lk, Bool.and_eq_true, decide_eq_true_eq] at hlk
    obtain ⟨rfl, rfl⟩ := hlk
    obtain rfl : len = 2 := by omega
    obtain ⟨o, h1, h2⟩ := hy_nth_ok h
    match o, h1, h2 with
    | some (.inr (.inl x)), h1, h2 => exact hy_x_aload (Or.inl ⟨_, rfl⟩) hd h1 (hK _ _ _ h2)
    | some (.inr (.inr true)), h1, h2 => exact hy_x_aload (Or.inr rfl) hd h1 (hK _ _ _ h2)
  | istore_n k =>
    simp only [hy_lk, Bool.and_eq_true, decide_eq_true_eq] at hlk
    obtain ⟨rfl, rfl⟩ := hlk
    obtain rfl : len = 1 := by omega
    match st, h with
    | .inl x :: st', h =>
      obtain ⟨h1, h2⟩ := hy_upd_ok h
      exact hy_x_istore_n hd h1 (hK _ _ _ h2)
  | istore k =>
    simp only [hy_lk, Bool.and_eq_true, decide_eq_true_eq] at hlk
    obtain ⟨rfl, rfl⟩ := hlk
    obtain rfl : len = 2 := by omega
    match st, h with
    | .inl x :: st', h =>
      obtain ⟨h1, h2⟩ := hy_upd_ok h
      exact hy_x_istore hd h1 (hK _ _ _ h2)
  | astore_n k =>
    simp only [hy_lk, Bool.and_eq_true, decide_eq_true_eq] at hlk
    obtain ⟨rfl, rfl⟩ := hlk
    obtain rfl : len = 1 := by omega
    match st, h with
    | .inr (.inl x) :: st', h =>
      obtain ⟨h1, h2⟩ := hy_upd_ok h
      exact hy_x_astore_n hd h1 (hK _ _ _ h2)
  | astore k =>
    simp only [hy_lk, Bool.and_eq_true, decide_eq_true_eq] at hlk
    obtain ⟨rfl, rfl⟩ := hlk
    obtain rfl : len = 2 := by omega
    match st, h with
    | .inr (.inl x) :: st', h =>
      obtain ⟨h1, h2⟩ := hy_upd_ok h
      exact hy_x_astore hd h1 (hK _ _ _ h2)
  | iconst n =>
    simp only [hy_lk, Bool.and_eq_true, decide_eq_true_eq] at hlk
    obtain ⟨rfl, hv⟩ := hlk
    obtain rfl : len = 1 := by omega
    exact hy_x_iconst hd hv (hK _ _ _ h)
  | bipush n =>
    simp only [hy_lk, Bool.and_eq_true, decide_eq_true_eq] at hlk
    obtain ⟨rfl, hv⟩ := hlk
    obtain rfl : len = 2 := by omega
    exact hy_x_bipush hd hv (hK _ _ _ h)
  | sipush n =>
    simp only [hy_lk, Bool.and_eq_true, decide_eq_true_eq] at hlk
    obtain ⟨rfl, hv⟩ := hlk
    obtain rfl : len = 3 := by omega
    exact hy_x_sipush hd hv (hK _ _ _ h)
  | ldc i =>
    simp only [hy_lk, Bool.and_eq_true, decide_eq_true_eq] at hlk
    obtain ⟨rfl, hv⟩ := hlk
    obtain rfl : len = 2 := by omega
    exact hy_x_ldc hd (hy_inT_mem hv) (hK _ _ _ h)
  | ldc_w i =>
    simp only [hy_lk, Bool.and_eq_true, decide_eq_true_eq] at hlk
    obtain ⟨rfl, hv⟩ := hlk
    obtain rfl : len = 3 := by omega
    exact hy_x_ldcw hd (hy_inT_mem hv) (hK _ _ _ h)
  | iinc i n =>
    simp only [hy_lk, Bool.and_eq_true, decide_eq_true_eq] at hlk
    obtain ⟨⟨rfl, rfl⟩, hv⟩ := hlk
    obtain rfl : len = 3 := by omega
    obtain ⟨o, h1, h2⟩ := hy_nth_ok h
    match o, h1, h2 with
    | some (.inl x), h1, h2 => exact hy_x_iinc hd hv h1 (hK _ _ _ (hy_upd_ok h2).2)
  | iadd =>
    simp only [hy_lk, decide_eq_true_eq] at hlk
    subst hlk
    obtain rfl : len = 1 := by omega
    match st, h with
    | .inl y :: .inl x :: st', h => exact hy_s0 (fun p l e R s m args below meth c A dC dI b Qf ρ κ H locs cells slots ls h1 h2 h3 h4 h7 h8 h9 kk => lv_iadd h1.1 h1.2.1 hd kk) (hK _ _ _ h)
  | isub =>
    simp only [hy_lk, decide_eq_true_eq] at hlk
    subst hlk
    obtain rfl : len = 1 := by omega
    match st, h with
    | .inl y :: .inl x :: st', h => exact hy_s0 (fun p l e R s m args below meth c A dC dI b Qf ρ κ H locs cells slots ls h1 h2 h3 h4 h7 h8 h9 kk => lv_isub h1.1 h1.2.1 hd kk) (hK _ _ _ h)
  | imul =>
    simp only [hy_lk, decide_eq_true_eq] at hlk
    subst hlk
    obtain rfl : len = 1 := by omega
    match st, h with
    | .inl y :: .inl x :: st', h => exact hy_s0 (fun p l e R s m args below meth c A dC dI b Qf ρ κ H locs cells slots ls h1 h2 h3 h4 h7 h8 h9 kk => lv_imul h1.1 h1.2.1 hd kk) (hK _ _ _ h)
  | iand =>
    simp only [hy_lk, decide_eq_true_eq] at hlk
    subst hlk
    obtain rfl : len = 1 := by omega
    match st, h with
    | .inl y :: .inl x :: st', h => exact hy_s0 (fun p l e R s m args below meth c A dC dI b Qf ρ κ H locs cells slots ls h1 h2 h3 h4 h7 h8 h9 kk => lv_iand h1.1 h1.2.1 hd kk) (hK _ _ _ h)
  | ior =>
    simp only [hy_lk, decide_eq_true_eq] at hlk
    subst hlk
    obtain rfl : len = 1 := by omega
    match st, h with
    | .inl y :: .inl x :: st', h => exact hy_s0 (fun p l e R s m args below meth c A dC dI b Qf ρ κ H locs cells slots ls h1 h2 h3 h4 h7 h8 h9 kk => lv_ior h1.1 h1.2.1 hd kk) (hK _ _ _ h)
  | ixor =>
    simp only [hy_lk, decide_eq_true_eq] at hlk
    subst hlk
    obtain rfl : len = 1 := by omega
    match st, h with
    | .inl y :: .inl x :: st', h => exact hy_s0 (fun p l e R s m args below meth c A dC dI b Qf ρ κ H locs cells slots ls h1 h2 h3 h4 h7 h8 h9 kk => lv_ixor h1.1 h1.2.1 hd kk) (hK _ _ _ h)
  | ishl =>
    simp only [hy_lk, decide_eq_true_eq] at hlk
    subst hlk
    obtain rfl : len = 1 := by omega
    match st, h with
    | .inl y :: .inl x :: st', h => exact hy_s0 (fun p l e R s m args below meth c A dC dI b Qf ρ κ H locs cells slots ls h1 h2 h3 h4 h7 h8 h9 kk => lv_ishl h1.1 h1.2.1 hd kk) (hK _ _ _ h)
  | ishr =>
    simp only [hy_lk, decide_eq_true_eq] at hlk
    subst hlk
    obtain rfl : len = 1 := by omega
    match st, h with
    | .inl y :: .inl x :: st', h => exact hy_s0 (fun p l e R s m args below meth c A dC dI b Qf ρ κ H locs cells slots ls h1 h2 h3 h4 h7 h8 h9 kk => lv_ishr h1.1 h1.2.1 hd kk) (hK _ _ _ h)
  | iushr =>
    simp only [hy_lk, decide_eq_true_eq] at hlk
    subst hlk
    obtain rfl : len = 1 := by omega
    match st, h with
    | .inl y :: .inl x :: st', h => exact hy_s0 (fun p l e R s m args below meth c A dC dI b Qf ρ κ H locs cells slots ls h1 h2 h3 h4 h7 h8 h9 kk => lv_iushr h1.1 h1.2.1 hd rfl kk) (hK _ _ _ h)
  | idiv =>
    simp only [hy_lk, decide_eq_true_eq] at hlk
    subst hlk
    obtain rfl : len = 1 := by omega
    match st, h with
    | .inl y :: .inl x :: st', h => exact hy_s0 (fun p l e R s m args below meth c A dC dI b Qf ρ κ H locs cells slots ls h1 h2 h3 h4 h7 h8 h9 kk => lv_idiv h1.1 h1.2.1 hd h.1 kk) (hK _ _ _ h.2)
  | dup =>
    simp only [hy_lk, decide_eq_true_eq] at hlk
    subst hlk
    obtain rfl : len = 1 := by omega
    match st, h with
    | x :: st', h => exact hy_s0 (fun p l e R s m args below meth c A dC dI b Qf ρ κ H locs cells slots ls h1 h2 h3 h4 h7 h8 h9 kk => lv_dup h1.1 h1.2.1 hd (hy_v_cat _ _ _) kk) (hK _ _ _ h)
  | dup2 =>
    simp only [hy_lk, decide_eq_true_eq] at hlk
    subst hlk
    obtain rfl : len = 1 := by omega
    match st, h with
    | x :: y :: st', h => exact hy_s0 (fun p l e R s m args below meth c A dC dI b Qf ρ κ H locs cells slots ls h1 h2 h3 h4 h7 h8 h9 kk => lv_dup2_11 h1.1 h1.2.1 hd (hy_v_cat _ _ _) (hy_v_cat _ _ _) kk) (hK _ _ _ h)
  | goto off =>
    simp only [hy_lk, Bool.and_eq_true, decide_eq_true_eq] at hlk
    obtain rfl : len = 3 := by omega
    exact hy_s0 (fun p l e R s m args below meth c A dC dI b Qf ρ κ H locs cells slots ls h1 h2 h3 h4 h7 h8 h9 kk => lv_goto h1.1 h1.2.1 hd hlk.2 kk) (hK _ _ _ h)
  | if_icmp cd off =>
    simp only [hy_lk, Bool.and_eq_true, decide_eq_true_eq] at hlk
    obtain ⟨rfl, ht⟩ := hlk
    obtain rfl : len = 3 := by omega
    match st, h with
    | .inl y :: .inl x :: st', h =>
      have hb := hy_br_ok h
      exact hy_x_icmp hd ht (fun q => hK _ _ _ (hb.1 q)) (fun q => hK _ _ _ (hb.2 q))
  | ifCond cd off =>
    simp only [hy_lk, Bool.and_eq_true, decide_eq_true_eq] at hlk
    obtain ⟨rfl, ht⟩ := hlk
    obtain rfl : len = 3 := by omega
    match st, h with
    | .inl x :: st', h =>
      have hb := hy_br_ok h
      exact hy_x_if hd ht (fun q => hK _ _ _ (hb.1 q)) (fun q => hK _ _ _ (hb.2 q))
  | tableswitch df lo hi offs =>
    simp only [hy_lk, Bool.and_eq_true, decide_eq_true_eq] at hlk
    obtain ⟨⟨h1, h2⟩, h3⟩ := hlk
    match st, h with
    | .inl x :: st', h =>
      have hs := hy_sw_ok (K := fun t => K kc ks (t, L, st', w)) h
      refine hy_s0 (fun p l e R s m args below meth c A dC dI b Qf ρ κ H locs cells slots ls g1 g2 g3 g4 g7 g8 g9 kk => ?_) (hK _ _ _ hs)
      have hl : (offs.toList.length : Int) = offs.size := by simp
      by_cases hin : x.toInt < lo ∨ hi < x.toInt
      · refine lv_tableOut g1.1 g1.2.1 hd hin ?_ kk
        rw [hy_tsw_out h3 (by omega)]
        exact h1
      · obtain ⟨o, o1, o2⟩ := hy_tsw_in (a := a) (x := x.toInt) h3 (by omega) (by omega)
        exact lv_tableIn g1.1 g1.2.1 hd (by omega) (by omega) (by rw [← Array.getElem?_toList]; exact o1) o2 kk
  | lookupswitch df ps =>
    simp only [hy_lk, Bool.and_eq_true, decide_eq_true_eq] at hlk
    obtain ⟨⟨h1, h2⟩, h3⟩ := hlk
    match st, h with
    | .inl x :: st', h =>
      have hs := hy_sw_ok (K := fun t => K kc ks (t, L, st', w)) h
      exact hy_s0 (fun p l e R s m args below meth c A dC dI b Qf ρ κ H locs cells slots ls g1 g2 g3 g4 g7 g8 g9 kk => lv_lookup g1.1 g1.2.1 hd h2 rfl (hy_lsw_ok x.toInt h1 h3) kk) (hK _ _ _ hs)
  | getfield i =>
    simp only [hy_lk] at hlk
    cases hc : vwCl[a]? with
    | none => rw [hc] at hlk; cases hlk
    | some q =>
      obtain ⟨C, T, N⟩ := q
      rw [hc] at hlk
      simp only [Bool.and_eq_true, decide_eq_true_eq] at hlk
      obtain ⟨⟨rfl, hb⟩, hl⟩ := hlk
      obtain rfl : len = 3 := by omega
      match st, h with
      | .inr (.inl k) :: st', h =>
        obtain ⟨cl, h1, h2⟩ := hy_nth_ok h
        rcases cl with c1 | ⟨ci, fs⟩
        · exact h2.elim
        · cases hci : Nat.beq ci a with
          | false => simp only [hci] at h2
          | true =>
            simp only [hci] at h2
            obtain rfl := Nat.eq_of_beq_eq_true hci
            obtain ⟨x, h3, h4⟩ := hy_nth_ok h2
            exact hy_x_get hd hc hb (hy_inT_mem hl) h1 h3 (hK _ _ _ h4)
  | putfield i =>
    simp only [hy_lk] at hlk
    cases hc : vwCl[a]? with
    | none => rw [hc] at hlk; cases hlk
    | some q =>
      obtain ⟨C, T, N⟩ := q
      rw [hc] at hlk
      simp only [Bool.and_eq_true, decide_eq_true_eq] at hlk
      obtain ⟨⟨⟨rfl, hb⟩, hl⟩, hfk⟩ := hlk
      obtain rfl : len = 3 := by omega
      match st, h with
      | x :: .inr (.inl k) :: st', h =>
        obtain ⟨cl, h1, h2⟩ := hy_nth_ok h
        rcases cl with c1 | ⟨ci, fs⟩
        · exact h2.elim
        · cases hci : Nat.beq ci a with
          | false => simp only [hci] at h2
          | true =>
            simp only [hci] at h2
            obtain rfl := Nat.eq_of_beq_eq_true hci
            obtain ⟨h3, -⟩ := hy_fits_ok h2
            obtain ⟨h4, h5⟩ := hy_upd_ok h3
            exact hy_x_put hd hc hb (hy_inT_mem hl) hfk h2 h1 h4 (hK _ _ _ (hy_upd_ok h5).2)
  | iaload =>
    simp only [hy_lk, decide_eq_true_eq] at hlk
    subst hlk
    obtain rfl : len = 1 := by omega
    match st, h with
    | .inl i :: .inr (.inl k) :: st', h =>
      obtain ⟨cl, h1, h2⟩ := hy_nth_ok h
      match cl, h1, h2 with
      | .inl (false, n, f), h1, h2 => exact hy_x_iald hd h1 h2.1 (hK _ _ _ h2.2)
    | .inl i :: .inr (.inr true) :: st', h =>
      match scr, h, hK with
      | some (L1, xs), h, hK => exact hy_x_sld hd h.1 (hK _ _ _ h.2)
  | baload =>
    simp only [hy_lk, decide_eq_true_eq] at hlk
    subst hlk
    obtain rfl : len = 1 := by omega
    match st, h with
    | .inl i :: .inr (.inl k) :: st', h =>
      obtain ⟨cl, h1, h2⟩ := hy_nth_ok h
      match cl, h1, h2 with
      | .inl (true, n, f), h1, h2 => exact hy_x_zald hd h1 h2.1 (hK _ _ _ h2.2)
  | iastore =>
    simp only [hy_lk, decide_eq_true_eq] at hlk
    subst hlk
    obtain rfl : len = 1 := by omega
    match st, h with
    | .inl x :: .inl i :: .inr (.inl k) :: st', h =>
      obtain ⟨cl, h1, h2⟩ := hy_nth_ok h
      match cl, h1, h2 with
      | .inl (false, n, f), h1, h2 => exact hy_x_iast hd h1 h2.1 (hK _ _ _ (hy_upd_ok h2.2).2)
  | bastore =>
    simp only [hy_lk, decide_eq_true_eq] at hlk
    subst hlk
    obtain rfl : len = 1 := by omega
    match st, h with
    | .inl x :: .inl i :: .inr (.inl k) :: st', h =>
      obtain ⟨cl, h1, h2⟩ := hy_nth_ok h
      match cl, h1, h2 with
      | .inl (true, n, f), h1, h2 => exact hy_x_zast hd h1 h2.1 (hK _ _ _ (hy_upd_ok h2.2).2)
  | arraylength =>
    simp only [hy_lk, decide_eq_true_eq] at hlk
    subst hlk
    obtain rfl : len = 1 := by omega
    match st, h with
    | .inr (.inr true) :: st', h =>
      match scr, h, hK with
      | some (L1, xs), h, hK => exact hy_x_slen hd (hK _ _ _ h)
  | ireturn =>
    simp only [hy_lk, decide_eq_true_eq] at hlk
    obtain rfl : len = 1 := by omega
    match st, h with
    | [.inl x], h => exact hy_x_ireturn hd h
  | return_ =>
    simp only [hy_lk, decide_eq_true_eq] at hlk
    obtain rfl : len = 1 := by omega
    match st, h with
    | [], h => exact hy_x_return hd h
  | new i =>
    simp only [hy_lk] at hlk
    cases hc : vwCl[a]? with
    | none => rw [hc] at hlk; cases hlk
    | some q =>
      obtain ⟨C, T, N⟩ := q
      rw [hc] at hlk
      simp only [Bool.and_eq_true, decide_eq_true_eq] at hlk
      obtain ⟨⟨⟨⟨rfl, rfl⟩, l1⟩, l2⟩, l3⟩ := hlk
      obtain rfl : len = 3 := by omega
      simp only [hy_st] at h
      split at h
      · rename_i g1 g2 g3
        exact hy_x_new hd hc (hy_inT_mem l1) (hy_inT_mem l2) (hy_inT_mem l3) (hy_blt g1) (hy_blt g2) g3 (hK _ _ _ h)
      · exact h.elim
  | newarray t =>
    simp only [hy_lk, Bool.and_eq_true, decide_eq_true_eq] at hlk
    obtain ⟨⟨rfl, l1⟩, l2⟩ := hlk
    obtain rfl : len = 2 := by omega
    match st, h with
    | .inl n :: st', h =>
      simp only [hy_st] at h
      split at h
      · rename_i g1 g2 g3
        exact hy_x_newarr hd (hy_inT_mem l1) l2 (hy_blt g1) (hy_blt g2) h.1.1 h.1.2 g3 (hK _ _ _ h.2)
      · exact h.elim
  | invokestatic i =>
    simp only [hy_lk] at hlk
    cases mo with
    | none => cases hlk
    | some Mc =>
      match r, hlk, h with
      | 1, hlk, h =>
        simp only [Bool.and_eq_true, decide_eq_true_eq] at hlk
        obtain ⟨⟨⟨⟨rfl, l1⟩, l2⟩, l3⟩, l4⟩ := hlk
        obtain rfl : len = 3 := by omega
        match st, h with
        | .inl y :: .inl x :: st', h =>
          simp only [hy_st] at h
          split at h
          · rename_i g1 g2
            have g2 := hy_blt g2
            have hr : ∀ (b : Nat) (ρ : Nat → Nat), ((st'.map (hy_v b ρ)).map fun v => v.category).sum ≤ 8 := fun b ρ => by
              have := hy_room_st (m := default) (pc := 0) (ls := #[]) (rest := []) (b := b) (ρ := ρ) (hy_blt g1)
              omega
            intro p l e R s m args below meth c A dC dI b Qf ρ κ H locs cells slots ls a1 a2 a3 a4 a5 a6 a7 a8 a9 a10
            have hr := hr b ρ
            exact va_mmax a1.1 a1.2.1 (a1.2.2.1.trans a7.1.symm) a1.2.2.2.1 (a1.2.2.2.2.1 _ (hy_inT_mem l1)) (a1.2.2.2.2.1 _ (hy_inT_mem l2)) (a1.2.2.2.2.1 _ (hy_inT_mem l3)) (a1.2.2.2.2.1 _ (hy_inT_mem l4)) (by omega) (by omega) (by omega) (by omega) hd (hK _ _ _ h p l e R s m args below meth c A dC dI b Qf ρ κ H locs cells slots ls a1 a2 a3 a4 a5 a6 a7 a8 a9 a10)
          · exact h.elim
      | 2, hlk, h =>
        simp only [Bool.and_eq_true, decide_eq_true_eq] at hlk
        obtain ⟨⟨⟨⟨rfl, l1⟩, l2⟩, l3⟩, l4⟩ := hlk
        obtain rfl : len = 3 := by omega
        match st, h with
        | .inl y :: .inl x :: st', h =>
          simp only [hy_st] at h
          split at h
          · rename_i g1 g2
            have g2 := hy_blt g2
            have hr : ∀ (b : Nat) (ρ : Nat → Nat), ((st'.map (hy_v b ρ)).map fun v => v.category).sum ≤ 8 := fun b ρ => by
              have := hy_room_st (m := default) (pc := 0) (ls := #[]) (rest := []) (b := b) (ρ := ρ) (hy_blt g1)
              omega
            intro p l e R s m args below meth c A dC dI b Qf ρ κ H locs cells slots ls a1 a2 a3 a4 a5 a6 a7 a8 a9 a10
            have hr := hr b ρ
            exact va_mmin a1.1 a1.2.1 (a1.2.2.1.trans a7.1.symm) a1.2.2.2.1 (a1.2.2.2.2.1 _ (hy_inT_mem l1)) (a1.2.2.2.2.1 _ (hy_inT_mem l2)) (a1.2.2.2.2.1 _ (hy_inT_mem l3)) (a1.2.2.2.2.1 _ (hy_inT_mem l4)) (by omega) (by omega) (by omega) (by omega) hd (hK _ _ _ h p l e R s m args below meth c A dC dI b Qf ρ κ H locs cells slots ls a1 a2 a3 a4 a5 a6 a7 a8 a9 a10)
          · exact h.elim
      | 0, hlk, h =>
        simp only [Bool.and_eq_true, decide_eq_true_eq] at hlk
        obtain ⟨⟨⟨⟨⟨rfl, l1⟩, l2⟩, l3⟩, l4⟩, l5⟩ := hlk
        obtain rfl : len = 3 := by omega
        obtain ⟨as, rest, p1, rfl, p3⟩ := hy_pop_ok h
        rw [List.append_nil] at p3
        cases h8 : Nat.ble rest.length 8 with
        | false => simp only [h8] at p3
        | true =>
          simp only [h8] at p3
          have hrun : ∀ d', hy_run M Mc d' 0 0 pc L (as.reverse ++ rest) rest as w := by
            intro d'
            split at l5
            · exact hy_runS hd l1 (hy_inT_mem l3) (hy_inT_mem l5) p1 (hy_blt h8)
            · exact hy_runSN hd l1 (hy_inT_mem l3) (hy_inN_mem l5) p1 (hy_blt h8)
          cases hp : pf a with
          | none =>
            simp only [hp] at p3
            obtain ⟨d', Q1, hR, hdd, hk⟩ := p3
            refine hy_x_call (hrun d') hR hdd (fun o w1 hq => ?_)
            have := hk o w1 hq
            cases o with
            | none => exact hK _ _ _ this
            | some y => exact hK _ _ _ this
          | some q =>
            obtain ⟨n, g⟩ := q
            simp only [hp] at p3
            split at p3
            · rename_i g1 g2
              obtain rfl := Nat.eq_of_beq_eq_true g1
              obtain ⟨xs, rfl, p4⟩ := hy_ints_ok p3
              by_cases ha : a = 0
              · subst ha
                rw [hpf.1] at hp
                cases hp
              · have hM : Mc = hy_pm a := by
                  simp only [Bool.or_eq_true, decide_eq_true_eq] at l4
                  rcases l4 with l4 | l4
                  · exact absurd (Nat.eq_of_beq_eq_true l4) ha
                  · exact l4
                subst hM
                have hR := hpf.2 a n g hp xs w (by simpa using p1)
                refine hy_x_call (hrun 3) hR (hy_blt g2) (fun o w1 hq => ?_)
                obtain ⟨rfl, rfl⟩ := hq
                exact hK _ _ _ p4
            · exact p3.elim
      | r + 3, hlk, h =>
        simp only [Bool.and_eq_true, decide_eq_true_eq] at hlk
        obtain ⟨⟨⟨⟨⟨rfl, l1⟩, l2⟩, l3⟩, l4⟩, l5⟩ := hlk
        obtain rfl : len = 3 := by omega
        obtain ⟨as, rest, p1, rfl, p3⟩ := hy_pop_ok h
        rw [List.append_nil] at p3
        cases h8 : Nat.ble rest.length 8 with
        | false => simp only [h8] at p3
        | true =>
          simp only [h8] at p3
          have hrun : ∀ d', hy_run M Mc d' 0 0 pc L (as.reverse ++ rest) rest as w := by
            intro d'
            split at l5
            · exact hy_runS hd l1 (hy_inT_mem l3) (hy_inT_mem l5) p1 (hy_blt h8)
            · exact hy_runSN hd l1 (hy_inT_mem l3) (hy_inN_mem l5) p1 (hy_blt h8)
          cases hp : pf a with
          | none =>
            simp only [hp] at p3
            obtain ⟨d', Q1, hR, hdd, hk⟩ := p3
            refine hy_x_call (hrun d') hR hdd (fun o w1 hq => ?_)
            have := hk o w1 hq
            cases o with
            | none => exact hK _ _ _ this
            | some y => exact hK _ _ _ this
          | some q =>
            obtain ⟨n, g⟩ := q
            simp only [hp] at p3
            split at p3
            · rename_i g1 g2
              obtain rfl := Nat.eq_of_beq_eq_true g1
              obtain ⟨xs, rfl, p4⟩ := hy_ints_ok p3
              by_cases ha : a = 0
              · subst ha
                rw [hpf.1] at hp
                cases hp
              · have hM : Mc = hy_pm a := by
                  simp only [Bool.or_eq_true, decide_eq_true_eq] at l4
                  rcases l4 with l4 | l4
                  · exact absurd (Nat.eq_of_beq_eq_true l4) ha
                  · exact l4
                subst hM
                have hR := hpf.2 a n g hp xs w (by simpa using p1)
                refine hy_x_call (hrun 3) hR (hy_blt g2) (fun o w1 hq => ?_)
                obtain ⟨rfl, rfl⟩ := hq
                exact hK _ _ _ p4
            · exact p3.elim
  | invokevirtual i =>
    simp only [hy_lk] at hlk
    split at hlk
    · rename_i Mc C T N hmo hc
      simp only [Bool.and_eq_true, decide_eq_true_eq] at hlk
      obtain ⟨⟨⟨⟨⟨rfl, l1⟩, l2⟩, l3⟩, l4⟩, l5⟩ := hlk
      obtain rfl : len = 3 := by omega
      obtain ⟨as, rest, p1, rfl, p3⟩ := hy_pop_ok h
      rw [List.append_nil] at p3
      cases h8 : Nat.ble rest.length 8 with
      | false => simp only [h8] at p3
      | true =>
        simp only [h8] at p3
        match as, p1, p3 with
        | .inr (.inl k) :: as, p1, p3 =>
          obtain ⟨cl, h1, h2⟩ := hy_nth_ok p3
          rcases cl with c1 | ⟨ci, fs⟩
          · exact h2.elim
          · cases hci : Nat.beq ci r with
            | false => simp only [hci] at h2
            | true =>
              simp only [hci] at h2
              obtain rfl := Nat.eq_of_beq_eq_true hci
              obtain ⟨d', Q1, hR, hdd, hk⟩ := h2
              refine hy_x_call (hy_runV hd l1 hc l2 (hy_inT_mem l3) (hy_inT_mem l4) (hy_inT_mem l5) h1 (by simpa using p1) (hy_blt h8)) hR hdd (fun o w1 hq => ?_)
              have := hk o w1 hq
              cases o with
              | none => exact hK _ _ _ this
              | some y => exact hK _ _ _ this
    · cases hlk
  | invokespecial i =>
    simp only [hy_lk] at hlk
    cases mo with
    | none =>
      simp only [Bool.and_eq_true, decide_eq_true_eq] at hlk
      obtain ⟨⟨⟨rfl, l1⟩, l2⟩, l3⟩ := hlk
      obtain rfl : len = 3 := by omega
      match st, h with
      | .inr (.inl k) :: st', h =>
        simp only [hy_st] at h
        split at h
        · rename_i g1 g2
          have g2 := hy_blt g2
          refine hy_s0 (fun p l e R s m args below meth c A dC dI b Qf ρ κ H locs cells slots ls a1 a2 a3 a4 a7 a8 a9 kk => ?_) (hK _ _ _ h)
          refine W.objInit a1.1 a1.2.1 a1.2.2.2.1 (a1.2.2.2.2.1 _ (hy_inT_mem l1)) (a1.2.2.2.2.1 _ (hy_inT_mem l2)) (a1.2.2.2.2.1 _ (hy_inT_mem l3)) rfl (a7.1.trans a1.2.2.1.symm) rfl hd (by omega) ?_ kk
          have := hy_room_st (m := m) (pc := pc) (ls := ls) (rest := (Sum.inr (Sum.inl k) :: st' : List hyV).map (hy_v b ρ)) (b := b) (ρ := ρ) (hy_blt g1)
          omega
        · exact h.elim
    | some Mc =>
      simp only [Bool.and_eq_true, decide_eq_true_eq] at hlk
      obtain ⟨⟨⟨⟨⟨rfl, l1⟩, l2⟩, l3⟩, l4⟩, l5⟩ := hlk
      obtain rfl : len = 3 := by omega
      obtain ⟨as, rest, p1, rfl, p3⟩ := hy_pop_ok h
      rw [List.append_nil] at p3
      split at p3
      · rename_i g1 g2
        match as, p1, p3 with
        | .inr (.inl k) :: as, p1, p3 =>
          obtain ⟨d', mc, ms, Q1, hR, hdd, hmc, hms, hk⟩ := p3
          have hret : Mc.2.2.2 = none := by simpa using l2
          have hrun : hy_run M Mc d' mc ms pc L ((.inr (.inl k) :: as).reverse ++ rest) rest (.inr (.inl k) :: as) w := by
            split at l5
            · exact hy_runI hd l1 hret l3 (hy_inT_mem l4) (hy_inT_mem l5) (by simpa using p1) (hy_blt g1)
            · exact hy_runIN hd l1 hret l3 (hy_inT_mem l4) (hy_inN_mem l5) (by simpa using p1) (hy_blt g1)
          exact hy_x_make hrun hret g2 hR hdd hmc hms (fun w1 hq => hK _ _ _ (hk w1 hq))
      · exact p3.elim
  | _ => exact absurd hlk (by simp [hy_lk])
/-- a stretch of pure steps, up to the program counters of S -/
theorem hy_go {pf : hyP} {tb : hyT} {scr : hyS} {d : Nat} {M : hyM} {Q : hyQ} (hpf : hy_pfok pf) (htb : hy_tok M tb) (S : List Nat) : ∀ (n kc ks : Nat) (f : hyF), hy_wp pf tb S scr d M Q n kc ks f → hy_X scr d M Q kc ks f
  | 0, _, _, _, h => h
  | n + 1, kc, ks, (pc, L, st, w), h => by
    simp only [hy_wp] at h
    cases he : hy_ft tb pc with
    | none => rw [he] at h; exact h.elim
    | some e =>
      rw [he] at h
      refine hy_st_ok hpf (hy_tok_at htb he) (fun kc' ks' f' h' => ?_) h
      cases hm : hy_mem S f'.1 with
      | true => rw [hm] at h'; exact h'
      | false => rw [hm] at h'; exact hy_go hpf htb S n kc' ks' f' h'
theorem hy_args_mem {b : Nat} {ρ : Nat → Nat} : ∀ (as : List hyV) (j i : Nat) (v : hyV), as[i]? = some v → (j + i, hy_v b ρ v) ∈ lv_args j (as.map (hy_v b ρ))
  | [], _, _, _, h => by simp at h
  | a :: r, j, 0, v, h => by
    simp at h; subst h
    exact List.mem_cons_self
  | a :: r, j, i + 1, v, h => by
    have h2 : r[i]? = some v := by simpa using h
    have hc : ¬ (hy_v b ρ a).category = 2 := by rw [hy_v_cat]; omega
    rw [List.map_cons, lv_args, if_neg hc]
    have := hy_args_mem (b := b) (ρ := ρ) r (j + 1) i v h2
    rw [show j + (i + 1) = j + 1 + i by omega]
    exact List.mem_cons_of_mem _ this
theorem hy_sl_len (b : Nat) (ρ : Nat → Nat) : ∀ as : List hyV, (lg_sl (as.map (hy_v b ρ))).length = as.length
  | [] => rfl
  | a :: r => by
    have hc : ¬ (hy_v b ρ a).category = 2 := by rw [hy_v_cat]; omega
    have := hy_sl_len b ρ r
    simp only [lg_sl] at this
    simp only [lg_sl, List.map_cons, List.flatMap_cons, if_neg hc, List.length_append, List.length_cons, List.length_nil]
    rw [this]; omega
def hy_loc (as : List hyV) (n : Nat) : hyL := as.map some ++ List.replicate (n - as.length) none
theorem hy_lr_entry {b : Nat} {ρ : Nat → Nat} {as : List hyV} {n : Nat} {ls : Array Slot} (hn : as.length ≤ n) (h : lv_has ls n (lv_args 0 (as.map (hy_v b ρ)))) : hy_lr b ρ n (hy_loc as n) ls := by
  refine ⟨h.1, by simp [hy_loc]; omega, h.2.1, fun i v hi => ?_⟩
  unfold hy_loc at hi
  rw [List.getElem?_append] at hi
  split at hi
  · rw [List.getElem?_map] at hi
    cases ha : as[i]? with
    | none => rw [ha] at hi; cases hi
    | some x =>
      rw [ha] at hi
      cases hi
      have := hy_args_mem (b := b) (ρ := ρ) as 0 i _ ha
      rw [Nat.zero_add] at this
      exact h.2.2 _ this
  · rw [List.getElem?_replicate] at hi
    split at hi
    · cases hi
    · cases hi
def hy_rok (M : hyM) (Q : hyQ) : Prop := (∀ x w, Q (some x) w → ∃ ty, M.2.2.2 = some ty ∧ narrow ty (.int x) = .int x) ∧ ∀ w, Q none w → M.2.2.2 = none
/-- a method's contract out of its frame's walk -/
theorem hy_R_of {d : Nat} {M : hyM} {kc ks : Nat} {as : List hyV} {w : hyW} {Q : hyQ} {L : hyL} (hy : plainName M.1.cls = true) (hq : hy_rok M Q) (hn : as.length ≤ M.2.2.1) (hL : hy_loc as M.2.2.1 = L) (k : hy_X none d M Q kc ks (0, L, [], w)) : hy_R d M kc ks as w Q := by
  intro l dC dI b ρ κ sz
  refine Met.ofW (cc := M.2.1) (maxL := M.2.2.1) (ret := M.2.2.2) hy rfl ?_
  intro p e s m args below meth c s₁ B hml hv
  obtain ⟨rfl, hsz, ⟨hP, hD0, hK⟩, hnw⟩ := hv
  have hts := atoms_spec (ws := hy_ws M) B.pre
  have hown : s.vm.findClass M.1.cls = some m.cls := findClass_of_methodNamed B.named
  subst hsz
  have hD := hD0.self (sz := s.heap.size)
  have hl := lv_entry (as.map (hy_v b ρ)) (n := M.2.2.1) (by rw [hy_sl_len]; exact hn)
  rw [lg_entry_eq]
  generalize (lg_sl (as.map (hy_v b ρ)) ++ List.replicate (M.2.2.1 - (lg_sl (as.map (hy_v b ρ))).length) Slot.unset).toArray = ls at hl ⊢
  have hlr := hy_lr_entry hn hl
  rw [hL] at hlr
  refine k p l e (headSpec (hy_ws M) (hy_rm d kc ks)).room s m _ below meth c (va_A (hy_w b ρ κ w) s.heap.size) dC dI b _ ρ κ s.heap [] 0 0 ls ⟨B.exec, B.bytes, hml, hown, fun x hx => hts x (List.mem_cons_of_mem _ hx), hnw, fun hi => ?_, fun q h => Or.inr h⟩ (fun _ _ h => by cases h) (Nat.le_refl _) (Nat.le_refl _) (Nat.le_of_eq (Nat.zero_add _)) (Nat.le_of_eq (Nat.zero_add _)) hlr ⟨hP, hD, hK⟩ va_S.rf ?_
  · rw [(name_of_methodNamed B.named B.method).1]; exact hi
  · intro r w' ρ' κ' H' locs' pc' ls' a1 a2 a3 a4 a5
    rw [Nat.zero_add, Nat.zero_add]
    cases r with
    | some x =>
      obtain ⟨ty, t1, t2⟩ := hq.1 x w' a1
      refine W.zret (ty := ty) B.exec B.bytes (B.returns.trans t1) t2 (fun t ht hW => ?_) a4.2.2 a5 B.notSynchronized
      unfold hy_Qc
      rw [t1]
      exact ⟨⟨x, (w', ρ', κ'), rfl, ⟨a1, a2⟩, by rw [ht]; exact a3.1, a3.2.1, hy_K_moved hW.alike a3.2.2⟩, a4.F ht⟩
    | none =>
      have t1 := hq.2 w' a1
      refine W.vret B.exec B.bytes (B.returns.trans t1) (fun t ht hW => ?_) a4.2.2 a5 B.notSynchronized
      unfold hy_Qc
      rw [t1]
      exact ⟨⟨(w', ρ', κ'), rfl, ⟨a1, a2⟩, by rw [ht]; exact a3.1, a3.2.1, hy_K_moved hW.alike a3.2.2⟩, a4.F ht⟩
/-- an int method, a boolean method, a void method -/
theorem hy_Ri {d : Nat} {M : hyM} {kc ks : Nat} {as : List hyV} {w : hyW} {Q : Int32 → hyW → Prop} {L : hyL} (hr : M.2.2.2 = some .int) (hy : plainName M.1.cls = true) (hn : as.length ≤ M.2.2.1) (hL : hy_loc as M.2.2.1 = L) (k : hy_X none d M (fun o w1 => ∃ x, o = some x ∧ Q x w1) kc ks (0, L, [], w)) : hy_R d M kc ks as w (fun o w1 => ∃ x, o = some x ∧ Q x w1) :=
  hy_R_of hy ⟨fun x w h => ⟨.int, hr, rfl⟩, fun w h => by obtain ⟨x, h, -⟩ := h; cases h⟩ hn hL k
theorem hy_Rz {d : Nat} {M : hyM} {kc ks : Nat} {as : List hyV} {w : hyW} {Q : Int32 → hyW → Prop} {L : hyL} (hr : M.2.2.2 = some .boolean) (hy : plainName M.1.cls = true) (hq : ∀ x w, Q x w → x = 0 ∨ x = 1) (hn : as.length ≤ M.2.2.1) (hL : hy_loc as M.2.2.1 = L) (k : hy_X none d M (fun o w1 => ∃ x, o = some x ∧ Q x w1) kc ks (0, L, [], w)) : hy_R d M kc ks as w (fun o w1 => ∃ x, o = some x ∧ Q x w1) :=
  hy_R_of hy ⟨fun x w h => ⟨.boolean, hr, by obtain ⟨y, h, h2⟩ := h; cases h; exact (hy_nar_bool (hq _ _ h2)).1⟩, fun w h => by obtain ⟨x, h, -⟩ := h; cases h⟩ hn hL k
theorem hy_Rv {d : Nat} {M : hyM} {kc ks : Nat} {as : List hyV} {w : hyW} {Q : hyW → Prop} {L : hyL} (hr : M.2.2.2 = none) (hy : plainName M.1.cls = true) (hn : as.length ≤ M.2.2.1) (hL : hy_loc as M.2.2.1 = L) (k : hy_X none d M (fun o w1 => o = none ∧ Q w1) kc ks (0, L, [], w)) : hy_R d M kc ks as w (fun o w1 => o = none ∧ Q w1) :=
  hy_R_of hy ⟨fun x w h => (by cases h.1), fun w _ => hr⟩ hn hL k
end
section
/-! the methods and their tables of linked instructions: written by a program (wip/whole/gen_tabs.py) out of the names -/
def mX0_init : hyM := (yX0_init, cX0_init, 1, none)
def mX0_count : hyM := (yX0_count, cX0_count, 1, (some .int))
def mX0_tell : hyM := (yX0_tell, cX0_tell, 3, (some .int))
def mX0_howManyFit : hyM := (yX0_howManyFit, cX0_howManyFit, 2, (some .int))
def mX0_sureNet : hyM := (yX0_sureNet, cX0_sureNet, 2, (some .int))
def mX0_sureFind : hyM := (yX0_sureFind, cX0_sureFind, 3, (some .int))
def mX0_hasWay : hyM := (yX0_hasWay, cX0_hasWay, 4, (some .boolean))
def mX0_reachable : hyM := (yX0_reachable, cX0_reachable, 7, (some .int))
def mX0_fittedBy : hyM := (yX0_fittedBy, cX0_fittedBy, 4, (some .int))
def mX0_onlyOne : hyM := (yX0_onlyOne, cX0_onlyOne, 1, (some .int))
def mX0_isFind : hyM := (yX0_isFind, cX0_isFind, 2, (some .boolean))
def mX1_init : hyM := (yX1_init, cX1_init, 1, none)
def mX1_rollCount : hyM := (yX1_rollCount, cX1_rollCount, 1, (some .int))
def mX1_cutCount : hyM := (yX1_cutCount, cX1_cutCount, 1, (some .int))
def mX1_addRoll : hyM := (yX1_addRoll, cX1_addRoll, 3, (some .int))
def mX1_addCut : hyM := (yX1_addCut, cX1_addCut, 3, (some .int))
def mX1_dropAll : hyM := (yX1_dropAll, cX1_dropAll, 2, (some .int))
def mX1_leastOpened : hyM := (yX1_leastOpened, cX1_leastOpened, 1, (some .int))
def mX1_rollUnder : hyM := (yX1_rollUnder, cX1_rollUnder, 2, (some .int))
def mX1_lay : hyM := (yX1_lay, cX1_lay, 2, none)
def mX1_measureSets : hyM := (yX1_measureSets, cX1_measureSets, 5, none)
def mX1_layOnLowestRoll : hyM := (yX1_layOnLowestRoll, cX1_layOnLowestRoll, 3, none)
def mX1_leastWith : hyM := (yX1_leastWith, cX1_leastWith, 5, (some .int))
def mX1_usedOf : hyM := (yX1_usedOf, cX1_usedOf, 5, (some .int))
def mX1_packLot : hyM := (yX1_packLot, cX1_packLot, 7, none)
def mX1_packRoll : hyM := (yX1_packRoll, cX1_packRoll, 9, none)
def mX1_joinLot : hyM := (yX1_joinLot, cX1_joinLot, 7, none)
def mX1_cutsToLay : hyM := (yX1_cutsToLay, cX1_cutsToLay, 6, (some .int))
def mX2_init : hyM := (yX2_init, cX2_init, 2, none)
def mX2_count : hyM := (yX2_count, cX2_count, 1, (some .int))
def mX2_clock : hyM := (yX2_clock, cX2_clock, 1, (some .int))
def mX2_huskTotal : hyM := (yX2_huskTotal, cX2_huskTotal, 1, (some .int))
def mX2_setSalt : hyM := (yX2_setSalt, cX2_setSalt, 3, (some .boolean))
def mX2_setRipens : hyM := (yX2_setRipens, cX2_setRipens, 3, (some .boolean))
def mX2_putIn : hyM := (yX2_putIn, cX2_putIn, 5, (some .int))
def mX2_goBy : hyM := (yX2_goBy, cX2_goBy, 3, (some .int))
def mX2_takeOut : hyM := (yX2_takeOut, cX2_takeOut, 2, (some .int))
def mX2_floatOff : hyM := (yX2_floatOff, cX2_floatOff, 4, (some .int))
def mX2_afloatWith : hyM := (yX2_afloatWith, cX2_afloatWith, 6, (some .int))
def mX2_comeBack : hyM := (yX2_comeBack, cX2_comeBack, 2, none)
def mX2_countIn : hyM := (yX2_countIn, cX2_countIn, 4, (some .int))
def mX2_tellOf : hyM := (yX2_tellOf, cX2_tellOf, 3, (some .int))
def mX2_weeksToRipe : hyM := (yX2_weeksToRipe, cX2_weeksToRipe, 3, (some .int))
def mX2_rateAt : hyM := (yX2_rateAt, cX2_rateAt, 2, (some .int))
def mX2_isRipe : hyM := (yX2_isRipe, cX2_isRipe, 2, (some .boolean))
def mX2_isNet : hyM := (yX2_isNet, cX2_isNet, 2, (some .boolean))
def mX2_isPit : hyM := (yX2_isPit, cX2_isPit, 1, (some .boolean))
def mX3_init : hyM := (yX3_init, cX3_init, 1, none)
def mX3_count : hyM := (yX3_count, cX3_count, 1, (some .int))
def mX3_bound : hyM := (yX3_bound, cX3_bound, 2, (some .int))
def mX3_tell : hyM := (yX3_tell, cX3_tell, 5, (some .int))
def mX3_weightFor : hyM := (yX3_weightFor, cX3_weightFor, 3, (some .int))
def mX3_leastWeight : hyM := (yX3_leastWeight, cX3_leastWeight, 5, (some .int))
def mX3_greatestWeight : hyM := (yX3_greatestWeight, cX3_greatestWeight, 5, (some .int))
def mX3_readBy : hyM := (yX3_readBy, cX3_readBy, 2, (some .int))
def mX3_isReadSo : hyM := (yX3_isReadSo, cX3_isReadSo, 3, (some .boolean))
def mX3_weightsBelow : hyM := (yX3_weightsBelow, cX3_weightsBelow, 3, (some .int))
def mX4_init : hyM := (yX4_init, cX4_init, 1, none)
def mX4_count : hyM := (yX4_count, cX4_count, 1, (some .int))
def mX4_take : hyM := (yX4_take, cX4_take, 5, (some .int))
def mX4_setChange : hyM := (yX4_setChange, cX4_setChange, 2, (some .boolean))
def mX4_dropOrders : hyM := (yX4_dropOrders, cX4_dropOrders, 2, (some .int))
def mX4_leastLate : hyM := (yX4_leastLate, cX4_leastLate, 1, (some .int))
def mX4_orderAt : hyM := (yX4_orderAt, cX4_orderAt, 2, (some .int))
def mX4_endAt : hyM := (yX4_endAt, cX4_endAt, 5, (some .int))
def mX4_plan : hyM := (yX4_plan, cX4_plan, 1, none)
def mX4_tryPlace : hyM := (yX4_tryPlace, cX4_tryPlace, 7, none)
def mX4_tryRest : hyM := (yX4_tryRest, cX4_tryRest, 9, none)
def mX4_keepRow : hyM := (yX4_keepRow, cX4_keepRow, 3, none)
def mX4_endOf : hyM := (yX4_endOf, cX4_endOf, 5, (some .int))
def mX5_init : hyM := (yX5_init, cX5_init, 1, none)
def mX5_salt : hyM := (yX5_salt, cX5_salt, 3, (some .boolean))
def mX5_ripens : hyM := (yX5_ripens, cX5_ripens, 3, (some .boolean))
def mX5_net : hyM := (yX5_net, cX5_net, 5, (some .int))
def mX5_weeks : hyM := (yX5_weeks, cX5_weeks, 2, (some .int))
def mX5_pull : hyM := (yX5_pull, cX5_pull, 2, (some .int))
def mX5_flood : hyM := (yX5_flood, cX5_flood, 2, (some .int))
def mX5_find : hyM := (yX5_find, cX5_find, 4, (some .int))
def mX5_found : hyM := (yX5_found, cX5_found, 3, (some .int))
def mX5_netOf : hyM := (yX5_netOf, cX5_netOf, 3, (some .int))
def mX5_order : hyM := (yX5_order, cX5_order, 5, (some .int))
def mX5_change : hyM := (yX5_change, cX5_change, 2, (some .boolean))
def mX5_late : hyM := (yX5_late, cX5_late, 1, (some .int))
def mX5_spun : hyM := (yX5_spun, cX5_spun, 3, (some .int))
def mX5_clear : hyM := (yX5_clear, cX5_clear, 1, (some .int))
def mX5_roll : hyM := (yX5_roll, cX5_roll, 3, (some .int))
def mX5_cut : hyM := (yX5_cut, cX5_cut, 3, (some .int))
def mX5_opened : hyM := (yX5_opened, cX5_opened, 1, (some .int))
def mX5_from : hyM := (yX5_from, cX5_from, 2, (some .int))
def mX5_away : hyM := (yX5_away, cX5_away, 1, (some .int))
def mX5_reading : hyM := (yX5_reading, cX5_reading, 3, (some .int))
def mX5_errs : hyM := (yX5_errs, cX5_errs, 2, (some .int))
def mX5_back : hyM := (yX5_back, cX5_back, 3, (some .int))
def mX5_about : hyM := (yX5_about, cX5_about, 2, (some .int))
def mX5_bringBackTheSure : hyM := (yX5_bringBackTheSure, cX5_bringBackTheSure, 2, none)
def mX5_isMarks : hyM := (yX5_isMarks, cX5_isMarks, 1, (some .boolean))
def mX5_within : hyM := (yX5_within, cX5_within, 3, (some .boolean))
def mX6_init : hyM := (yX6_init, cX6_init, 2, none)
def mX6_in : hyM := (yX6_in, cX6_in, 3, (some .boolean))
def mX6_isNet : hyM := (yX6_isNet, cX6_isNet, 2, (some .boolean))
def mX6_salt : hyM := (yX6_salt, cX6_salt, 3, (some .boolean))
def mX6_ripens : hyM := (yX6_ripens, cX6_ripens, 3, (some .boolean))
def mX6_net : hyM := (yX6_net, cX6_net, 5, (some .int))
def mX6_weeks : hyM := (yX6_weeks, cX6_weeks, 3, (some .int))
def mX6_fits : hyM := (yX6_fits, cX6_fits, 3, (some .boolean))
def mX6_isWay : hyM := (yX6_isWay, cX6_isWay, 7, (some .boolean))
def mX6_knows : hyM := (yX6_knows, cX6_knows, 4, none)
def mX6_findOf : hyM := (yX6_findOf, cX6_findOf, 4, (some .int))
def mX6_stateOf : hyM := (yX6_stateOf, cX6_stateOf, 2, (some .int))
def mX6_isRipe : hyM := (yX6_isRipe, cX6_isRipe, 2, (some .boolean))
def mX6_pull : hyM := (yX6_pull, cX6_pull, 3, (some .int))
def mX6_flood : hyM := (yX6_flood, cX6_flood, 4, (some .int))
def mX6_find : hyM := (yX6_find, cX6_find, 5, (some .int))
def mX6_found : hyM := (yX6_found, cX6_found, 5, (some .int))
def mX6_weeksLeft : hyM := (yX6_weeksLeft, cX6_weeksLeft, 4, (some .int))
def mX6_netOf : hyM := (yX6_netOf, cX6_netOf, 3, (some .int))
def mX6_order : hyM := (yX6_order, cX6_order, 5, (some .int))
def mX6_change : hyM := (yX6_change, cX6_change, 2, (some .boolean))
def mX6_endOf : hyM := (yX6_endOf, cX6_endOf, 7, (some .int))
def mX6_nextRow : hyM := (yX6_nextRow, cX6_nextRow, 5, (some .boolean))
def mX6_swaps : hyM := (yX6_swaps, cX6_swaps, 4, none)
def mX6_spins : hyM := (yX6_spins, cX6_spins, 5, (some .int))
def mX6_late : hyM := (yX6_late, cX6_late, 1, (some .int))
def mX6_spun : hyM := (yX6_spun, cX6_spun, 4, (some .int))
def mX6_clear : hyM := (yX6_clear, cX6_clear, 2, (some .int))
def mX6_roll : hyM := (yX6_roll, cX6_roll, 3, (some .int))
def mX6_cut : hyM := (yX6_cut, cX6_cut, 3, (some .int))
def mX6_cutOf : hyM := (yX6_cutOf, cX6_cutOf, 5, (some .int))
def mX6_openedBy : hyM := (yX6_openedBy, cX6_openedBy, 4, (some .int))
def mX6_mayLie : hyM := (yX6_mayLie, cX6_mayLie, 5, (some .boolean))
def mX6_lays : hyM := (yX6_lays, cX6_lays, 4, (some .int))
def mX6_opened : hyM := (yX6_opened, cX6_opened, 2, (some .int))
def mX6_from : hyM := (yX6_from, cX6_from, 2, (some .int))
def mX6_away : hyM := (yX6_away, cX6_away, 2, (some .int))
def mX6_reads : hyM := (yX6_reads, cX6_reads, 2, (some .int))
def mX6_reading : hyM := (yX6_reading, cX6_reading, 6, (some .int))
def mX6_errs : hyM := (yX6_errs, cX6_errs, 2, (some .int))
def mX6_back : hyM := (yX6_back, cX6_back, 7, (some .int))
def mX6_about : hyM := (yX6_about, cX6_about, 5, (some .int))
def mJ6_numberOfTrailingZeros_0f7a4 : hyM := (yJ6_numberOfTrailingZeros_0f7a4, cJ6_numberOfTrailingZeros_0f7a4, 2, (some .int))
def mJ6_bitCount_0f7a4 : hyM := (yJ6_bitCount_0f7a4, cJ6_bitCount_0f7a4, 1, (some .int))
def mJ9_max_7cf53 : hyM := (yJ9_max_7cf53, cJ9_max_7cf53, 2, (some .int))
def mJ9_min_7cf53 : hyM := (yJ9_min_7cf53, cJ9_min_7cf53, 2, (some .int))
def mL_law : hyM := (yL_law, cL_law, maxLocals, ret)
def tJ6_numberOfTrailingZeros_0f7a4_0 : List (Nat × hyE) := [(0, .iload_n 0, 1, 0, 0, 0, 0, 0, none, []),
  (1, .iconst (-1), 2, 0, 0, 0, 0, (-1), none, []),
  (2, .ixor, 3, 0, 0, 0, 0, 0, none, []),
  (3, .iload_n 0, 4, 0, 0, 0, 0, 0, none, []),
  (4, .iconst 1, 5, 0, 0, 0, 0, 1, none, []),
  (5, .isub, 6, 0, 0, 0, 0, 0, none, []),
  (6, .iand, 7, 0, 0, 0, 0, 0, none, []),
  (7, .istore_n 0, 8, 0, 0, 0, 0, 0, none, []),
  (8, .iload_n 0, 9, 0, 0, 0, 0, 0, none, []),
  (9, .ifCond .gt 8, 12, 17, 0, 0, 0, 0, none, []),
  (12, .iload_n 0, 13, 0, 0, 0, 0, 0, none, []),
  (13, .bipush 32, 15, 0, 0, 0, 0, 32, none, []),
  (15, .iand, 16, 0, 0, 0, 0, 0, none, [])]
theorem oJ6_numberOfTrailingZeros_0f7a4_0 : ∀ q ∈ tJ6_numberOfTrailingZeros_0f7a4_0, hy_ok mJ6_numberOfTrailingZeros_0f7a4 q.1 q.2 = true := by decide +kernel
def tJ6_numberOfTrailingZeros_0f7a4_1 : List (Nat × hyE) := [(16, .ireturn, 17, 0, 0, 0, 0, 0, none, []),
  (17, .iconst 1, 18, 0, 0, 0, 0, 1, none, []),
  (18, .istore_n 1, 19, 1, 0, 0, 0, 0, none, []),
  (19, .iload_n 0, 20, 0, 0, 0, 0, 0, none, []),
  (20, .ldc_w 264, 23, 0, 0, 0, 0, 65536, none, []),
  (23, .if_icmp .le 11, 26, 34, 0, 0, 0, 0, none, []),
  (26, .iinc 1 16, 29, 1, 0, 0, 0, 16, none, []),
  (29, .iload_n 0, 30, 0, 0, 0, 0, 0, none, []),
  (30, .bipush 16, 32, 0, 0, 0, 0, 16, none, [])]
theorem oJ6_numberOfTrailingZeros_0f7a4_1 : ∀ q ∈ tJ6_numberOfTrailingZeros_0f7a4_1, hy_ok mJ6_numberOfTrailingZeros_0f7a4 q.1 q.2 = true := by decide +kernel
def tJ6_numberOfTrailingZeros_0f7a4_2 : List (Nat × hyE) := [(32, .iushr, 33, 0, 0, 0, 0, 0, none, []),
  (33, .istore_n 0, 34, 0, 0, 0, 0, 0, none, []),
  (34, .iload_n 0, 35, 0, 0, 0, 0, 0, none, []),
  (35, .sipush 256, 38, 0, 0, 0, 0, 256, none, []),
  (38, .if_icmp .le 11, 41, 49, 0, 0, 0, 0, none, []),
  (41, .iinc 1 8, 44, 1, 0, 0, 0, 8, none, []),
  (44, .iload_n 0, 45, 0, 0, 0, 0, 0, none, []),
  (45, .bipush 8, 47, 0, 0, 0, 0, 8, none, []),
  (47, .iushr, 48, 0, 0, 0, 0, 0, none, [])]
theorem oJ6_numberOfTrailingZeros_0f7a4_2 : ∀ q ∈ tJ6_numberOfTrailingZeros_0f7a4_2, hy_ok mJ6_numberOfTrailingZeros_0f7a4 q.1 q.2 = true := by decide +kernel
def tJ6_numberOfTrailingZeros_0f7a4_3 : List (Nat × hyE) := [(48, .istore_n 0, 49, 0, 0, 0, 0, 0, none, []),
  (49, .iload_n 0, 50, 0, 0, 0, 0, 0, none, []),
  (50, .bipush 16, 52, 0, 0, 0, 0, 16, none, []),
  (52, .if_icmp .le 10, 55, 62, 0, 0, 0, 0, none, []),
  (55, .iinc 1 4, 58, 1, 0, 0, 0, 4, none, []),
  (58, .iload_n 0, 59, 0, 0, 0, 0, 0, none, []),
  (59, .iconst 4, 60, 0, 0, 0, 0, 4, none, []),
  (60, .iushr, 61, 0, 0, 0, 0, 0, none, []),
  (61, .istore_n 0, 62, 0, 0, 0, 0, 0, none, []),
  (62, .iload_n 0, 63, 0, 0, 0, 0, 0, none, []),
  (63, .iconst 4, 64, 0, 0, 0, 0, 4, none, [])]
theorem oJ6_numberOfTrailingZeros_0f7a4_3 : ∀ q ∈ tJ6_numberOfTrailingZeros_0f7a4_3, hy_ok mJ6_numberOfTrailingZeros_0f7a4 q.1 q.2 = true := by decide +kernel
def tJ6_numberOfTrailingZeros_0f7a4_4 : List (Nat × hyE) := [(64, .if_icmp .le 10, 67, 74, 0, 0, 0, 0, none, []),
  (67, .iinc 1 2, 70, 1, 0, 0, 0, 2, none, []),
  (70, .iload_n 0, 71, 0, 0, 0, 0, 0, none, []),
  (71, .iconst 2, 72, 0, 0, 0, 0, 2, none, []),
  (72, .iushr, 73, 0, 0, 0, 0, 0, none, []),
  (73, .istore_n 0, 74, 0, 0, 0, 0, 0, none, []),
  (74, .iload_n 1, 75, 1, 0, 0, 0, 0, none, []),
  (75, .iload_n 0, 76, 0, 0, 0, 0, 0, none, []),
  (76, .iconst 1, 77, 0, 0, 0, 0, 1, none, []),
  (77, .iushr, 78, 0, 0, 0, 0, 0, none, []),
  (78, .iadd, 79, 0, 0, 0, 0, 0, none, []),
  (79, .ireturn, 80, 0, 0, 0, 0, 0, none, [])]
theorem oJ6_numberOfTrailingZeros_0f7a4_4 : ∀ q ∈ tJ6_numberOfTrailingZeros_0f7a4_4, hy_ok mJ6_numberOfTrailingZeros_0f7a4 q.1 q.2 = true := by decide +kernel
def tJ6_numberOfTrailingZeros_0f7a4 : hyT := [tJ6_numberOfTrailingZeros_0f7a4_0, tJ6_numberOfTrailingZeros_0f7a4_1, tJ6_numberOfTrailingZeros_0f7a4_2, tJ6_numberOfTrailingZeros_0f7a4_3, tJ6_numberOfTrailingZeros_0f7a4_4]
theorem oJ6_numberOfTrailingZeros_0f7a4 : hy_tok mJ6_numberOfTrailingZeros_0f7a4 tJ6_numberOfTrailingZeros_0f7a4 := List.forall_mem_cons.mpr ⟨oJ6_numberOfTrailingZeros_0f7a4_0, List.forall_mem_cons.mpr ⟨oJ6_numberOfTrailingZeros_0f7a4_1, List.forall_mem_cons.mpr ⟨oJ6_numberOfTrailingZeros_0f7a4_2, List.forall_mem_cons.mpr ⟨oJ6_numberOfTrailingZeros_0f7a4_3, List.forall_mem_cons.mpr ⟨oJ6_numberOfTrailingZeros_0f7a4_4, fun _ h => absurd h List.not_mem_nil⟩⟩⟩⟩⟩
def tJ6_bitCount_0f7a4_0 : List (Nat × hyE) := [(0, .iload_n 0, 1, 0, 0, 0, 0, 0, none, []),
  (1, .iload_n 0, 2, 0, 0, 0, 0, 0, none, []),
  (2, .iconst 1, 3, 0, 0, 0, 0, 1, none, []),
  (3, .iushr, 4, 0, 0, 0, 0, 0, none, []),
  (4, .ldc_w 265, 7, 0, 0, 0, 0, 1431655765, none, []),
  (7, .iand, 8, 0, 0, 0, 0, 0, none, []),
  (8, .isub, 9, 0, 0, 0, 0, 0, none, []),
  (9, .istore_n 0, 10, 0, 0, 0, 0, 0, none, []),
  (10, .iload_n 0, 11, 0, 0, 0, 0, 0, none, []),
  (11, .ldc_w 266, 14, 0, 0, 0, 0, 858993459, none, []),
  (14, .iand, 15, 0, 0, 0, 0, 0, none, []),
  (15, .iload_n 0, 16, 0, 0, 0, 0, 0, none, [])]
theorem oJ6_bitCount_0f7a4_0 : ∀ q ∈ tJ6_bitCount_0f7a4_0, hy_ok mJ6_bitCount_0f7a4 q.1 q.2 = true := by decide +kernel
def tJ6_bitCount_0f7a4_1 : List (Nat × hyE) := [(16, .iconst 2, 17, 0, 0, 0, 0, 2, none, []),
  (17, .iushr, 18, 0, 0, 0, 0, 0, none, []),
  (18, .ldc_w 266, 21, 0, 0, 0, 0, 858993459, none, []),
  (21, .iand, 22, 0, 0, 0, 0, 0, none, []),
  (22, .iadd, 23, 0, 0, 0, 0, 0, none, []),
  (23, .istore_n 0, 24, 0, 0, 0, 0, 0, none, []),
  (24, .iload_n 0, 25, 0, 0, 0, 0, 0, none, []),
  (25, .iload_n 0, 26, 0, 0, 0, 0, 0, none, []),
  (26, .iconst 4, 27, 0, 0, 0, 0, 4, none, []),
  (27, .iushr, 28, 0, 0, 0, 0, 0, none, []),
  (28, .iadd, 29, 0, 0, 0, 0, 0, none, []),
  (29, .ldc_w 267, 32, 0, 0, 0, 0, 252645135, none, [])]
theorem oJ6_bitCount_0f7a4_1 : ∀ q ∈ tJ6_bitCount_0f7a4_1, hy_ok mJ6_bitCount_0f7a4 q.1 q.2 = true := by decide +kernel
def tJ6_bitCount_0f7a4_2 : List (Nat × hyE) := [(32, .iand, 33, 0, 0, 0, 0, 0, none, []),
  (33, .istore_n 0, 34, 0, 0, 0, 0, 0, none, []),
  (34, .iload_n 0, 35, 0, 0, 0, 0, 0, none, []),
  (35, .iload_n 0, 36, 0, 0, 0, 0, 0, none, []),
  (36, .bipush 8, 38, 0, 0, 0, 0, 8, none, []),
  (38, .iushr, 39, 0, 0, 0, 0, 0, none, []),
  (39, .iadd, 40, 0, 0, 0, 0, 0, none, []),
  (40, .istore_n 0, 41, 0, 0, 0, 0, 0, none, []),
  (41, .iload_n 0, 42, 0, 0, 0, 0, 0, none, []),
  (42, .iload_n 0, 43, 0, 0, 0, 0, 0, none, []),
  (43, .bipush 16, 45, 0, 0, 0, 0, 16, none, []),
  (45, .iushr, 46, 0, 0, 0, 0, 0, none, []),
  (46, .iadd, 47, 0, 0, 0, 0, 0, none, []),
  (47, .istore_n 0, 48, 0, 0, 0, 0, 0, none, [])]
theorem oJ6_bitCount_0f7a4_2 : ∀ q ∈ tJ6_bitCount_0f7a4_2, hy_ok mJ6_bitCount_0f7a4 q.1 q.2 = true := by decide +kernel
def tJ6_bitCount_0f7a4_3 : List (Nat × hyE) := [(48, .iload_n 0, 49, 0, 0, 0, 0, 0, none, []),
  (49, .bipush 63, 51, 0, 0, 0, 0, 63, none, []),
  (51, .iand, 52, 0, 0, 0, 0, 0, none, []),
  (52, .ireturn, 53, 0, 0, 0, 0, 0, none, [])]
theorem oJ6_bitCount_0f7a4_3 : ∀ q ∈ tJ6_bitCount_0f7a4_3, hy_ok mJ6_bitCount_0f7a4 q.1 q.2 = true := by decide +kernel
def tJ6_bitCount_0f7a4 : hyT := [tJ6_bitCount_0f7a4_0, tJ6_bitCount_0f7a4_1, tJ6_bitCount_0f7a4_2, tJ6_bitCount_0f7a4_3]
theorem oJ6_bitCount_0f7a4 : hy_tok mJ6_bitCount_0f7a4 tJ6_bitCount_0f7a4 := List.forall_mem_cons.mpr ⟨oJ6_bitCount_0f7a4_0, List.forall_mem_cons.mpr ⟨oJ6_bitCount_0f7a4_1, List.forall_mem_cons.mpr ⟨oJ6_bitCount_0f7a4_2, List.forall_mem_cons.mpr ⟨oJ6_bitCount_0f7a4_3, fun _ h => absurd h List.not_mem_nil⟩⟩⟩⟩
def tJ9_max_7cf53_0 : List (Nat × hyE) := [(0, .iload_n 0, 1, 0, 0, 0, 0, 0, none, []),
  (1, .iload_n 1, 2, 1, 0, 0, 0, 0, none, []),
  (2, .if_icmp .lt 7, 5, 9, 0, 0, 0, 0, none, []),
  (5, .iload_n 0, 6, 0, 0, 0, 0, 0, none, []),
  (6, .goto 4, 9, 10, 0, 0, 0, 0, none, []),
  (9, .iload_n 1, 10, 1, 0, 0, 0, 0, none, []),
  (10, .ireturn, 11, 0, 0, 0, 0, 0, none, [])]
theorem oJ9_max_7cf53_0 : ∀ q ∈ tJ9_max_7cf53_0, hy_ok mJ9_max_7cf53 q.1 q.2 = true := by decide +kernel
def tJ9_max_7cf53 : hyT := [tJ9_max_7cf53_0]
theorem oJ9_max_7cf53 : hy_tok mJ9_max_7cf53 tJ9_max_7cf53 := List.forall_mem_cons.mpr ⟨oJ9_max_7cf53_0, fun _ h => absurd h List.not_mem_nil⟩
def tJ9_min_7cf53_0 : List (Nat × hyE) := [(0, .iload_n 0, 1, 0, 0, 0, 0, 0, none, []),
  (1, .iload_n 1, 2, 1, 0, 0, 0, 0, none, []),
  (2, .if_icmp .gt 7, 5, 9, 0, 0, 0, 0, none, []),
  (5, .iload_n 0, 6, 0, 0, 0, 0, 0, none, []),
  (6, .goto 4, 9, 10, 0, 0, 0, 0, none, []),
  (9, .iload_n 1, 10, 1, 0, 0, 0, 0, none, []),
  (10, .ireturn, 11, 0, 0, 0, 0, 0, none, [])]
theorem oJ9_min_7cf53_0 : ∀ q ∈ tJ9_min_7cf53_0, hy_ok mJ9_min_7cf53 q.1 q.2 = true := by decide +kernel
def tJ9_min_7cf53 : hyT := [tJ9_min_7cf53_0]
theorem oJ9_min_7cf53 : hy_tok mJ9_min_7cf53 tJ9_min_7cf53 := List.forall_mem_cons.mpr ⟨oJ9_min_7cf53_0, fun _ h => absurd h List.not_mem_nil⟩
def tX5_within_0 : List (Nat × hyE) := [(0, .iload_n 0, 1, 0, 0, 0, 0, 0, none, []),
  (1, .iload_n 1, 2, 1, 0, 0, 0, 0, none, []),
  (2, .if_icmp .lt 12, 5, 14, 0, 0, 0, 0, none, []),
  (5, .iload_n 0, 6, 0, 0, 0, 0, 0, none, []),
  (6, .iload_n 2, 7, 2, 0, 0, 0, 0, none, []),
  (7, .if_icmp .gt 7, 10, 14, 0, 0, 0, 0, none, []),
  (10, .iconst 1, 11, 0, 0, 0, 0, 1, none, []),
  (11, .goto 4, 14, 15, 0, 0, 0, 0, none, []),
  (14, .iconst 0, 15, 0, 0, 0, 0, 0, none, []),
  (15, .ireturn, 16, 0, 0, 0, 0, 0, none, [])]
theorem oX5_within_0 : ∀ q ∈ tX5_within_0, hy_ok mX5_within q.1 q.2 = true := by decide +kernel
def tX5_within : hyT := [tX5_within_0]
theorem oX5_within : hy_tok mX5_within tX5_within := List.forall_mem_cons.mpr ⟨oX5_within_0, fun _ h => absurd h List.not_mem_nil⟩
def tX6_init_0 : List (Nat × hyE) := [(0, .aload_n 0, 1, 0, 0, 0, 0, 0, none, []),
  (1, .invokespecial 1, 4, 0, 0, 0, 0, 0, none, []),
  (4, .aload_n 0, 5, 0, 0, 0, 0, 0, none, []),
  (5, .bipush 8, 7, 0, 0, 0, 0, 8, none, []),
  (7, .newarray .int, 9, 0, 0, 0, 0, 0, none, []),
  (9, .putfield 7, 12, 6, 1, 2, 0, 0, none, []),
  (12, .aload_n 0, 13, 0, 0, 0, 0, 0, none, []),
  (13, .bipush 10, 15, 0, 0, 0, 0, 10, none, []),
  (15, .newarray .int, 17, 0, 0, 0, 0, 0, none, [])]
theorem oX6_init_0 : ∀ q ∈ tX6_init_0, hy_ok mX6_init q.1 q.2 = true := by decide +kernel
def tX6_init_1 : List (Nat × hyE) := [(17, .putfield 13, 20, 6, 2, 2, 0, 0, none, []),
  (20, .aload_n 0, 21, 0, 0, 0, 0, 0, none, []),
  (21, .bipush 24, 23, 0, 0, 0, 0, 24, none, []),
  (23, .newarray .int, 25, 0, 0, 0, 0, 0, none, []),
  (25, .putfield 16, 28, 6, 4, 2, 0, 0, none, []),
  (28, .aload_n 0, 29, 0, 0, 0, 0, 0, none, []),
  (29, .bipush 24, 31, 0, 0, 0, 0, 24, none, []),
  (31, .newarray .int, 33, 0, 0, 0, 0, 0, none, [])]
theorem oX6_init_1 : ∀ q ∈ tX6_init_1, hy_ok mX6_init q.1 q.2 = true := by decide +kernel
def tX6_init_2 : List (Nat × hyE) := [(33, .putfield 19, 36, 6, 5, 2, 0, 0, none, []),
  (36, .aload_n 0, 37, 0, 0, 0, 0, 0, none, []),
  (37, .bipush 24, 39, 0, 0, 0, 0, 24, none, []),
  (39, .newarray .int, 41, 0, 0, 0, 0, 0, none, []),
  (41, .putfield 22, 44, 6, 6, 2, 0, 0, none, []),
  (44, .aload_n 0, 45, 0, 0, 0, 0, 0, none, []),
  (45, .bipush 24, 47, 0, 0, 0, 0, 24, none, []),
  (47, .newarray .int, 49, 0, 0, 0, 0, 0, none, [])]
theorem oX6_init_2 : ∀ q ∈ tX6_init_2, hy_ok mX6_init q.1 q.2 = true := by decide +kernel
def tX6_init_3 : List (Nat × hyE) := [(49, .putfield 25, 52, 6, 7, 2, 0, 0, none, []),
  (52, .aload_n 0, 53, 0, 0, 0, 0, 0, none, []),
  (53, .bipush 24, 55, 0, 0, 0, 0, 24, none, []),
  (55, .newarray .int, 57, 0, 0, 0, 0, 0, none, []),
  (57, .putfield 28, 60, 6, 8, 2, 0, 0, none, []),
  (60, .aload_n 0, 61, 0, 0, 0, 0, 0, none, []),
  (61, .bipush 24, 63, 0, 0, 0, 0, 24, none, []),
  (63, .newarray .int, 65, 0, 0, 0, 0, 0, none, [])]
theorem oX6_init_3 : ∀ q ∈ tX6_init_3, hy_ok mX6_init q.1 q.2 = true := by decide +kernel
def tX6_init_4 : List (Nat × hyE) := [(65, .putfield 31, 68, 6, 9, 2, 0, 0, none, []),
  (68, .aload_n 0, 69, 0, 0, 0, 0, 0, none, []),
  (69, .bipush 8, 71, 0, 0, 0, 0, 8, none, []),
  (71, .newarray .int, 73, 0, 0, 0, 0, 0, none, []),
  (73, .putfield 34, 76, 6, 11, 2, 0, 0, none, []),
  (76, .aload_n 0, 77, 0, 0, 0, 0, 0, none, []),
  (77, .bipush 8, 79, 0, 0, 0, 0, 8, none, []),
  (79, .newarray .int, 81, 0, 0, 0, 0, 0, none, [])]
theorem oX6_init_4 : ∀ q ∈ tX6_init_4, hy_ok mX6_init q.1 q.2 = true := by decide +kernel
def tX6_init_5 : List (Nat × hyE) := [(81, .putfield 37, 84, 6, 13, 2, 0, 0, none, []),
  (84, .aload_n 0, 85, 0, 0, 0, 0, 0, none, []),
  (85, .bipush 7, 87, 0, 0, 0, 0, 7, none, []),
  (87, .newarray .int, 89, 0, 0, 0, 0, 0, none, []),
  (89, .putfield 40, 92, 6, 16, 2, 0, 0, none, []),
  (92, .aload_n 0, 93, 0, 0, 0, 0, 0, none, []),
  (93, .bipush 7, 95, 0, 0, 0, 0, 7, none, []),
  (95, .newarray .int, 97, 0, 0, 0, 0, 0, none, [])]
theorem oX6_init_5 : ∀ q ∈ tX6_init_5, hy_ok mX6_init q.1 q.2 = true := by decide +kernel
def tX6_init_6 : List (Nat × hyE) := [(97, .putfield 43, 100, 6, 17, 2, 0, 0, none, []),
  (100, .aload_n 0, 101, 0, 0, 0, 0, 0, none, []),
  (101, .bipush 7, 103, 0, 0, 0, 0, 7, none, []),
  (103, .newarray .int, 105, 0, 0, 0, 0, 0, none, []),
  (105, .putfield 46, 108, 6, 18, 2, 0, 0, none, []),
  (108, .aload_n 0, 109, 0, 0, 0, 0, 0, none, []),
  (109, .bipush 7, 111, 0, 0, 0, 0, 7, none, []),
  (111, .newarray .int, 113, 0, 0, 0, 0, 0, none, [])]
theorem oX6_init_6 : ∀ q ∈ tX6_init_6, hy_ok mX6_init q.1 q.2 = true := by decide +kernel
def tX6_init_7 : List (Nat × hyE) := [(113, .putfield 49, 116, 6, 19, 2, 0, 0, none, []),
  (116, .aload_n 0, 117, 0, 0, 0, 0, 0, none, []),
  (117, .iconst 2, 118, 0, 0, 0, 0, 2, none, []),
  (118, .putfield 52, 121, 6, 20, 0, 0, 0, none, []),
  (121, .aload_n 0, 122, 0, 0, 0, 0, 0, none, []),
  (122, .bipush 6, 124, 0, 0, 0, 0, 6, none, []),
  (124, .newarray .int, 126, 0, 0, 0, 0, 0, none, []),
  (126, .putfield 56, 129, 6, 22, 2, 0, 0, none, [])]
theorem oX6_init_7 : ∀ q ∈ tX6_init_7, hy_ok mX6_init q.1 q.2 = true := by decide +kernel
def tX6_init_8 : List (Nat × hyE) := [(129, .aload_n 0, 130, 0, 0, 0, 0, 0, none, []),
  (130, .bipush 6, 132, 0, 0, 0, 0, 6, none, []),
  (132, .newarray .int, 134, 0, 0, 0, 0, 0, none, []),
  (134, .putfield 59, 137, 6, 23, 2, 0, 0, none, []),
  (137, .aload_n 0, 138, 0, 0, 0, 0, 0, none, []),
  (138, .bipush 8, 140, 0, 0, 0, 0, 8, none, []),
  (140, .newarray .int, 142, 0, 0, 0, 0, 0, none, []),
  (142, .putfield 62, 145, 6, 25, 2, 0, 0, none, [])]
theorem oX6_init_8 : ∀ q ∈ tX6_init_8, hy_ok mX6_init q.1 q.2 = true := by decide +kernel
def tX6_init_9 : List (Nat × hyE) := [(145, .aload_n 0, 146, 0, 0, 0, 0, 0, none, []),
  (146, .bipush 8, 148, 0, 0, 0, 0, 8, none, []),
  (148, .newarray .int, 150, 0, 0, 0, 0, 0, none, []),
  (150, .putfield 65, 153, 6, 26, 2, 0, 0, none, []),
  (153, .aload_n 0, 154, 0, 0, 0, 0, 0, none, []),
  (154, .sipush (-200), 157, 0, 0, 0, 0, (-200), none, []),
  (157, .putfield 68, 160, 6, 28, 0, 0, 0, none, [])]
theorem oX6_init_9 : ∀ q ∈ tX6_init_9, hy_ok mX6_init q.1 q.2 = true := by decide +kernel
def tX6_init_10 : List (Nat × hyE) := [(160, .aload_n 0, 161, 0, 0, 0, 0, 0, none, []),
  (161, .sipush 200, 164, 0, 0, 0, 0, 200, none, []),
  (164, .putfield 71, 167, 6, 29, 0, 0, 0, none, []),
  (167, .aload_n 0, 168, 0, 0, 0, 0, 0, none, []),
  (168, .sipush 256, 171, 0, 0, 0, 0, 256, none, []),
  (171, .newarray .boolean, 173, 1, 0, 0, 0, 0, none, []),
  (173, .putfield 74, 176, 6, 30, 2, 0, 0, none, [])]
theorem oX6_init_10 : ∀ q ∈ tX6_init_10, hy_ok mX6_init q.1 q.2 = true := by decide +kernel
def tX6_init_11 : List (Nat × hyE) := [(176, .aload_n 0, 177, 0, 0, 0, 0, 0, none, []),
  (177, .bipush 7, 179, 0, 0, 0, 0, 7, none, []),
  (179, .newarray .int, 181, 0, 0, 0, 0, 0, none, []),
  (181, .putfield 78, 184, 6, 31, 2, 0, 0, none, []),
  (184, .aload_n 0, 185, 0, 0, 0, 0, 0, none, []),
  (185, .bipush 7, 187, 0, 0, 0, 0, 7, none, []),
  (187, .newarray .int, 189, 0, 0, 0, 0, 0, none, []),
  (189, .putfield 81, 192, 6, 32, 2, 0, 0, none, [])]
theorem oX6_init_11 : ∀ q ∈ tX6_init_11, hy_ok mX6_init q.1 q.2 = true := by decide +kernel
def tX6_init_12 : List (Nat × hyE) := [(192, .aload_n 0, 193, 0, 0, 0, 0, 0, none, []),
  (193, .bipush 8, 195, 0, 0, 0, 0, 8, none, []),
  (195, .newarray .int, 197, 0, 0, 0, 0, 0, none, []),
  (197, .putfield 84, 200, 6, 34, 2, 0, 0, none, []),
  (200, .aload_n 0, 201, 0, 0, 0, 0, 0, none, []),
  (201, .bipush 8, 203, 0, 0, 0, 0, 8, none, []),
  (203, .newarray .int, 205, 0, 0, 0, 0, 0, none, []),
  (205, .putfield 87, 208, 6, 35, 2, 0, 0, none, [])]
theorem oX6_init_12 : ∀ q ∈ tX6_init_12, hy_ok mX6_init q.1 q.2 = true := by decide +kernel
def tX6_init_13 : List (Nat × hyE) := [(208, .iconst 0, 209, 0, 0, 0, 0, 0, none, []),
  (209, .istore_n 1, 210, 1, 0, 0, 0, 0, none, []),
  (210, .iload_n 1, 211, 1, 0, 0, 0, 0, none, []),
  (211, .bipush 10, 213, 0, 0, 0, 0, 10, none, []),
  (213, .if_icmp .ge 18, 216, 231, 0, 0, 0, 0, none, []),
  (216, .aload_n 0, 217, 0, 0, 0, 0, 0, none, []),
  (217, .getfield 13, 220, 6, 2, 0, 0, 0, none, []),
  (220, .iload_n 1, 221, 1, 0, 0, 0, 0, none, []),
  (221, .iconst 1, 222, 0, 0, 0, 0, 1, none, []),
  (222, .iload_n 1, 223, 1, 0, 0, 0, 0, none, []),
  (223, .iadd, 224, 0, 0, 0, 0, 0, none, [])]
theorem oX6_init_13 : ∀ q ∈ tX6_init_13, hy_ok mX6_init q.1 q.2 = true := by decide +kernel
def tX6_init_14 : List (Nat × hyE) := [(224, .iastore, 225, 0, 0, 0, 0, 0, none, []),
  (225, .iinc 1 1, 228, 1, 0, 0, 0, 1, none, []),
  (228, .goto (-18), 231, 210, 0, 0, 0, 0, none, []),
  (231, .return_, 232, 0, 0, 0, 0, 0, none, [])]
theorem oX6_init_14 : ∀ q ∈ tX6_init_14, hy_ok mX6_init q.1 q.2 = true := by decide +kernel
def tX6_init : hyT := [tX6_init_0, tX6_init_1, tX6_init_2, tX6_init_3, tX6_init_4, tX6_init_5, tX6_init_6, tX6_init_7, tX6_init_8, tX6_init_9, tX6_init_10, tX6_init_11, tX6_init_12, tX6_init_13, tX6_init_14]
theorem oX6_init : hy_tok mX6_init tX6_init := List.forall_mem_cons.mpr ⟨oX6_init_0, List.forall_mem_cons.mpr ⟨oX6_init_1, List.forall_mem_cons.mpr ⟨oX6_init_2, List.forall_mem_cons.mpr ⟨oX6_init_3, List.forall_mem_cons.mpr ⟨oX6_init_4, List.forall_mem_cons.mpr ⟨oX6_init_5, List.forall_mem_cons.mpr ⟨oX6_init_6, List.forall_mem_cons.mpr ⟨oX6_init_7, List.forall_mem_cons.mpr ⟨oX6_init_8, List.forall_mem_cons.mpr ⟨oX6_init_9, List.forall_mem_cons.mpr ⟨oX6_init_10, List.forall_mem_cons.mpr ⟨oX6_init_11, List.forall_mem_cons.mpr ⟨oX6_init_12, List.forall_mem_cons.mpr ⟨oX6_init_13, List.forall_mem_cons.mpr ⟨oX6_init_14, fun _ h => absurd h List.not_mem_nil⟩⟩⟩⟩⟩⟩⟩⟩⟩⟩⟩⟩⟩⟩⟩
def tX6_in_0 : List (Nat × hyE) := [(0, .iload_n 0, 1, 0, 0, 0, 0, 0, none, []),
  (1, .iload_n 1, 2, 1, 0, 0, 0, 0, none, []),
  (2, .if_icmp .lt 12, 5, 14, 0, 0, 0, 0, none, []),
  (5, .iload_n 0, 6, 0, 0, 0, 0, 0, none, []),
  (6, .iload_n 2, 7, 2, 0, 0, 0, 0, none, []),
  (7, .if_icmp .gt 7, 10, 14, 0, 0, 0, 0, none, []),
  (10, .iconst 1, 11, 0, 0, 0, 0, 1, none, []),
  (11, .goto 4, 14, 15, 0, 0, 0, 0, none, []),
  (14, .iconst 0, 15, 0, 0, 0, 0, 0, none, []),
  (15, .ireturn, 16, 0, 0, 0, 0, 0, none, [])]
theorem oX6_in_0 : ∀ q ∈ tX6_in_0, hy_ok mX6_in q.1 q.2 = true := by decide +kernel
def tX6_in : hyT := [tX6_in_0]
theorem oX6_in : hy_tok mX6_in tX6_in := List.forall_mem_cons.mpr ⟨oX6_in_0, fun _ h => absurd h List.not_mem_nil⟩
def tX6_isNet_0 : List (Nat × hyE) := [(0, .iload_n 1, 1, 1, 0, 0, 0, 0, none, []),
  (1, .iconst 0, 2, 0, 0, 0, 0, 0, none, []),
  (2, .aload_n 0, 3, 0, 0, 0, 0, 0, none, []),
  (3, .getfield 90, 6, 6, 3, 0, 0, 0, none, []),
  (6, .iconst 1, 7, 0, 0, 0, 0, 1, none, []),
  (7, .isub, 8, 0, 0, 0, 0, 0, none, []),
  (8, .invokestatic 93, 11, 2, 3, 0, 0, 0, (some mX6_in), []),
  (11, .ireturn, 12, 0, 0, 0, 0, 0, none, [])]
theorem oX6_isNet_0 : ∀ q ∈ tX6_isNet_0, hy_ok mX6_isNet q.1 q.2 = true := by decide +kernel
def tX6_isNet : hyT := [tX6_isNet_0]
theorem oX6_isNet : hy_tok mX6_isNet tX6_isNet := List.forall_mem_cons.mpr ⟨oX6_isNet_0, fun _ h => absurd h List.not_mem_nil⟩
def tX6_salt_0 : List (Nat × hyE) := [(0, .iload_n 1, 1, 1, 0, 0, 0, 0, none, []),
  (1, .iconst 0, 2, 0, 0, 0, 0, 0, none, []),
  (2, .bipush 7, 4, 0, 0, 0, 0, 7, none, []),
  (4, .invokestatic 93, 7, 2, 3, 0, 0, 0, (some mX6_in), []),
  (7, .ifCond .eq 13, 10, 20, 0, 0, 0, 0, none, []),
  (10, .iload_n 2, 11, 2, 0, 0, 0, 0, none, []),
  (11, .iconst 0, 12, 0, 0, 0, 0, 0, none, []),
  (12, .bipush 9, 14, 0, 0, 0, 0, 9, none, []),
  (14, .invokestatic 93, 17, 2, 3, 0, 0, 0, (some mX6_in), [])]
theorem oX6_salt_0 : ∀ q ∈ tX6_salt_0, hy_ok mX6_salt q.1 q.2 = true := by decide +kernel
def tX6_salt_1 : List (Nat × hyE) := [(17, .ifCond .ne 5, 20, 22, 0, 0, 0, 0, none, []),
  (20, .iconst 0, 21, 0, 0, 0, 0, 0, none, []),
  (21, .ireturn, 22, 0, 0, 0, 0, 0, none, []),
  (22, .aload_n 0, 23, 0, 0, 0, 0, 0, none, []),
  (23, .getfield 7, 26, 6, 1, 0, 0, 0, none, []),
  (26, .iload_n 1, 27, 1, 0, 0, 0, 0, none, []),
  (27, .iload_n 2, 28, 2, 0, 0, 0, 0, none, []),
  (28, .iastore, 29, 0, 0, 0, 0, 0, none, []),
  (29, .iconst 1, 30, 0, 0, 0, 0, 1, none, []),
  (30, .ireturn, 31, 0, 0, 0, 0, 0, none, [])]
theorem oX6_salt_1 : ∀ q ∈ tX6_salt_1, hy_ok mX6_salt q.1 q.2 = true := by decide +kernel
def tX6_salt : hyT := [tX6_salt_0, tX6_salt_1]
theorem oX6_salt : hy_tok mX6_salt tX6_salt := List.forall_mem_cons.mpr ⟨oX6_salt_0, List.forall_mem_cons.mpr ⟨oX6_salt_1, fun _ h => absurd h List.not_mem_nil⟩⟩
def tX6_ripens_0 : List (Nat × hyE) := [(0, .iload_n 1, 1, 1, 0, 0, 0, 0, none, []),
  (1, .iconst 0, 2, 0, 0, 0, 0, 0, none, []),
  (2, .bipush 9, 4, 0, 0, 0, 0, 9, none, []),
  (4, .invokestatic 93, 7, 2, 3, 0, 0, 0, (some mX6_in), []),
  (7, .ifCond .eq 13, 10, 20, 0, 0, 0, 0, none, []),
  (10, .iload_n 2, 11, 2, 0, 0, 0, 0, none, []),
  (11, .iconst 0, 12, 0, 0, 0, 0, 0, none, []),
  (12, .bipush 50, 14, 0, 0, 0, 0, 50, none, []),
  (14, .invokestatic 93, 17, 2, 3, 0, 0, 0, (some mX6_in), [])]
theorem oX6_ripens_0 : ∀ q ∈ tX6_ripens_0, hy_ok mX6_ripens q.1 q.2 = true := by decide +kernel
def tX6_ripens_1 : List (Nat × hyE) := [(17, .ifCond .ne 5, 20, 22, 0, 0, 0, 0, none, []),
  (20, .iconst 0, 21, 0, 0, 0, 0, 0, none, []),
  (21, .ireturn, 22, 0, 0, 0, 0, 0, none, []),
  (22, .aload_n 0, 23, 0, 0, 0, 0, 0, none, []),
  (23, .getfield 13, 26, 6, 2, 0, 0, 0, none, []),
  (26, .iload_n 1, 27, 1, 0, 0, 0, 0, none, []),
  (27, .iload_n 2, 28, 2, 0, 0, 0, 0, none, []),
  (28, .iastore, 29, 0, 0, 0, 0, 0, none, []),
  (29, .iconst 1, 30, 0, 0, 0, 0, 1, none, []),
  (30, .ireturn, 31, 0, 0, 0, 0, 0, none, [])]
theorem oX6_ripens_1 : ∀ q ∈ tX6_ripens_1, hy_ok mX6_ripens q.1 q.2 = true := by decide +kernel
def tX6_ripens : hyT := [tX6_ripens_0, tX6_ripens_1]
theorem oX6_ripens : hy_tok mX6_ripens tX6_ripens := List.forall_mem_cons.mpr ⟨oX6_ripens_0, List.forall_mem_cons.mpr ⟨oX6_ripens_1, fun _ h => absurd h List.not_mem_nil⟩⟩
def tX6_net_0 : List (Nat × hyE) := [(0, .iload_n 1, 1, 1, 0, 0, 0, 0, none, []),
  (1, .iconst 0, 2, 0, 0, 0, 0, 0, none, []),
  (2, .bipush 7, 4, 0, 0, 0, 0, 7, none, []),
  (4, .invokestatic 93, 7, 2, 3, 0, 0, 0, (some mX6_in), []),
  (7, .ifCond .eq 46, 10, 53, 0, 0, 0, 0, none, []),
  (10, .iload_n 2, 11, 2, 0, 0, 0, 0, none, []),
  (11, .iconst 0, 12, 0, 0, 0, 0, 0, none, []),
  (12, .sipush 255, 15, 0, 0, 0, 0, 255, none, []),
  (15, .invokestatic 93, 18, 2, 3, 0, 0, 0, (some mX6_in), [])]
theorem oX6_net_0 : ∀ q ∈ tX6_net_0, hy_ok mX6_net q.1 q.2 = true := by decide +kernel
def tX6_net_1 : List (Nat × hyE) := [(18, .ifCond .eq 35, 21, 53, 0, 0, 0, 0, none, []),
  (21, .iload_n 3, 22, 3, 0, 0, 0, 0, none, []),
  (22, .iconst 1, 23, 0, 0, 0, 0, 1, none, []),
  (23, .sipush 1000, 26, 0, 0, 0, 0, 1000, none, []),
  (26, .invokestatic 93, 29, 2, 3, 0, 0, 0, (some mX6_in), []),
  (29, .ifCond .eq 24, 32, 53, 0, 0, 0, 0, none, [])]
theorem oX6_net_1 : ∀ q ∈ tX6_net_1, hy_ok mX6_net q.1 q.2 = true := by decide +kernel
def tX6_net_2 : List (Nat × hyE) := [(32, .iload 4, 34, 4, 0, 0, 0, 0, none, []),
  (34, .iconst 1, 35, 0, 0, 0, 0, 1, none, []),
  (35, .sipush 2000, 38, 0, 0, 0, 0, 2000, none, []),
  (38, .invokestatic 93, 41, 2, 3, 0, 0, 0, (some mX6_in), []),
  (41, .ifCond .eq 12, 44, 53, 0, 0, 0, 0, none, []),
  (44, .aload_n 0, 45, 0, 0, 0, 0, 0, none, []),
  (45, .getfield 90, 48, 6, 3, 0, 0, 0, none, [])]
theorem oX6_net_2 : ∀ q ∈ tX6_net_2, hy_ok mX6_net q.1 q.2 = true := by decide +kernel
def tX6_net_3 : List (Nat × hyE) := [(48, .bipush 24, 50, 0, 0, 0, 0, 24, none, []),
  (50, .if_icmp .ne 5, 53, 55, 0, 0, 0, 0, none, []),
  (53, .iconst (-1), 54, 0, 0, 0, 0, (-1), none, []),
  (54, .ireturn, 55, 0, 0, 0, 0, 0, none, []),
  (55, .aload_n 0, 56, 0, 0, 0, 0, 0, none, []),
  (56, .getfield 16, 59, 6, 4, 0, 0, 0, none, []),
  (59, .aload_n 0, 60, 0, 0, 0, 0, 0, none, []),
  (60, .getfield 90, 63, 6, 3, 0, 0, 0, none, []),
  (63, .iload_n 1, 64, 1, 0, 0, 0, 0, none, [])]
theorem oX6_net_3 : ∀ q ∈ tX6_net_3, hy_ok mX6_net q.1 q.2 = true := by decide +kernel
def tX6_net_4 : List (Nat × hyE) := [(64, .iastore, 65, 0, 0, 0, 0, 0, none, []),
  (65, .aload_n 0, 66, 0, 0, 0, 0, 0, none, []),
  (66, .getfield 19, 69, 6, 5, 0, 0, 0, none, []),
  (69, .aload_n 0, 70, 0, 0, 0, 0, 0, none, []),
  (70, .getfield 90, 73, 6, 3, 0, 0, 0, none, []),
  (73, .iload_n 2, 74, 2, 0, 0, 0, 0, none, []),
  (74, .iastore, 75, 0, 0, 0, 0, 0, none, []),
  (75, .aload_n 0, 76, 0, 0, 0, 0, 0, none, []),
  (76, .getfield 22, 79, 6, 6, 0, 0, 0, none, []),
  (79, .aload_n 0, 80, 0, 0, 0, 0, 0, none, [])]
theorem oX6_net_4 : ∀ q ∈ tX6_net_4, hy_ok mX6_net q.1 q.2 = true := by decide +kernel
def tX6_net_5 : List (Nat × hyE) := [(80, .getfield 90, 83, 6, 3, 0, 0, 0, none, []),
  (83, .iload_n 3, 84, 3, 0, 0, 0, 0, none, []),
  (84, .iastore, 85, 0, 0, 0, 0, 0, none, []),
  (85, .aload_n 0, 86, 0, 0, 0, 0, 0, none, []),
  (86, .getfield 25, 89, 6, 7, 0, 0, 0, none, []),
  (89, .aload_n 0, 90, 0, 0, 0, 0, 0, none, []),
  (90, .getfield 90, 93, 6, 3, 0, 0, 0, none, []),
  (93, .iload 4, 95, 4, 0, 0, 0, 0, none, []),
  (95, .iastore, 96, 0, 0, 0, 0, 0, none, [])]
theorem oX6_net_5 : ∀ q ∈ tX6_net_5, hy_ok mX6_net q.1 q.2 = true := by decide +kernel
def tX6_net_6 : List (Nat × hyE) := [(96, .aload_n 0, 97, 0, 0, 0, 0, 0, none, []),
  (97, .getfield 28, 100, 6, 8, 0, 0, 0, none, []),
  (100, .aload_n 0, 101, 0, 0, 0, 0, 0, none, []),
  (101, .getfield 90, 104, 6, 3, 0, 0, 0, none, []),
  (104, .iconst 0, 105, 0, 0, 0, 0, 0, none, []),
  (105, .iastore, 106, 0, 0, 0, 0, 0, none, []),
  (106, .aload_n 0, 107, 0, 0, 0, 0, 0, none, []),
  (107, .getfield 31, 110, 6, 9, 0, 0, 0, none, []),
  (110, .aload_n 0, 111, 0, 0, 0, 0, 0, none, []),
  (111, .getfield 90, 114, 6, 3, 0, 0, 0, none, [])]
theorem oX6_net_6 : ∀ q ∈ tX6_net_6, hy_ok mX6_net q.1 q.2 = true := by decide +kernel
def tX6_net_7 : List (Nat × hyE) := [(114, .iconst 0, 115, 0, 0, 0, 0, 0, none, []),
  (115, .iastore, 116, 0, 0, 0, 0, 0, none, []),
  (116, .aload_n 0, 117, 0, 0, 0, 0, 0, none, []),
  (117, .dup, 118, 0, 0, 0, 0, 0, none, []),
  (118, .getfield 90, 121, 6, 3, 0, 0, 0, none, []),
  (121, .iconst 1, 122, 0, 0, 0, 0, 1, none, []),
  (122, .iadd, 123, 0, 0, 0, 0, 0, none, []),
  (123, .putfield 90, 126, 6, 3, 0, 0, 0, none, []),
  (126, .aload_n 0, 127, 0, 0, 0, 0, 0, none, []),
  (127, .getfield 90, 130, 6, 3, 0, 0, 0, none, [])]
theorem oX6_net_7 : ∀ q ∈ tX6_net_7, hy_ok mX6_net q.1 q.2 = true := by decide +kernel
def tX6_net_8 : List (Nat × hyE) := [(130, .iconst 1, 131, 0, 0, 0, 0, 1, none, []),
  (131, .isub, 132, 0, 0, 0, 0, 0, none, []),
  (132, .ireturn, 133, 0, 0, 0, 0, 0, none, [])]
theorem oX6_net_8 : ∀ q ∈ tX6_net_8, hy_ok mX6_net q.1 q.2 = true := by decide +kernel
def tX6_net : hyT := [tX6_net_0, tX6_net_1, tX6_net_2, tX6_net_3, tX6_net_4, tX6_net_5, tX6_net_6, tX6_net_7, tX6_net_8]
theorem oX6_net : hy_tok mX6_net tX6_net := List.forall_mem_cons.mpr ⟨oX6_net_0, List.forall_mem_cons.mpr ⟨oX6_net_1, List.forall_mem_cons.mpr ⟨oX6_net_2, List.forall_mem_cons.mpr ⟨oX6_net_3, List.forall_mem_cons.mpr ⟨oX6_net_4, List.forall_mem_cons.mpr ⟨oX6_net_5, List.forall_mem_cons.mpr ⟨oX6_net_6, List.forall_mem_cons.mpr ⟨oX6_net_7, List.forall_mem_cons.mpr ⟨oX6_net_8, fun _ h => absurd h List.not_mem_nil⟩⟩⟩⟩⟩⟩⟩⟩⟩
def tX6_weeks_0 : List (Nat × hyE) := [(0, .iload_n 1, 1, 1, 0, 0, 0, 0, none, []),
  (1, .iconst 1, 2, 0, 0, 0, 0, 1, none, []),
  (2, .bipush 100, 4, 0, 0, 0, 0, 100, none, []),
  (4, .invokestatic 93, 7, 2, 3, 0, 0, 0, (some mX6_in), []),
  (7, .ifCond .eq 15, 10, 22, 0, 0, 0, 0, none, []),
  (10, .aload_n 0, 11, 0, 0, 0, 0, 0, none, []),
  (11, .getfield 97, 14, 6, 0, 0, 0, 0, none, []),
  (14, .iload_n 1, 15, 1, 0, 0, 0, 0, none, []),
  (15, .iadd, 16, 0, 0, 0, 0, 0, none, [])]
theorem oX6_weeks_0 : ∀ q ∈ tX6_weeks_0, hy_ok mX6_weeks q.1 q.2 = true := by decide +kernel
def tX6_weeks_1 : List (Nat × hyE) := [(16, .sipush 500, 19, 0, 0, 0, 0, 500, none, []),
  (19, .if_icmp .le 5, 22, 24, 0, 0, 0, 0, none, []),
  (22, .iconst (-1), 23, 0, 0, 0, 0, (-1), none, []),
  (23, .ireturn, 24, 0, 0, 0, 0, 0, none, []),
  (24, .iconst 0, 25, 0, 0, 0, 0, 0, none, []),
  (25, .istore_n 2, 26, 2, 0, 0, 0, 0, none, []),
  (26, .iload_n 2, 27, 2, 0, 0, 0, 0, none, []),
  (27, .aload_n 0, 28, 0, 0, 0, 0, 0, none, []),
  (28, .getfield 90, 31, 6, 3, 0, 0, 0, none, []),
  (31, .if_icmp .ge 49, 34, 80, 0, 0, 0, 0, none, [])]
theorem oX6_weeks_1 : ∀ q ∈ tX6_weeks_1, hy_ok mX6_weeks q.1 q.2 = true := by decide +kernel
def tX6_weeks_2 : List (Nat × hyE) := [(34, .aload_n 0, 35, 0, 0, 0, 0, 0, none, []),
  (35, .getfield 28, 38, 6, 8, 0, 0, 0, none, []),
  (38, .iload_n 2, 39, 2, 0, 0, 0, 0, none, []),
  (39, .dup2, 40, 0, 0, 0, 0, 0, none, []),
  (40, .iaload, 41, 0, 0, 0, 0, 0, none, []),
  (41, .aload_n 0, 42, 0, 0, 0, 0, 0, none, []),
  (42, .getfield 31, 45, 6, 9, 0, 0, 0, none, []),
  (45, .iload_n 2, 46, 2, 0, 0, 0, 0, none, []),
  (46, .iaload, 47, 0, 0, 0, 0, 0, none, []),
  (47, .ifCond .ne 24, 50, 71, 0, 0, 0, 0, none, [])]
theorem oX6_weeks_2 : ∀ q ∈ tX6_weeks_2, hy_ok mX6_weeks q.1 q.2 = true := by decide +kernel
def tX6_weeks_3 : List (Nat × hyE) := [(50, .iload_n 1, 51, 1, 0, 0, 0, 0, none, []),
  (51, .aload_n 0, 52, 0, 0, 0, 0, 0, none, []),
  (52, .getfield 13, 55, 6, 2, 0, 0, 0, none, []),
  (55, .aload_n 0, 56, 0, 0, 0, 0, 0, none, []),
  (56, .getfield 7, 59, 6, 1, 0, 0, 0, none, []),
  (59, .aload_n 0, 60, 0, 0, 0, 0, 0, none, []),
  (60, .getfield 16, 63, 6, 4, 0, 0, 0, none, []),
  (63, .iload_n 2, 64, 2, 0, 0, 0, 0, none, [])]
theorem oX6_weeks_3 : ∀ q ∈ tX6_weeks_3, hy_ok mX6_weeks q.1 q.2 = true := by decide +kernel
def tX6_weeks_4 : List (Nat × hyE) := [(64, .iaload, 65, 0, 0, 0, 0, 0, none, []),
  (65, .iaload, 66, 0, 0, 0, 0, 0, none, []),
  (66, .iaload, 67, 0, 0, 0, 0, 0, none, []),
  (67, .imul, 68, 0, 0, 0, 0, 0, none, []),
  (68, .goto 4, 71, 72, 0, 0, 0, 0, none, []),
  (71, .iconst 0, 72, 0, 0, 0, 0, 0, none, []),
  (72, .iadd, 73, 0, 0, 0, 0, 0, none, []),
  (73, .iastore, 74, 0, 0, 0, 0, 0, none, []),
  (74, .iinc 2 1, 77, 2, 0, 0, 0, 1, none, []),
  (77, .goto (-51), 80, 26, 0, 0, 0, 0, none, [])]
theorem oX6_weeks_4 : ∀ q ∈ tX6_weeks_4, hy_ok mX6_weeks q.1 q.2 = true := by decide +kernel
def tX6_weeks_5 : List (Nat × hyE) := [(80, .aload_n 0, 81, 0, 0, 0, 0, 0, none, []),
  (81, .dup, 82, 0, 0, 0, 0, 0, none, []),
  (82, .getfield 97, 85, 6, 0, 0, 0, 0, none, []),
  (85, .iload_n 1, 86, 1, 0, 0, 0, 0, none, []),
  (86, .iadd, 87, 0, 0, 0, 0, 0, none, []),
  (87, .putfield 97, 90, 6, 0, 0, 0, 0, none, []),
  (90, .aload_n 0, 91, 0, 0, 0, 0, 0, none, []),
  (91, .getfield 97, 94, 6, 0, 0, 0, 0, none, []),
  (94, .ireturn, 95, 0, 0, 0, 0, 0, none, [])]
theorem oX6_weeks_5 : ∀ q ∈ tX6_weeks_5, hy_ok mX6_weeks q.1 q.2 = true := by decide +kernel
def tX6_weeks : hyT := [tX6_weeks_0, tX6_weeks_1, tX6_weeks_2, tX6_weeks_3, tX6_weeks_4, tX6_weeks_5]
theorem oX6_weeks : hy_tok mX6_weeks tX6_weeks := List.forall_mem_cons.mpr ⟨oX6_weeks_0, List.forall_mem_cons.mpr ⟨oX6_weeks_1, List.forall_mem_cons.mpr ⟨oX6_weeks_2, List.forall_mem_cons.mpr ⟨oX6_weeks_3, List.forall_mem_cons.mpr ⟨oX6_weeks_4, List.forall_mem_cons.mpr ⟨oX6_weeks_5, fun _ h => absurd h List.not_mem_nil⟩⟩⟩⟩⟩⟩
def tX6_fits_0 : List (Nat × hyE) := [(0, .aload_n 0, 1, 0, 0, 0, 0, 0, none, []),
  (1, .getfield 34, 4, 6, 11, 0, 0, 0, none, []),
  (4, .iload_n 1, 5, 1, 0, 0, 0, 0, none, []),
  (5, .iaload, 6, 0, 0, 0, 0, 0, none, []),
  (6, .iload_n 2, 7, 2, 0, 0, 0, 0, none, []),
  (7, .ishr, 8, 0, 0, 0, 0, 0, none, []),
  (8, .iconst 1, 9, 0, 0, 0, 0, 1, none, []),
  (9, .iand, 10, 0, 0, 0, 0, 0, none, []),
  (10, .iconst 1, 11, 0, 0, 0, 0, 1, none, []),
  (11, .if_icmp .ne 7, 14, 18, 0, 0, 0, 0, none, []),
  (14, .iconst 1, 15, 0, 0, 0, 0, 1, none, []),
  (15, .goto 4, 18, 19, 0, 0, 0, 0, none, [])]
theorem oX6_fits_0 : ∀ q ∈ tX6_fits_0, hy_ok mX6_fits q.1 q.2 = true := by decide +kernel
def tX6_fits_1 : List (Nat × hyE) := [(18, .iconst 0, 19, 0, 0, 0, 0, 0, none, []),
  (19, .ireturn, 20, 0, 0, 0, 0, 0, none, [])]
theorem oX6_fits_1 : ∀ q ∈ tX6_fits_1, hy_ok mX6_fits q.1 q.2 = true := by decide +kernel
def tX6_fits : hyT := [tX6_fits_0, tX6_fits_1]
theorem oX6_fits : hy_tok mX6_fits tX6_fits := List.forall_mem_cons.mpr ⟨oX6_fits_0, List.forall_mem_cons.mpr ⟨oX6_fits_1, fun _ h => absurd h List.not_mem_nil⟩⟩
def tX6_isWay_0 : List (Nat × hyE) := [(0, .iconst 1, 1, 0, 0, 0, 0, 1, none, []),
  (1, .aload_n 0, 2, 0, 0, 0, 0, 0, none, []),
  (2, .getfield 100, 5, 6, 10, 0, 0, 0, none, []),
  (5, .ishl, 6, 0, 0, 0, 0, 0, none, []),
  (6, .iconst 1, 7, 0, 0, 0, 0, 1, none, []),
  (7, .isub, 8, 0, 0, 0, 0, 0, none, []),
  (8, .istore_n 3, 9, 3, 0, 0, 0, 0, none, []),
  (9, .iconst 0, 10, 0, 0, 0, 0, 0, none, []),
  (10, .istore 4, 12, 4, 0, 0, 0, 0, none, []),
  (12, .iload 4, 14, 4, 0, 0, 0, 0, none, []),
  (14, .iload_n 3, 15, 3, 0, 0, 0, 0, none, []),
  (15, .if_icmp .gt 26, 18, 41, 0, 0, 0, 0, none, [])]
theorem oX6_isWay_0 : ∀ q ∈ tX6_isWay_0, hy_ok mX6_isWay q.1 q.2 = true := by decide +kernel
def tX6_isWay_1 : List (Nat × hyE) := [(18, .aload_n 0, 19, 0, 0, 0, 0, 0, none, []),
  (19, .getfield 74, 22, 6, 30, 0, 0, 0, none, []),
  (22, .iload 4, 24, 4, 0, 0, 0, 0, none, []),
  (24, .iload 4, 26, 4, 0, 0, 0, 0, none, []),
  (26, .ifCond .ne 7, 29, 33, 0, 0, 0, 0, none, []),
  (29, .iconst 1, 30, 0, 0, 0, 0, 1, none, []),
  (30, .goto 4, 33, 34, 0, 0, 0, 0, none, [])]
theorem oX6_isWay_1 : ∀ q ∈ tX6_isWay_1, hy_ok mX6_isWay q.1 q.2 = true := by decide +kernel
def tX6_isWay_2 : List (Nat × hyE) := [(33, .iconst 0, 34, 0, 0, 0, 0, 0, none, []),
  (34, .bastore, 35, 0, 0, 0, 0, 0, none, []),
  (35, .iinc 4 1, 38, 4, 0, 0, 0, 1, none, []),
  (38, .goto (-26), 41, 12, 0, 0, 0, 0, none, []),
  (41, .iconst 0, 42, 0, 0, 0, 0, 0, none, []),
  (42, .istore 4, 44, 4, 0, 0, 0, 0, none, []),
  (44, .iload 4, 46, 4, 0, 0, 0, 0, none, []),
  (46, .aload_n 0, 47, 0, 0, 0, 0, 0, none, []),
  (47, .getfield 90, 50, 6, 3, 0, 0, 0, none, [])]
theorem oX6_isWay_2 : ∀ q ∈ tX6_isWay_2, hy_ok mX6_isWay q.1 q.2 = true := by decide +kernel
def tX6_isWay_3 : List (Nat × hyE) := [(50, .if_icmp .ge 97, 53, 147, 0, 0, 0, 0, none, []),
  (53, .iload_n 3, 54, 3, 0, 0, 0, 0, none, []),
  (54, .istore 5, 56, 5, 0, 0, 0, 0, none, []),
  (56, .iload 5, 58, 5, 0, 0, 0, 0, none, []),
  (58, .ifCond .lt 83, 61, 141, 0, 0, 0, 0, none, []),
  (61, .iconst 0, 62, 0, 0, 0, 0, 0, none, []),
  (62, .istore 6, 64, 6, 0, 0, 0, 0, none, [])]
theorem oX6_isWay_3 : ∀ q ∈ tX6_isWay_3, hy_ok mX6_isWay q.1 q.2 = true := by decide +kernel
def tX6_isWay_4 : List (Nat × hyE) := [(64, .iload 6, 66, 6, 0, 0, 0, 0, none, []),
  (66, .aload_n 0, 67, 0, 0, 0, 0, 0, none, []),
  (67, .getfield 100, 70, 6, 10, 0, 0, 0, none, []),
  (70, .if_icmp .ge 65, 73, 135, 0, 0, 0, 0, none, []),
  (73, .aload_n 0, 74, 0, 0, 0, 0, 0, none, []),
  (74, .getfield 74, 77, 6, 30, 0, 0, 0, none, []),
  (77, .iload 5, 79, 5, 0, 0, 0, 0, none, []),
  (79, .baload, 80, 0, 0, 0, 0, 0, none, [])]
theorem oX6_isWay_4 : ∀ q ∈ tX6_isWay_4, hy_ok mX6_isWay q.1 q.2 = true := by decide +kernel
def tX6_isWay_5 : List (Nat × hyE) := [(80, .ifCond .eq 55, 83, 135, 0, 0, 0, 0, none, []),
  (83, .iload 5, 85, 5, 0, 0, 0, 0, none, []),
  (85, .iload 6, 87, 6, 0, 0, 0, 0, none, []),
  (87, .ishr, 88, 0, 0, 0, 0, 0, none, []),
  (88, .iconst 1, 89, 0, 0, 0, 0, 1, none, []),
  (89, .iand, 90, 0, 0, 0, 0, 0, none, []),
  (90, .ifCond .ne 39, 93, 129, 0, 0, 0, 0, none, []),
  (93, .aload_n 0, 94, 0, 0, 0, 0, 0, none, []),
  (94, .iload 6, 96, 6, 0, 0, 0, 0, none, [])]
theorem oX6_isWay_5 : ∀ q ∈ tX6_isWay_5, hy_ok mX6_isWay q.1 q.2 = true := by decide +kernel
def tX6_isWay_6 : List (Nat × hyE) := [(96, .iload 4, 98, 4, 0, 0, 0, 0, none, []),
  (98, .invokevirtual 103, 101, 0, 2, 0, 6, 0, (some mX6_fits), []),
  (101, .ifCond .eq 28, 104, 129, 0, 0, 0, 0, none, []),
  (104, .iload 6, 106, 6, 0, 0, 0, 0, none, []),
  (106, .iload_n 1, 107, 1, 0, 0, 0, 0, none, []),
  (107, .if_icmp .ne 9, 110, 116, 0, 0, 0, 0, none, []),
  (110, .iload 4, 112, 4, 0, 0, 0, 0, none, [])]
theorem oX6_isWay_6 : ∀ q ∈ tX6_isWay_6, hy_ok mX6_isWay q.1 q.2 = true := by decide +kernel
def tX6_isWay_7 : List (Nat × hyE) := [(112, .iload_n 2, 113, 2, 0, 0, 0, 0, none, []),
  (113, .if_icmp .ne 16, 116, 129, 0, 0, 0, 0, none, []),
  (116, .aload_n 0, 117, 0, 0, 0, 0, 0, none, []),
  (117, .getfield 74, 120, 6, 30, 0, 0, 0, none, []),
  (120, .iload 5, 122, 5, 0, 0, 0, 0, none, []),
  (122, .iconst 1, 123, 0, 0, 0, 0, 1, none, []),
  (123, .iload 6, 125, 6, 0, 0, 0, 0, none, []),
  (125, .ishl, 126, 0, 0, 0, 0, 0, none, []),
  (126, .ior, 127, 0, 0, 0, 0, 0, none, []),
  (127, .iconst 1, 128, 0, 0, 0, 0, 1, none, [])]
theorem oX6_isWay_7 : ∀ q ∈ tX6_isWay_7, hy_ok mX6_isWay q.1 q.2 = true := by decide +kernel
def tX6_isWay_8 : List (Nat × hyE) := [(128, .bastore, 129, 0, 0, 0, 0, 0, none, []),
  (129, .iinc 6 1, 132, 6, 0, 0, 0, 1, none, []),
  (132, .goto (-68), 135, 64, 0, 0, 0, 0, none, []),
  (135, .iinc 5 (-1), 138, 5, 0, 0, 0, (-1), none, []),
  (138, .goto (-82), 141, 56, 0, 0, 0, 0, none, []),
  (141, .iinc 4 1, 144, 4, 0, 0, 0, 1, none, [])]
theorem oX6_isWay_8 : ∀ q ∈ tX6_isWay_8, hy_ok mX6_isWay q.1 q.2 = true := by decide +kernel
def tX6_isWay_9 : List (Nat × hyE) := [(144, .goto (-100), 147, 44, 0, 0, 0, 0, none, []),
  (147, .aload_n 0, 148, 0, 0, 0, 0, 0, none, []),
  (148, .getfield 74, 151, 6, 30, 0, 0, 0, none, []),
  (151, .iload_n 3, 152, 3, 0, 0, 0, 0, none, []),
  (152, .baload, 153, 0, 0, 0, 0, 0, none, []),
  (153, .ireturn, 154, 0, 0, 0, 0, 0, none, [])]
theorem oX6_isWay_9 : ∀ q ∈ tX6_isWay_9, hy_ok mX6_isWay q.1 q.2 = true := by decide +kernel
def tX6_isWay : hyT := [tX6_isWay_0, tX6_isWay_1, tX6_isWay_2, tX6_isWay_3, tX6_isWay_4, tX6_isWay_5, tX6_isWay_6, tX6_isWay_7, tX6_isWay_8, tX6_isWay_9]
theorem oX6_isWay : hy_tok mX6_isWay tX6_isWay := List.forall_mem_cons.mpr ⟨oX6_isWay_0, List.forall_mem_cons.mpr ⟨oX6_isWay_1, List.forall_mem_cons.mpr ⟨oX6_isWay_2, List.forall_mem_cons.mpr ⟨oX6_isWay_3, List.forall_mem_cons.mpr ⟨oX6_isWay_4, List.forall_mem_cons.mpr ⟨oX6_isWay_5, List.forall_mem_cons.mpr ⟨oX6_isWay_6, List.forall_mem_cons.mpr ⟨oX6_isWay_7, List.forall_mem_cons.mpr ⟨oX6_isWay_8, List.forall_mem_cons.mpr ⟨oX6_isWay_9, fun _ h => absurd h List.not_mem_nil⟩⟩⟩⟩⟩⟩⟩⟩⟩⟩
def tX6_knows_0 : List (Nat × hyE) := [(0, .aload_n 0, 1, 0, 0, 0, 0, 0, none, []),
  (1, .getfield 107, 4, 6, 12, 0, 0, 0, none, []),
  (4, .ifCond .eq 4, 7, 8, 0, 0, 0, 0, none, []),
  (7, .return_, 8, 0, 0, 0, 0, 0, none, []),
  (8, .aload_n 0, 9, 0, 0, 0, 0, 0, none, []),
  (9, .iconst 1, 10, 0, 0, 0, 0, 1, none, []),
  (10, .putfield 107, 13, 6, 12, 1, 0, 0, none, []),
  (13, .iconst 0, 14, 0, 0, 0, 0, 0, none, []),
  (14, .istore_n 1, 15, 1, 0, 0, 0, 0, none, []),
  (15, .iload_n 1, 16, 1, 0, 0, 0, 0, none, [])]
theorem oX6_knows_0 : ∀ q ∈ tX6_knows_0, hy_ok mX6_knows q.1 q.2 = true := by decide +kernel
def tX6_knows_1 : List (Nat × hyE) := [(16, .aload_n 0, 17, 0, 0, 0, 0, 0, none, []),
  (17, .getfield 100, 20, 6, 10, 0, 0, 0, none, []),
  (20, .if_icmp .ge 88, 23, 108, 0, 0, 0, 0, none, []),
  (23, .iconst 0, 24, 0, 0, 0, 0, 0, none, []),
  (24, .istore_n 2, 25, 2, 0, 0, 0, 0, none, []),
  (25, .aload_n 0, 26, 0, 0, 0, 0, 0, none, []),
  (26, .getfield 37, 29, 6, 13, 0, 0, 0, none, []),
  (29, .iload_n 1, 30, 1, 0, 0, 0, 0, none, []),
  (30, .iconst (-1), 31, 0, 0, 0, 0, (-1), none, []),
  (31, .iastore, 32, 0, 0, 0, 0, 0, none, [])]
theorem oX6_knows_1 : ∀ q ∈ tX6_knows_1, hy_ok mX6_knows q.1 q.2 = true := by decide +kernel
def tX6_knows_2 : List (Nat × hyE) := [(32, .iconst 0, 33, 0, 0, 0, 0, 0, none, []),
  (33, .istore_n 3, 34, 3, 0, 0, 0, 0, none, []),
  (34, .iload_n 3, 35, 3, 0, 0, 0, 0, none, []),
  (35, .aload_n 0, 36, 0, 0, 0, 0, 0, none, []),
  (36, .getfield 90, 39, 6, 3, 0, 0, 0, none, []),
  (39, .if_icmp .ge 42, 42, 81, 0, 0, 0, 0, none, []),
  (42, .iload_n 2, 43, 2, 0, 0, 0, 0, none, []),
  (43, .iconst 2, 44, 0, 0, 0, 0, 2, none, []),
  (44, .if_icmp .ge 37, 47, 81, 0, 0, 0, 0, none, []),
  (47, .aload_n 0, 48, 0, 0, 0, 0, 0, none, [])]
theorem oX6_knows_2 : ∀ q ∈ tX6_knows_2, hy_ok mX6_knows q.1 q.2 = true := by decide +kernel
def tX6_knows_3 : List (Nat × hyE) := [(48, .iload_n 1, 49, 1, 0, 0, 0, 0, none, []),
  (49, .iload_n 3, 50, 3, 0, 0, 0, 0, none, []),
  (50, .invokevirtual 103, 53, 0, 2, 0, 6, 0, (some mX6_fits), []),
  (53, .ifCond .eq 22, 56, 75, 0, 0, 0, 0, none, []),
  (56, .aload_n 0, 57, 0, 0, 0, 0, 0, none, []),
  (57, .iload_n 1, 58, 1, 0, 0, 0, 0, none, []),
  (58, .iload_n 3, 59, 3, 0, 0, 0, 0, none, []),
  (59, .invokevirtual 111, 62, 0, 2, 0, 6, 0, (some mX6_isWay), []),
  (62, .ifCond .eq 13, 65, 75, 0, 0, 0, 0, none, [])]
theorem oX6_knows_3 : ∀ q ∈ tX6_knows_3, hy_ok mX6_knows q.1 q.2 = true := by decide +kernel
def tX6_knows_4 : List (Nat × hyE) := [(65, .iinc 2 1, 68, 2, 0, 0, 0, 1, none, []),
  (68, .aload_n 0, 69, 0, 0, 0, 0, 0, none, []),
  (69, .getfield 37, 72, 6, 13, 0, 0, 0, none, []),
  (72, .iload_n 1, 73, 1, 0, 0, 0, 0, none, []),
  (73, .iload_n 3, 74, 3, 0, 0, 0, 0, none, []),
  (74, .iastore, 75, 0, 0, 0, 0, 0, none, []),
  (75, .iinc 3 1, 78, 3, 0, 0, 0, 1, none, []),
  (78, .goto (-44), 81, 34, 0, 0, 0, 0, none, [])]
theorem oX6_knows_4 : ∀ q ∈ tX6_knows_4, hy_ok mX6_knows q.1 q.2 = true := by decide +kernel
def tX6_knows_5 : List (Nat × hyE) := [(81, .aload_n 0, 82, 0, 0, 0, 0, 0, none, []),
  (82, .getfield 37, 85, 6, 13, 0, 0, 0, none, []),
  (85, .iload_n 1, 86, 1, 0, 0, 0, 0, none, []),
  (86, .iload_n 2, 87, 2, 0, 0, 0, 0, none, []),
  (87, .iconst 1, 88, 0, 0, 0, 0, 1, none, []),
  (88, .if_icmp .ne 12, 91, 100, 0, 0, 0, 0, none, []),
  (91, .aload_n 0, 92, 0, 0, 0, 0, 0, none, []),
  (92, .getfield 37, 95, 6, 13, 0, 0, 0, none, []),
  (95, .iload_n 1, 96, 1, 0, 0, 0, 0, none, [])]
theorem oX6_knows_5 : ∀ q ∈ tX6_knows_5, hy_ok mX6_knows q.1 q.2 = true := by decide +kernel
def tX6_knows_6 : List (Nat × hyE) := [(96, .iaload, 97, 0, 0, 0, 0, 0, none, []),
  (97, .goto 4, 100, 101, 0, 0, 0, 0, none, []),
  (100, .iconst (-1), 101, 0, 0, 0, 0, (-1), none, []),
  (101, .iastore, 102, 0, 0, 0, 0, 0, none, []),
  (102, .iinc 1 1, 105, 1, 0, 0, 0, 1, none, []),
  (105, .goto (-90), 108, 15, 0, 0, 0, 0, none, []),
  (108, .return_, 109, 0, 0, 0, 0, 0, none, [])]
theorem oX6_knows_6 : ∀ q ∈ tX6_knows_6, hy_ok mX6_knows q.1 q.2 = true := by decide +kernel
def tX6_knows : hyT := [tX6_knows_0, tX6_knows_1, tX6_knows_2, tX6_knows_3, tX6_knows_4, tX6_knows_5, tX6_knows_6]
theorem oX6_knows : hy_tok mX6_knows tX6_knows := List.forall_mem_cons.mpr ⟨oX6_knows_0, List.forall_mem_cons.mpr ⟨oX6_knows_1, List.forall_mem_cons.mpr ⟨oX6_knows_2, List.forall_mem_cons.mpr ⟨oX6_knows_3, List.forall_mem_cons.mpr ⟨oX6_knows_4, List.forall_mem_cons.mpr ⟨oX6_knows_5, List.forall_mem_cons.mpr ⟨oX6_knows_6, fun _ h => absurd h List.not_mem_nil⟩⟩⟩⟩⟩⟩⟩
def tX6_findOf_0 : List (Nat × hyE) := [(0, .aload_n 0, 1, 0, 0, 0, 0, 0, none, []),
  (1, .invokevirtual 114, 4, 0, 0, 0, 6, 0, (some mX6_knows), []),
  (4, .iconst (-1), 5, 0, 0, 0, 0, (-1), none, []),
  (5, .istore_n 2, 6, 2, 0, 0, 0, 0, none, []),
  (6, .iconst 0, 7, 0, 0, 0, 0, 0, none, []),
  (7, .istore_n 3, 8, 3, 0, 0, 0, 0, none, []),
  (8, .iload_n 3, 9, 3, 0, 0, 0, 0, none, []),
  (9, .aload_n 0, 10, 0, 0, 0, 0, 0, none, []),
  (10, .getfield 100, 13, 6, 10, 0, 0, 0, none, []),
  (13, .if_icmp .ge 25, 16, 38, 0, 0, 0, 0, none, [])]
theorem oX6_findOf_0 : ∀ q ∈ tX6_findOf_0, hy_ok mX6_findOf q.1 q.2 = true := by decide +kernel
def tX6_findOf_1 : List (Nat × hyE) := [(16, .aload_n 0, 17, 0, 0, 0, 0, 0, none, []),
  (17, .getfield 37, 20, 6, 13, 0, 0, 0, none, []),
  (20, .iload_n 3, 21, 3, 0, 0, 0, 0, none, []),
  (21, .iaload, 22, 0, 0, 0, 0, 0, none, []),
  (22, .iload_n 1, 23, 1, 0, 0, 0, 0, none, []),
  (23, .if_icmp .ne 7, 26, 30, 0, 0, 0, 0, none, []),
  (26, .iload_n 3, 27, 3, 0, 0, 0, 0, none, []),
  (27, .goto 4, 30, 31, 0, 0, 0, 0, none, []),
  (30, .iload_n 2, 31, 2, 0, 0, 0, 0, none, []),
  (31, .istore_n 2, 32, 2, 0, 0, 0, 0, none, [])]
theorem oX6_findOf_1 : ∀ q ∈ tX6_findOf_1, hy_ok mX6_findOf q.1 q.2 = true := by decide +kernel
def tX6_findOf_2 : List (Nat × hyE) := [(32, .iinc 3 1, 35, 3, 0, 0, 0, 1, none, []),
  (35, .goto (-27), 38, 8, 0, 0, 0, 0, none, []),
  (38, .iload_n 2, 39, 2, 0, 0, 0, 0, none, []),
  (39, .ireturn, 40, 0, 0, 0, 0, 0, none, [])]
theorem oX6_findOf_2 : ∀ q ∈ tX6_findOf_2, hy_ok mX6_findOf q.1 q.2 = true := by decide +kernel
def tX6_findOf : hyT := [tX6_findOf_0, tX6_findOf_1, tX6_findOf_2]
theorem oX6_findOf : hy_tok mX6_findOf tX6_findOf := List.forall_mem_cons.mpr ⟨oX6_findOf_0, List.forall_mem_cons.mpr ⟨oX6_findOf_1, List.forall_mem_cons.mpr ⟨oX6_findOf_2, fun _ h => absurd h List.not_mem_nil⟩⟩⟩
def tX6_stateOf_0 : List (Nat × hyE) := [(0, .aload_n 0, 1, 0, 0, 0, 0, 0, none, []),
  (1, .getfield 31, 4, 6, 9, 0, 0, 0, none, []),
  (4, .iload_n 1, 5, 1, 0, 0, 0, 0, none, []),
  (5, .iaload, 6, 0, 0, 0, 0, 0, none, []),
  (6, .iconst 2, 7, 0, 0, 0, 0, 2, none, []),
  (7, .if_icmp .ne 15, 10, 22, 0, 0, 0, 0, none, []),
  (10, .aload_n 0, 11, 0, 0, 0, 0, 0, none, []),
  (11, .iload_n 1, 12, 1, 0, 0, 0, 0, none, []),
  (12, .invokevirtual 117, 15, 0, 1, 0, 6, 0, (some mX6_findOf), []),
  (15, .ifCond .lt 7, 18, 22, 0, 0, 0, 0, none, [])]
theorem oX6_stateOf_0 : ∀ q ∈ tX6_stateOf_0, hy_ok mX6_stateOf q.1 q.2 = true := by decide +kernel
def tX6_stateOf_1 : List (Nat × hyE) := [(18, .iconst 3, 19, 0, 0, 0, 0, 3, none, []),
  (19, .goto 9, 22, 28, 0, 0, 0, 0, none, []),
  (22, .aload_n 0, 23, 0, 0, 0, 0, 0, none, []),
  (23, .getfield 31, 26, 6, 9, 0, 0, 0, none, []),
  (26, .iload_n 1, 27, 1, 0, 0, 0, 0, none, []),
  (27, .iaload, 28, 0, 0, 0, 0, 0, none, []),
  (28, .ireturn, 29, 0, 0, 0, 0, 0, none, [])]
theorem oX6_stateOf_1 : ∀ q ∈ tX6_stateOf_1, hy_ok mX6_stateOf q.1 q.2 = true := by decide +kernel
def tX6_stateOf : hyT := [tX6_stateOf_0, tX6_stateOf_1]
theorem oX6_stateOf : hy_tok mX6_stateOf tX6_stateOf := List.forall_mem_cons.mpr ⟨oX6_stateOf_0, List.forall_mem_cons.mpr ⟨oX6_stateOf_1, fun _ h => absurd h List.not_mem_nil⟩⟩
def tX6_isRipe_0 : List (Nat × hyE) := [(0, .aload_n 0, 1, 0, 0, 0, 0, 0, none, []),
  (1, .getfield 28, 4, 6, 8, 0, 0, 0, none, []),
  (4, .iload_n 1, 5, 1, 0, 0, 0, 0, none, []),
  (5, .iaload, 6, 0, 0, 0, 0, 0, none, []),
  (6, .aload_n 0, 7, 0, 0, 0, 0, 0, none, []),
  (7, .getfield 25, 10, 6, 7, 0, 0, 0, none, []),
  (10, .iload_n 1, 11, 1, 0, 0, 0, 0, none, []),
  (11, .iaload, 12, 0, 0, 0, 0, 0, none, []),
  (12, .if_icmp .lt 7, 15, 19, 0, 0, 0, 0, none, []),
  (15, .iconst 1, 16, 0, 0, 0, 0, 1, none, [])]
theorem oX6_isRipe_0 : ∀ q ∈ tX6_isRipe_0, hy_ok mX6_isRipe q.1 q.2 = true := by decide +kernel
def tX6_isRipe_1 : List (Nat × hyE) := [(16, .goto 4, 19, 20, 0, 0, 0, 0, none, []),
  (19, .iconst 0, 20, 0, 0, 0, 0, 0, none, []),
  (20, .ireturn, 21, 0, 0, 0, 0, 0, none, [])]
theorem oX6_isRipe_1 : ∀ q ∈ tX6_isRipe_1, hy_ok mX6_isRipe q.1 q.2 = true := by decide +kernel
def tX6_isRipe : hyT := [tX6_isRipe_0, tX6_isRipe_1]
theorem oX6_isRipe : hy_tok mX6_isRipe tX6_isRipe := List.forall_mem_cons.mpr ⟨oX6_isRipe_0, List.forall_mem_cons.mpr ⟨oX6_isRipe_1, fun _ h => absurd h List.not_mem_nil⟩⟩
def tX6_pull_0 : List (Nat × hyE) := [(0, .aload_n 0, 1, 0, 0, 0, 0, 0, none, []),
  (1, .iload_n 1, 2, 1, 0, 0, 0, 0, none, []),
  (2, .invokevirtual 121, 5, 0, 1, 0, 6, 0, (some mX6_isNet), []),
  (5, .ifCond .eq 20, 8, 25, 0, 0, 0, 0, none, []),
  (8, .aload_n 0, 9, 0, 0, 0, 0, 0, none, []),
  (9, .iload_n 1, 10, 1, 0, 0, 0, 0, none, []),
  (10, .invokevirtual 125, 13, 0, 1, 0, 6, 0, (some mX6_stateOf), []),
  (13, .ifCond .eq 14, 16, 27, 0, 0, 0, 0, none, [])]
theorem oX6_pull_0 : ∀ q ∈ tX6_pull_0, hy_ok mX6_pull q.1 q.2 = true := by decide +kernel
def tX6_pull_1 : List (Nat × hyE) := [(16, .aload_n 0, 17, 0, 0, 0, 0, 0, none, []),
  (17, .iload_n 1, 18, 1, 0, 0, 0, 0, none, []),
  (18, .invokevirtual 125, 21, 0, 1, 0, 6, 0, (some mX6_stateOf), []),
  (21, .iconst 3, 22, 0, 0, 0, 0, 3, none, []),
  (22, .if_icmp .eq 5, 25, 27, 0, 0, 0, 0, none, []),
  (25, .iconst (-1), 26, 0, 0, 0, 0, (-1), none, []),
  (26, .ireturn, 27, 0, 0, 0, 0, 0, none, []),
  (27, .aload_n 0, 28, 0, 0, 0, 0, 0, none, []),
  (28, .getfield 31, 31, 6, 9, 0, 0, 0, none, []),
  (31, .iload_n 1, 32, 1, 0, 0, 0, 0, none, [])]
theorem oX6_pull_1 : ∀ q ∈ tX6_pull_1, hy_ok mX6_pull q.1 q.2 = true := by decide +kernel
def tX6_pull_2 : List (Nat × hyE) := [(32, .iconst 1, 33, 0, 0, 0, 0, 1, none, []),
  (33, .iastore, 34, 0, 0, 0, 0, 0, none, []),
  (34, .aload_n 0, 35, 0, 0, 0, 0, 0, none, []),
  (35, .iload_n 1, 36, 1, 0, 0, 0, 0, none, []),
  (36, .invokevirtual 128, 39, 0, 1, 0, 6, 0, (some mX6_isRipe), []),
  (39, .ifCond .eq 12, 42, 51, 0, 0, 0, 0, none, []),
  (42, .aload_n 0, 43, 0, 0, 0, 0, 0, none, []),
  (43, .getfield 22, 46, 6, 6, 0, 0, 0, none, []),
  (46, .iload_n 1, 47, 1, 0, 0, 0, 0, none, []),
  (47, .iaload, 48, 0, 0, 0, 0, 0, none, [])]
theorem oX6_pull_2 : ∀ q ∈ tX6_pull_2, hy_ok mX6_pull q.1 q.2 = true := by decide +kernel
def tX6_pull_3 : List (Nat × hyE) := [(48, .goto 4, 51, 52, 0, 0, 0, 0, none, []),
  (51, .iconst 0, 52, 0, 0, 0, 0, 0, none, []),
  (52, .istore_n 2, 53, 2, 0, 0, 0, 0, none, []),
  (53, .aload_n 0, 54, 0, 0, 0, 0, 0, none, []),
  (54, .dup, 55, 0, 0, 0, 0, 0, none, []),
  (55, .getfield 131, 58, 6, 14, 0, 0, 0, none, []),
  (58, .iload_n 2, 59, 2, 0, 0, 0, 0, none, []),
  (59, .iadd, 60, 0, 0, 0, 0, 0, none, []),
  (60, .putfield 131, 63, 6, 14, 0, 0, 0, none, []),
  (63, .iload_n 2, 64, 2, 0, 0, 0, 0, none, [])]
theorem oX6_pull_3 : ∀ q ∈ tX6_pull_3, hy_ok mX6_pull q.1 q.2 = true := by decide +kernel
def tX6_pull_4 : List (Nat × hyE) := [(64, .ireturn, 65, 0, 0, 0, 0, 0, none, [])]
theorem oX6_pull_4 : ∀ q ∈ tX6_pull_4, hy_ok mX6_pull q.1 q.2 = true := by decide +kernel
def tX6_pull : hyT := [tX6_pull_0, tX6_pull_1, tX6_pull_2, tX6_pull_3, tX6_pull_4]
theorem oX6_pull : hy_tok mX6_pull tX6_pull := List.forall_mem_cons.mpr ⟨oX6_pull_0, List.forall_mem_cons.mpr ⟨oX6_pull_1, List.forall_mem_cons.mpr ⟨oX6_pull_2, List.forall_mem_cons.mpr ⟨oX6_pull_3, List.forall_mem_cons.mpr ⟨oX6_pull_4, fun _ h => absurd h List.not_mem_nil⟩⟩⟩⟩⟩
def tX6_flood_0 : List (Nat × hyE) := [(0, .iload_n 1, 1, 1, 0, 0, 0, 0, none, []),
  (1, .iconst 0, 2, 0, 0, 0, 0, 0, none, []),
  (2, .bipush 7, 4, 0, 0, 0, 0, 7, none, []),
  (4, .invokestatic 93, 7, 2, 3, 0, 0, 0, (some mX6_in), []),
  (7, .ifCond .ne 5, 10, 12, 0, 0, 0, 0, none, []),
  (10, .iconst (-1), 11, 0, 0, 0, 0, (-1), none, []),
  (11, .ireturn, 12, 0, 0, 0, 0, 0, none, []),
  (12, .iconst 0, 13, 0, 0, 0, 0, 0, none, []),
  (13, .istore_n 2, 14, 2, 0, 0, 0, 0, none, []),
  (14, .iconst 0, 15, 0, 0, 0, 0, 0, none, []),
  (15, .istore_n 3, 16, 3, 0, 0, 0, 0, none, [])]
theorem oX6_flood_0 : ∀ q ∈ tX6_flood_0, hy_ok mX6_flood q.1 q.2 = true := by decide +kernel
def tX6_flood_1 : List (Nat × hyE) := [(16, .iload_n 3, 17, 3, 0, 0, 0, 0, none, []),
  (17, .aload_n 0, 18, 0, 0, 0, 0, 0, none, []),
  (18, .getfield 90, 21, 6, 3, 0, 0, 0, none, []),
  (21, .if_icmp .ge 38, 24, 59, 0, 0, 0, 0, none, []),
  (24, .aload_n 0, 25, 0, 0, 0, 0, 0, none, []),
  (25, .getfield 31, 28, 6, 9, 0, 0, 0, none, []),
  (28, .iload_n 3, 29, 3, 0, 0, 0, 0, none, []),
  (29, .iaload, 30, 0, 0, 0, 0, 0, none, []),
  (30, .ifCond .ne 23, 33, 53, 0, 0, 0, 0, none, [])]
theorem oX6_flood_1 : ∀ q ∈ tX6_flood_1, hy_ok mX6_flood q.1 q.2 = true := by decide +kernel
def tX6_flood_2 : List (Nat × hyE) := [(33, .aload_n 0, 34, 0, 0, 0, 0, 0, none, []),
  (34, .getfield 16, 37, 6, 4, 0, 0, 0, none, []),
  (37, .iload_n 3, 38, 3, 0, 0, 0, 0, none, []),
  (38, .iaload, 39, 0, 0, 0, 0, 0, none, []),
  (39, .iload_n 1, 40, 1, 0, 0, 0, 0, none, []),
  (40, .if_icmp .ne 13, 43, 53, 0, 0, 0, 0, none, []),
  (43, .aload_n 0, 44, 0, 0, 0, 0, 0, none, []),
  (44, .getfield 31, 47, 6, 9, 0, 0, 0, none, []),
  (47, .iload_n 3, 48, 3, 0, 0, 0, 0, none, [])]
theorem oX6_flood_2 : ∀ q ∈ tX6_flood_2, hy_ok mX6_flood q.1 q.2 = true := by decide +kernel
def tX6_flood_3 : List (Nat × hyE) := [(48, .iconst 2, 49, 0, 0, 0, 0, 2, none, []),
  (49, .iastore, 50, 0, 0, 0, 0, 0, none, []),
  (50, .iinc 2 1, 53, 2, 0, 0, 0, 1, none, []),
  (53, .iinc 3 1, 56, 3, 0, 0, 0, 1, none, []),
  (56, .goto (-40), 59, 16, 0, 0, 0, 0, none, []),
  (59, .iload_n 2, 60, 2, 0, 0, 0, 0, none, []),
  (60, .ireturn, 61, 0, 0, 0, 0, 0, none, [])]
theorem oX6_flood_3 : ∀ q ∈ tX6_flood_3, hy_ok mX6_flood q.1 q.2 = true := by decide +kernel
def tX6_flood : hyT := [tX6_flood_0, tX6_flood_1, tX6_flood_2, tX6_flood_3]
theorem oX6_flood : hy_tok mX6_flood tX6_flood := List.forall_mem_cons.mpr ⟨oX6_flood_0, List.forall_mem_cons.mpr ⟨oX6_flood_1, List.forall_mem_cons.mpr ⟨oX6_flood_2, List.forall_mem_cons.mpr ⟨oX6_flood_3, fun _ h => absurd h List.not_mem_nil⟩⟩⟩⟩
def tX6_find_0 : List (Nat × hyE) := [(0, .iload_n 1, 1, 1, 0, 0, 0, 0, none, []),
  (1, .iconst 0, 2, 0, 0, 0, 0, 0, none, []),
  (2, .sipush 255, 5, 0, 0, 0, 0, 255, none, []),
  (5, .invokestatic 93, 8, 2, 3, 0, 0, 0, (some mX6_in), []),
  (8, .ifCond .eq 29, 11, 37, 0, 0, 0, 0, none, []),
  (11, .iload_n 2, 12, 2, 0, 0, 0, 0, none, []),
  (12, .iconst 0, 13, 0, 0, 0, 0, 0, none, []),
  (13, .sipush 255, 16, 0, 0, 0, 0, 255, none, [])]
theorem oX6_find_0 : ∀ q ∈ tX6_find_0, hy_ok mX6_find q.1 q.2 = true := by decide +kernel
def tX6_find_1 : List (Nat × hyE) := [(16, .invokestatic 93, 19, 2, 3, 0, 0, 0, (some mX6_in), []),
  (19, .ifCond .eq 18, 22, 37, 0, 0, 0, 0, none, []),
  (22, .iload_n 1, 23, 1, 0, 0, 0, 0, none, []),
  (23, .iload_n 2, 24, 2, 0, 0, 0, 0, none, []),
  (24, .iand, 25, 0, 0, 0, 0, 0, none, []),
  (25, .ifCond .ne 12, 28, 37, 0, 0, 0, 0, none, []),
  (28, .aload_n 0, 29, 0, 0, 0, 0, 0, none, []),
  (29, .getfield 100, 32, 6, 10, 0, 0, 0, none, [])]
theorem oX6_find_1 : ∀ q ∈ tX6_find_1, hy_ok mX6_find q.1 q.2 = true := by decide +kernel
def tX6_find_2 : List (Nat × hyE) := [(32, .bipush 8, 34, 0, 0, 0, 0, 8, none, []),
  (34, .if_icmp .ne 5, 37, 39, 0, 0, 0, 0, none, []),
  (37, .iconst (-1), 38, 0, 0, 0, 0, (-1), none, []),
  (38, .ireturn, 39, 0, 0, 0, 0, 0, none, []),
  (39, .iconst 0, 40, 0, 0, 0, 0, 0, none, []),
  (40, .istore_n 3, 41, 3, 0, 0, 0, 0, none, []),
  (41, .iconst 0, 42, 0, 0, 0, 0, 0, none, []),
  (42, .istore 4, 44, 4, 0, 0, 0, 0, none, []),
  (44, .iload 4, 46, 4, 0, 0, 0, 0, none, []),
  (46, .aload_n 0, 47, 0, 0, 0, 0, 0, none, []),
  (47, .getfield 90, 50, 6, 3, 0, 0, 0, none, [])]
theorem oX6_find_2 : ∀ q ∈ tX6_find_2, hy_ok mX6_find q.1 q.2 = true := by decide +kernel
def tX6_find_3 : List (Nat × hyE) := [(50, .if_icmp .ge 55, 53, 105, 0, 0, 0, 0, none, []),
  (53, .iload_n 3, 54, 3, 0, 0, 0, 0, none, []),
  (54, .aload_n 0, 55, 0, 0, 0, 0, 0, none, []),
  (55, .iload 4, 57, 4, 0, 0, 0, 0, none, []),
  (57, .invokevirtual 125, 60, 0, 1, 0, 6, 0, (some mX6_stateOf), []),
  (60, .iconst 2, 61, 0, 0, 0, 0, 2, none, []),
  (61, .if_icmp .ne 35, 64, 96, 0, 0, 0, 0, none, [])]
theorem oX6_find_3 : ∀ q ∈ tX6_find_3, hy_ok mX6_find q.1 q.2 = true := by decide +kernel
def tX6_find_4 : List (Nat × hyE) := [(64, .aload_n 0, 65, 0, 0, 0, 0, 0, none, []),
  (65, .getfield 19, 68, 6, 5, 0, 0, 0, none, []),
  (68, .iload 4, 70, 4, 0, 0, 0, 0, none, []),
  (70, .iaload, 71, 0, 0, 0, 0, 0, none, []),
  (71, .iload_n 1, 72, 1, 0, 0, 0, 0, none, []),
  (72, .iand, 73, 0, 0, 0, 0, 0, none, []),
  (73, .iload_n 1, 74, 1, 0, 0, 0, 0, none, []),
  (74, .if_icmp .ne 22, 77, 96, 0, 0, 0, 0, none, []),
  (77, .aload_n 0, 78, 0, 0, 0, 0, 0, none, []),
  (78, .getfield 19, 81, 6, 5, 0, 0, 0, none, [])]
theorem oX6_find_4 : ∀ q ∈ tX6_find_4, hy_ok mX6_find q.1 q.2 = true := by decide +kernel
def tX6_find_5 : List (Nat × hyE) := [(81, .iload 4, 83, 4, 0, 0, 0, 0, none, []),
  (83, .iaload, 84, 0, 0, 0, 0, 0, none, []),
  (84, .iload_n 2, 85, 2, 0, 0, 0, 0, none, []),
  (85, .iand, 86, 0, 0, 0, 0, 0, none, []),
  (86, .ifCond .ne 10, 89, 96, 0, 0, 0, 0, none, []),
  (89, .iconst 1, 90, 0, 0, 0, 0, 1, none, []),
  (90, .iload 4, 92, 4, 0, 0, 0, 0, none, []),
  (92, .ishl, 93, 0, 0, 0, 0, 0, none, []),
  (93, .goto 4, 96, 97, 0, 0, 0, 0, none, [])]
theorem oX6_find_5 : ∀ q ∈ tX6_find_5, hy_ok mX6_find q.1 q.2 = true := by decide +kernel
def tX6_find_6 : List (Nat × hyE) := [(96, .iconst 0, 97, 0, 0, 0, 0, 0, none, []),
  (97, .iadd, 98, 0, 0, 0, 0, 0, none, []),
  (98, .istore_n 3, 99, 3, 0, 0, 0, 0, none, []),
  (99, .iinc 4 1, 102, 4, 0, 0, 0, 1, none, []),
  (102, .goto (-58), 105, 44, 0, 0, 0, 0, none, []),
  (105, .aload_n 0, 106, 0, 0, 0, 0, 0, none, []),
  (106, .getfield 34, 109, 6, 11, 0, 0, 0, none, []),
  (109, .aload_n 0, 110, 0, 0, 0, 0, 0, none, []),
  (110, .getfield 100, 113, 6, 10, 0, 0, 0, none, [])]
theorem oX6_find_6 : ∀ q ∈ tX6_find_6, hy_ok mX6_find q.1 q.2 = true := by decide +kernel
def tX6_find_7 : List (Nat × hyE) := [(113, .iload_n 3, 114, 3, 0, 0, 0, 0, none, []),
  (114, .iastore, 115, 0, 0, 0, 0, 0, none, []),
  (115, .aload_n 0, 116, 0, 0, 0, 0, 0, none, []),
  (116, .dup, 117, 0, 0, 0, 0, 0, none, []),
  (117, .getfield 100, 120, 6, 10, 0, 0, 0, none, []),
  (120, .iconst 1, 121, 0, 0, 0, 0, 1, none, []),
  (121, .iadd, 122, 0, 0, 0, 0, 0, none, []),
  (122, .putfield 100, 125, 6, 10, 0, 0, 0, none, []),
  (125, .aload_n 0, 126, 0, 0, 0, 0, 0, none, []),
  (126, .iconst (-1), 127, 0, 0, 0, 0, (-1), none, []),
  (127, .iconst (-1), 128, 0, 0, 0, 0, (-1), none, [])]
theorem oX6_find_7 : ∀ q ∈ tX6_find_7, hy_ok mX6_find q.1 q.2 = true := by decide +kernel
def tX6_find_8 : List (Nat × hyE) := [(128, .invokevirtual 111, 131, 0, 2, 0, 6, 0, (some mX6_isWay), []),
  (131, .ifCond .ne 15, 134, 146, 0, 0, 0, 0, none, []),
  (134, .aload_n 0, 135, 0, 0, 0, 0, 0, none, []),
  (135, .dup, 136, 0, 0, 0, 0, 0, none, []),
  (136, .getfield 100, 139, 6, 10, 0, 0, 0, none, []),
  (139, .iconst 1, 140, 0, 0, 0, 0, 1, none, []),
  (140, .isub, 141, 0, 0, 0, 0, 0, none, []),
  (141, .putfield 100, 144, 6, 10, 0, 0, 0, none, [])]
theorem oX6_find_8 : ∀ q ∈ tX6_find_8, hy_ok mX6_find q.1 q.2 = true := by decide +kernel
def tX6_find_9 : List (Nat × hyE) := [(144, .iconst (-1), 145, 0, 0, 0, 0, (-1), none, []),
  (145, .ireturn, 146, 0, 0, 0, 0, 0, none, []),
  (146, .aload_n 0, 147, 0, 0, 0, 0, 0, none, []),
  (147, .iconst 0, 148, 0, 0, 0, 0, 0, none, []),
  (148, .putfield 107, 151, 6, 12, 1, 0, 0, none, []),
  (151, .aload_n 0, 152, 0, 0, 0, 0, 0, none, []),
  (152, .getfield 100, 155, 6, 10, 0, 0, 0, none, []),
  (155, .iconst 1, 156, 0, 0, 0, 0, 1, none, []),
  (156, .isub, 157, 0, 0, 0, 0, 0, none, []),
  (157, .ireturn, 158, 0, 0, 0, 0, 0, none, [])]
theorem oX6_find_9 : ∀ q ∈ tX6_find_9, hy_ok mX6_find q.1 q.2 = true := by decide +kernel
def tX6_find : hyT := [tX6_find_0, tX6_find_1, tX6_find_2, tX6_find_3, tX6_find_4, tX6_find_5, tX6_find_6, tX6_find_7, tX6_find_8, tX6_find_9]
theorem oX6_find : hy_tok mX6_find tX6_find := List.forall_mem_cons.mpr ⟨oX6_find_0, List.forall_mem_cons.mpr ⟨oX6_find_1, List.forall_mem_cons.mpr ⟨oX6_find_2, List.forall_mem_cons.mpr ⟨oX6_find_3, List.forall_mem_cons.mpr ⟨oX6_find_4, List.forall_mem_cons.mpr ⟨oX6_find_5, List.forall_mem_cons.mpr ⟨oX6_find_6, List.forall_mem_cons.mpr ⟨oX6_find_7, List.forall_mem_cons.mpr ⟨oX6_find_8, List.forall_mem_cons.mpr ⟨oX6_find_9, fun _ h => absurd h List.not_mem_nil⟩⟩⟩⟩⟩⟩⟩⟩⟩⟩
def tX6_found_0 : List (Nat × hyE) := [(0, .iload_n 1, 1, 1, 0, 0, 0, 0, none, []),
  (1, .iconst 0, 2, 0, 0, 0, 0, 0, none, []),
  (2, .aload_n 0, 3, 0, 0, 0, 0, 0, none, []),
  (3, .getfield 100, 6, 6, 10, 0, 0, 0, none, []),
  (6, .iconst 1, 7, 0, 0, 0, 0, 1, none, []),
  (7, .isub, 8, 0, 0, 0, 0, 0, none, []),
  (8, .invokestatic 93, 11, 2, 3, 0, 0, 0, (some mX6_in), []),
  (11, .ifCond .ne 5, 14, 16, 0, 0, 0, 0, none, []),
  (14, .iconst (-1), 15, 0, 0, 0, 0, (-1), none, []),
  (15, .ireturn, 16, 0, 0, 0, 0, 0, none, [])]
theorem oX6_found_0 : ∀ q ∈ tX6_found_0, hy_ok mX6_found q.1 q.2 = true := by decide +kernel
def tX6_found_1 : List (Nat × hyE) := [(16, .iconst 0, 17, 0, 0, 0, 0, 0, none, []),
  (17, .istore_n 3, 18, 3, 0, 0, 0, 0, none, []),
  (18, .iconst 0, 19, 0, 0, 0, 0, 0, none, []),
  (19, .istore 4, 21, 4, 0, 0, 0, 0, none, []),
  (21, .iload 4, 23, 4, 0, 0, 0, 0, none, []),
  (23, .aload_n 0, 24, 0, 0, 0, 0, 0, none, []),
  (24, .getfield 90, 27, 6, 3, 0, 0, 0, none, []),
  (27, .if_icmp .ge 27, 30, 54, 0, 0, 0, 0, none, []),
  (30, .iload_n 3, 31, 3, 0, 0, 0, 0, none, []),
  (31, .aload_n 0, 32, 0, 0, 0, 0, 0, none, [])]
theorem oX6_found_1 : ∀ q ∈ tX6_found_1, hy_ok mX6_found q.1 q.2 = true := by decide +kernel
def tX6_found_2 : List (Nat × hyE) := [(32, .iload_n 1, 33, 1, 0, 0, 0, 0, none, []),
  (33, .iload 4, 35, 4, 0, 0, 0, 0, none, []),
  (35, .invokevirtual 103, 38, 0, 2, 0, 6, 0, (some mX6_fits), []),
  (38, .ifCond .eq 7, 41, 45, 0, 0, 0, 0, none, []),
  (41, .iconst 1, 42, 0, 0, 0, 0, 1, none, []),
  (42, .goto 4, 45, 46, 0, 0, 0, 0, none, []),
  (45, .iconst 0, 46, 0, 0, 0, 0, 0, none, []),
  (46, .iadd, 47, 0, 0, 0, 0, 0, none, []),
  (47, .istore_n 3, 48, 3, 0, 0, 0, 0, none, [])]
theorem oX6_found_2 : ∀ q ∈ tX6_found_2, hy_ok mX6_found q.1 q.2 = true := by decide +kernel
def tX6_found_3 : List (Nat × hyE) := [(48, .iinc 4 1, 51, 4, 0, 0, 0, 1, none, []),
  (51, .goto (-30), 54, 21, 0, 0, 0, 0, none, []),
  (54, .aload_n 0, 55, 0, 0, 0, 0, 0, none, []),
  (55, .invokevirtual 114, 58, 0, 0, 0, 6, 0, (some mX6_knows), []),
  (58, .iload_n 2, 59, 2, 0, 0, 0, 0, none, []),
  (59, .ifCond .ne 7, 62, 66, 0, 0, 0, 0, none, []),
  (62, .iload_n 3, 63, 3, 0, 0, 0, 0, none, []),
  (63, .goto 18, 66, 81, 0, 0, 0, 0, none, [])]
theorem oX6_found_3 : ∀ q ∈ tX6_found_3, hy_ok mX6_found q.1 q.2 = true := by decide +kernel
def tX6_found_4 : List (Nat × hyE) := [(66, .iload_n 2, 67, 2, 0, 0, 0, 0, none, []),
  (67, .iconst 1, 68, 0, 0, 0, 0, 1, none, []),
  (68, .if_icmp .ne 12, 71, 80, 0, 0, 0, 0, none, []),
  (71, .aload_n 0, 72, 0, 0, 0, 0, 0, none, []),
  (72, .getfield 37, 75, 6, 13, 0, 0, 0, none, []),
  (75, .iload_n 1, 76, 1, 0, 0, 0, 0, none, []),
  (76, .iaload, 77, 0, 0, 0, 0, 0, none, []),
  (77, .goto 4, 80, 81, 0, 0, 0, 0, none, [])]
theorem oX6_found_4 : ∀ q ∈ tX6_found_4, hy_ok mX6_found q.1 q.2 = true := by decide +kernel
def tX6_found_5 : List (Nat × hyE) := [(80, .iconst (-1), 81, 0, 0, 0, 0, (-1), none, []),
  (81, .ireturn, 82, 0, 0, 0, 0, 0, none, [])]
theorem oX6_found_5 : ∀ q ∈ tX6_found_5, hy_ok mX6_found q.1 q.2 = true := by decide +kernel
def tX6_found : hyT := [tX6_found_0, tX6_found_1, tX6_found_2, tX6_found_3, tX6_found_4, tX6_found_5]
theorem oX6_found : hy_tok mX6_found tX6_found := List.forall_mem_cons.mpr ⟨oX6_found_0, List.forall_mem_cons.mpr ⟨oX6_found_1, List.forall_mem_cons.mpr ⟨oX6_found_2, List.forall_mem_cons.mpr ⟨oX6_found_3, List.forall_mem_cons.mpr ⟨oX6_found_4, List.forall_mem_cons.mpr ⟨oX6_found_5, fun _ h => absurd h List.not_mem_nil⟩⟩⟩⟩⟩⟩
def tX6_weeksLeft_0 : List (Nat × hyE) := [(0, .aload_n 0, 1, 0, 0, 0, 0, 0, none, []),
  (1, .getfield 13, 4, 6, 2, 0, 0, 0, none, []),
  (4, .aload_n 0, 5, 0, 0, 0, 0, 0, none, []),
  (5, .getfield 7, 8, 6, 1, 0, 0, 0, none, []),
  (8, .aload_n 0, 9, 0, 0, 0, 0, 0, none, []),
  (9, .getfield 16, 12, 6, 4, 0, 0, 0, none, []),
  (12, .iload_n 1, 13, 1, 0, 0, 0, 0, none, []),
  (13, .iaload, 14, 0, 0, 0, 0, 0, none, []),
  (14, .iaload, 15, 0, 0, 0, 0, 0, none, []),
  (15, .iaload, 16, 0, 0, 0, 0, 0, none, [])]
theorem oX6_weeksLeft_0 : ∀ q ∈ tX6_weeksLeft_0, hy_ok mX6_weeksLeft q.1 q.2 = true := by decide +kernel
def tX6_weeksLeft_1 : List (Nat × hyE) := [(16, .istore_n 2, 17, 2, 0, 0, 0, 0, none, []),
  (17, .aload_n 0, 18, 0, 0, 0, 0, 0, none, []),
  (18, .getfield 25, 21, 6, 7, 0, 0, 0, none, []),
  (21, .iload_n 1, 22, 1, 0, 0, 0, 0, none, []),
  (22, .iaload, 23, 0, 0, 0, 0, 0, none, []),
  (23, .aload_n 0, 24, 0, 0, 0, 0, 0, none, []),
  (24, .getfield 28, 27, 6, 8, 0, 0, 0, none, []),
  (27, .iload_n 1, 28, 1, 0, 0, 0, 0, none, []),
  (28, .iaload, 29, 0, 0, 0, 0, 0, none, []),
  (29, .isub, 30, 0, 0, 0, 0, 0, none, []),
  (30, .istore_n 3, 31, 3, 0, 0, 0, 0, none, []),
  (31, .aload_n 0, 32, 0, 0, 0, 0, 0, none, [])]
theorem oX6_weeksLeft_1 : ∀ q ∈ tX6_weeksLeft_1, hy_ok mX6_weeksLeft q.1 q.2 = true := by decide +kernel
def tX6_weeksLeft_2 : List (Nat × hyE) := [(32, .getfield 31, 35, 6, 9, 0, 0, 0, none, []),
  (35, .iload_n 1, 36, 1, 0, 0, 0, 0, none, []),
  (36, .iaload, 37, 0, 0, 0, 0, 0, none, []),
  (37, .ifCond .ne 11, 40, 48, 0, 0, 0, 0, none, []),
  (40, .iload_n 3, 41, 3, 0, 0, 0, 0, none, []),
  (41, .ifCond .le 11, 44, 52, 0, 0, 0, 0, none, []),
  (44, .iload_n 2, 45, 2, 0, 0, 0, 0, none, []),
  (45, .ifCond .ne 7, 48, 52, 0, 0, 0, 0, none, [])]
theorem oX6_weeksLeft_2 : ∀ q ∈ tX6_weeksLeft_2, hy_ok mX6_weeksLeft q.1 q.2 = true := by decide +kernel
def tX6_weeksLeft_3 : List (Nat × hyE) := [(48, .iconst (-1), 49, 0, 0, 0, 0, (-1), none, []),
  (49, .goto 18, 52, 67, 0, 0, 0, 0, none, []),
  (52, .iload_n 3, 53, 3, 0, 0, 0, 0, none, []),
  (53, .ifCond .gt 7, 56, 60, 0, 0, 0, 0, none, []),
  (56, .iconst 0, 57, 0, 0, 0, 0, 0, none, []),
  (57, .goto 10, 60, 67, 0, 0, 0, 0, none, []),
  (60, .iload_n 3, 61, 3, 0, 0, 0, 0, none, []),
  (61, .iload_n 2, 62, 2, 0, 0, 0, 0, none, []),
  (62, .iadd, 63, 0, 0, 0, 0, 0, none, []),
  (63, .iconst 1, 64, 0, 0, 0, 0, 1, none, [])]
theorem oX6_weeksLeft_3 : ∀ q ∈ tX6_weeksLeft_3, hy_ok mX6_weeksLeft q.1 q.2 = true := by decide +kernel
def tX6_weeksLeft_4 : List (Nat × hyE) := [(64, .isub, 65, 0, 0, 0, 0, 0, none, []),
  (65, .iload_n 2, 66, 2, 0, 0, 0, 0, none, []),
  (66, .idiv, 67, 0, 0, 0, 0, 0, none, []),
  (67, .ireturn, 68, 0, 0, 0, 0, 0, none, [])]
theorem oX6_weeksLeft_4 : ∀ q ∈ tX6_weeksLeft_4, hy_ok mX6_weeksLeft q.1 q.2 = true := by decide +kernel
def tX6_weeksLeft : hyT := [tX6_weeksLeft_0, tX6_weeksLeft_1, tX6_weeksLeft_2, tX6_weeksLeft_3, tX6_weeksLeft_4]
theorem oX6_weeksLeft : hy_tok mX6_weeksLeft tX6_weeksLeft := List.forall_mem_cons.mpr ⟨oX6_weeksLeft_0, List.forall_mem_cons.mpr ⟨oX6_weeksLeft_1, List.forall_mem_cons.mpr ⟨oX6_weeksLeft_2, List.forall_mem_cons.mpr ⟨oX6_weeksLeft_3, List.forall_mem_cons.mpr ⟨oX6_weeksLeft_4, fun _ h => absurd h List.not_mem_nil⟩⟩⟩⟩⟩
def tX6_netOf_0 : List (Nat × hyE) := [(0, .aload_n 0, 1, 0, 0, 0, 0, 0, none, []),
  (1, .iload_n 1, 2, 1, 0, 0, 0, 0, none, []),
  (2, .invokevirtual 121, 5, 0, 1, 0, 6, 0, (some mX6_isNet), []),
  (5, .ifCond .ne 5, 8, 10, 0, 0, 0, 0, none, []),
  (8, .iconst (-1), 9, 0, 0, 0, 0, (-1), none, []),
  (9, .ireturn, 10, 0, 0, 0, 0, 0, none, []),
  (10, .iload_n 2, 11, 2, 0, 0, 0, 0, none, []),
  (11, .tableswitch 105 0 7 #[45, 52, 59, 73, 79, 86, 93, 99], 56, 116, 0, 45, 0, 0, none, [(0, 56), (1, 63), (2, 70), (3, 84), (4, 90), (5, 97), (6, 104), (7, 110)])]
theorem oX6_netOf_0 : ∀ q ∈ tX6_netOf_0, hy_ok mX6_netOf q.1 q.2 = true := by decide +kernel
def tX6_netOf_1 : List (Nat × hyE) := []
theorem oX6_netOf_1 : ∀ q ∈ tX6_netOf_1, hy_ok mX6_netOf q.1 q.2 = true := by decide +kernel
def tX6_netOf_2 : List (Nat × hyE) := []
theorem oX6_netOf_2 : ∀ q ∈ tX6_netOf_2, hy_ok mX6_netOf q.1 q.2 = true := by decide +kernel
def tX6_netOf_3 : List (Nat × hyE) := [(56, .aload_n 0, 57, 0, 0, 0, 0, 0, none, []),
  (57, .getfield 16, 60, 6, 4, 0, 0, 0, none, []),
  (60, .iload_n 1, 61, 1, 0, 0, 0, 0, none, []),
  (61, .iaload, 62, 0, 0, 0, 0, 0, none, []),
  (62, .ireturn, 63, 0, 0, 0, 0, 0, none, []),
  (63, .aload_n 0, 64, 0, 0, 0, 0, 0, none, [])]
theorem oX6_netOf_3 : ∀ q ∈ tX6_netOf_3, hy_ok mX6_netOf q.1 q.2 = true := by decide +kernel
def tX6_netOf_4 : List (Nat × hyE) := [(64, .getfield 28, 67, 6, 8, 0, 0, 0, none, []),
  (67, .iload_n 1, 68, 1, 0, 0, 0, 0, none, []),
  (68, .iaload, 69, 0, 0, 0, 0, 0, none, []),
  (69, .ireturn, 70, 0, 0, 0, 0, 0, none, []),
  (70, .aload_n 0, 71, 0, 0, 0, 0, 0, none, []),
  (71, .iload_n 1, 72, 1, 0, 0, 0, 0, none, []),
  (72, .invokevirtual 128, 75, 0, 1, 0, 6, 0, (some mX6_isRipe), []),
  (75, .ifCond .eq 7, 78, 82, 0, 0, 0, 0, none, []),
  (78, .iconst 1, 79, 0, 0, 0, 0, 1, none, []),
  (79, .goto 4, 82, 83, 0, 0, 0, 0, none, [])]
theorem oX6_netOf_4 : ∀ q ∈ tX6_netOf_4, hy_ok mX6_netOf q.1 q.2 = true := by decide +kernel
def tX6_netOf_5 : List (Nat × hyE) := [(82, .iconst 0, 83, 0, 0, 0, 0, 0, none, []),
  (83, .ireturn, 84, 0, 0, 0, 0, 0, none, []),
  (84, .aload_n 0, 85, 0, 0, 0, 0, 0, none, []),
  (85, .iload_n 1, 86, 1, 0, 0, 0, 0, none, []),
  (86, .invokevirtual 125, 89, 0, 1, 0, 6, 0, (some mX6_stateOf), []),
  (89, .ireturn, 90, 0, 0, 0, 0, 0, none, []),
  (90, .aload_n 0, 91, 0, 0, 0, 0, 0, none, []),
  (91, .getfield 19, 94, 6, 5, 0, 0, 0, none, []),
  (94, .iload_n 1, 95, 1, 0, 0, 0, 0, none, []),
  (95, .iaload, 96, 0, 0, 0, 0, 0, none, [])]
theorem oX6_netOf_5 : ∀ q ∈ tX6_netOf_5, hy_ok mX6_netOf q.1 q.2 = true := by decide +kernel
def tX6_netOf_6 : List (Nat × hyE) := [(96, .ireturn, 97, 0, 0, 0, 0, 0, none, []),
  (97, .aload_n 0, 98, 0, 0, 0, 0, 0, none, []),
  (98, .getfield 22, 101, 6, 6, 0, 0, 0, none, []),
  (101, .iload_n 1, 102, 1, 0, 0, 0, 0, none, []),
  (102, .iaload, 103, 0, 0, 0, 0, 0, none, []),
  (103, .ireturn, 104, 0, 0, 0, 0, 0, none, []),
  (104, .aload_n 0, 105, 0, 0, 0, 0, 0, none, []),
  (105, .iload_n 1, 106, 1, 0, 0, 0, 0, none, []),
  (106, .invokevirtual 117, 109, 0, 1, 0, 6, 0, (some mX6_findOf), []),
  (109, .ireturn, 110, 0, 0, 0, 0, 0, none, []),
  (110, .aload_n 0, 111, 0, 0, 0, 0, 0, none, []),
  (111, .iload_n 1, 112, 1, 0, 0, 0, 0, none, [])]
theorem oX6_netOf_6 : ∀ q ∈ tX6_netOf_6, hy_ok mX6_netOf q.1 q.2 = true := by decide +kernel
def tX6_netOf_7 : List (Nat × hyE) := [(112, .invokevirtual 134, 115, 0, 1, 0, 6, 0, (some mX6_weeksLeft), []),
  (115, .ireturn, 116, 0, 0, 0, 0, 0, none, []),
  (116, .iconst (-1), 117, 0, 0, 0, 0, (-1), none, []),
  (117, .ireturn, 118, 0, 0, 0, 0, 0, none, [])]
theorem oX6_netOf_7 : ∀ q ∈ tX6_netOf_7, hy_ok mX6_netOf q.1 q.2 = true := by decide +kernel
def tX6_netOf : hyT := [tX6_netOf_0, tX6_netOf_1, tX6_netOf_2, tX6_netOf_3, tX6_netOf_4, tX6_netOf_5, tX6_netOf_6, tX6_netOf_7]
theorem oX6_netOf : hy_tok mX6_netOf tX6_netOf := List.forall_mem_cons.mpr ⟨oX6_netOf_0, List.forall_mem_cons.mpr ⟨oX6_netOf_1, List.forall_mem_cons.mpr ⟨oX6_netOf_2, List.forall_mem_cons.mpr ⟨oX6_netOf_3, List.forall_mem_cons.mpr ⟨oX6_netOf_4, List.forall_mem_cons.mpr ⟨oX6_netOf_5, List.forall_mem_cons.mpr ⟨oX6_netOf_6, List.forall_mem_cons.mpr ⟨oX6_netOf_7, fun _ h => absurd h List.not_mem_nil⟩⟩⟩⟩⟩⟩⟩⟩
def tX6_order_0 : List (Nat × hyE) := [(0, .iload_n 1, 1, 1, 0, 0, 0, 0, none, []),
  (1, .iconst 0, 2, 0, 0, 0, 0, 0, none, []),
  (2, .iconst 3, 3, 0, 0, 0, 0, 3, none, []),
  (3, .invokestatic 93, 6, 2, 3, 0, 0, 0, (some mX6_in), []),
  (6, .ifCond .eq 44, 9, 50, 0, 0, 0, 0, none, []),
  (9, .iload_n 2, 10, 2, 0, 0, 0, 0, none, []),
  (10, .iconst 1, 11, 0, 0, 0, 0, 1, none, []),
  (11, .bipush 100, 13, 0, 0, 0, 0, 100, none, []),
  (13, .invokestatic 93, 16, 2, 3, 0, 0, 0, (some mX6_in), [])]
theorem oX6_order_0 : ∀ q ∈ tX6_order_0, hy_ok mX6_order q.1 q.2 = true := by decide +kernel
def tX6_order_1 : List (Nat × hyE) := [(16, .ifCond .eq 34, 19, 50, 0, 0, 0, 0, none, []),
  (19, .iload_n 3, 20, 3, 0, 0, 0, 0, none, []),
  (20, .iconst 0, 21, 0, 0, 0, 0, 0, none, []),
  (21, .sipush 1000, 24, 0, 0, 0, 0, 1000, none, []),
  (24, .invokestatic 93, 27, 2, 3, 0, 0, 0, (some mX6_in), []),
  (27, .ifCond .eq 23, 30, 50, 0, 0, 0, 0, none, []),
  (30, .iload 4, 32, 4, 0, 0, 0, 0, none, [])]
theorem oX6_order_1 : ∀ q ∈ tX6_order_1, hy_ok mX6_order q.1 q.2 = true := by decide +kernel
def tX6_order_2 : List (Nat × hyE) := [(32, .iconst 1, 33, 0, 0, 0, 0, 1, none, []),
  (33, .bipush 9, 35, 0, 0, 0, 0, 9, none, []),
  (35, .invokestatic 93, 38, 2, 3, 0, 0, 0, (some mX6_in), []),
  (38, .ifCond .eq 12, 41, 50, 0, 0, 0, 0, none, []),
  (41, .aload_n 0, 42, 0, 0, 0, 0, 0, none, []),
  (42, .getfield 137, 45, 6, 15, 0, 0, 0, none, []),
  (45, .bipush 7, 47, 0, 0, 0, 0, 7, none, []),
  (47, .if_icmp .ne 5, 50, 52, 0, 0, 0, 0, none, [])]
theorem oX6_order_2 : ∀ q ∈ tX6_order_2, hy_ok mX6_order q.1 q.2 = true := by decide +kernel
def tX6_order_3 : List (Nat × hyE) := [(50, .iconst (-1), 51, 0, 0, 0, 0, (-1), none, []),
  (51, .ireturn, 52, 0, 0, 0, 0, 0, none, []),
  (52, .aload_n 0, 53, 0, 0, 0, 0, 0, none, []),
  (53, .getfield 40, 56, 6, 16, 0, 0, 0, none, []),
  (56, .aload_n 0, 57, 0, 0, 0, 0, 0, none, []),
  (57, .getfield 137, 60, 6, 15, 0, 0, 0, none, []),
  (60, .iload_n 1, 61, 1, 0, 0, 0, 0, none, []),
  (61, .iastore, 62, 0, 0, 0, 0, 0, none, []),
  (62, .aload_n 0, 63, 0, 0, 0, 0, 0, none, []),
  (63, .getfield 43, 66, 6, 17, 0, 0, 0, none, [])]
theorem oX6_order_3 : ∀ q ∈ tX6_order_3, hy_ok mX6_order q.1 q.2 = true := by decide +kernel
def tX6_order_4 : List (Nat × hyE) := [(66, .aload_n 0, 67, 0, 0, 0, 0, 0, none, []),
  (67, .getfield 137, 70, 6, 15, 0, 0, 0, none, []),
  (70, .iload_n 2, 71, 2, 0, 0, 0, 0, none, []),
  (71, .iastore, 72, 0, 0, 0, 0, 0, none, []),
  (72, .aload_n 0, 73, 0, 0, 0, 0, 0, none, []),
  (73, .getfield 46, 76, 6, 18, 0, 0, 0, none, []),
  (76, .aload_n 0, 77, 0, 0, 0, 0, 0, none, []),
  (77, .getfield 137, 80, 6, 15, 0, 0, 0, none, [])]
theorem oX6_order_4 : ∀ q ∈ tX6_order_4, hy_ok mX6_order q.1 q.2 = true := by decide +kernel
def tX6_order_5 : List (Nat × hyE) := [(80, .iload_n 3, 81, 3, 0, 0, 0, 0, none, []),
  (81, .iastore, 82, 0, 0, 0, 0, 0, none, []),
  (82, .aload_n 0, 83, 0, 0, 0, 0, 0, none, []),
  (83, .getfield 49, 86, 6, 19, 0, 0, 0, none, []),
  (86, .aload_n 0, 87, 0, 0, 0, 0, 0, none, []),
  (87, .getfield 137, 90, 6, 15, 0, 0, 0, none, []),
  (90, .iload 4, 92, 4, 0, 0, 0, 0, none, []),
  (92, .iastore, 93, 0, 0, 0, 0, 0, none, []),
  (93, .aload_n 0, 94, 0, 0, 0, 0, 0, none, []),
  (94, .dup, 95, 0, 0, 0, 0, 0, none, []),
  (95, .getfield 137, 98, 6, 15, 0, 0, 0, none, [])]
theorem oX6_order_5 : ∀ q ∈ tX6_order_5, hy_ok mX6_order q.1 q.2 = true := by decide +kernel
def tX6_order_6 : List (Nat × hyE) := [(98, .iconst 1, 99, 0, 0, 0, 0, 1, none, []),
  (99, .iadd, 100, 0, 0, 0, 0, 0, none, []),
  (100, .putfield 137, 103, 6, 15, 0, 0, 0, none, []),
  (103, .aload_n 0, 104, 0, 0, 0, 0, 0, none, []),
  (104, .getfield 137, 107, 6, 15, 0, 0, 0, none, []),
  (107, .iconst 1, 108, 0, 0, 0, 0, 1, none, []),
  (108, .isub, 109, 0, 0, 0, 0, 0, none, []),
  (109, .ireturn, 110, 0, 0, 0, 0, 0, none, [])]
theorem oX6_order_6 : ∀ q ∈ tX6_order_6, hy_ok mX6_order q.1 q.2 = true := by decide +kernel
def tX6_order : hyT := [tX6_order_0, tX6_order_1, tX6_order_2, tX6_order_3, tX6_order_4, tX6_order_5, tX6_order_6]
theorem oX6_order : hy_tok mX6_order tX6_order := List.forall_mem_cons.mpr ⟨oX6_order_0, List.forall_mem_cons.mpr ⟨oX6_order_1, List.forall_mem_cons.mpr ⟨oX6_order_2, List.forall_mem_cons.mpr ⟨oX6_order_3, List.forall_mem_cons.mpr ⟨oX6_order_4, List.forall_mem_cons.mpr ⟨oX6_order_5, List.forall_mem_cons.mpr ⟨oX6_order_6, fun _ h => absurd h List.not_mem_nil⟩⟩⟩⟩⟩⟩⟩
def tX6_change_0 : List (Nat × hyE) := [(0, .iload_n 1, 1, 1, 0, 0, 0, 0, none, []),
  (1, .iconst 0, 2, 0, 0, 0, 0, 0, none, []),
  (2, .bipush 50, 4, 0, 0, 0, 0, 50, none, []),
  (4, .invokestatic 93, 7, 2, 3, 0, 0, 0, (some mX6_in), []),
  (7, .ifCond .ne 5, 10, 12, 0, 0, 0, 0, none, []),
  (10, .iconst 0, 11, 0, 0, 0, 0, 0, none, []),
  (11, .ireturn, 12, 0, 0, 0, 0, 0, none, []),
  (12, .aload_n 0, 13, 0, 0, 0, 0, 0, none, []),
  (13, .iload_n 1, 14, 1, 0, 0, 0, 0, none, []),
  (14, .putfield 52, 17, 6, 20, 0, 0, 0, none, [])]
theorem oX6_change_0 : ∀ q ∈ tX6_change_0, hy_ok mX6_change q.1 q.2 = true := by decide +kernel
def tX6_change_1 : List (Nat × hyE) := [(17, .iconst 1, 18, 0, 0, 0, 0, 1, none, []),
  (18, .ireturn, 19, 0, 0, 0, 0, 0, none, [])]
theorem oX6_change_1 : ∀ q ∈ tX6_change_1, hy_ok mX6_change q.1 q.2 = true := by decide +kernel
def tX6_change : hyT := [tX6_change_0, tX6_change_1]
theorem oX6_change : hy_tok mX6_change tX6_change := List.forall_mem_cons.mpr ⟨oX6_change_0, List.forall_mem_cons.mpr ⟨oX6_change_1, fun _ h => absurd h List.not_mem_nil⟩⟩
def tX6_endOf_0 : List (Nat × hyE) := [(0, .iconst 0, 1, 0, 0, 0, 0, 0, none, []),
  (1, .istore_n 3, 2, 3, 0, 0, 0, 0, none, []),
  (2, .iconst 0, 3, 0, 0, 0, 0, 0, none, []),
  (3, .istore 4, 5, 4, 0, 0, 0, 0, none, []),
  (5, .aload_n 0, 6, 0, 0, 0, 0, 0, none, []),
  (6, .iconst 0, 7, 0, 0, 0, 0, 0, none, []),
  (7, .putfield 140, 10, 6, 33, 0, 0, 0, none, []),
  (10, .iconst 0, 11, 0, 0, 0, 0, 0, none, []),
  (11, .istore 5, 13, 5, 0, 0, 0, 0, none, []),
  (13, .iload 5, 15, 5, 0, 0, 0, 0, none, []),
  (15, .iload_n 1, 16, 1, 0, 0, 0, 0, none, [])]
theorem oX6_endOf_0 : ∀ q ∈ tX6_endOf_0, hy_ok mX6_endOf q.1 q.2 = true := by decide +kernel
def tX6_endOf_1 : List (Nat × hyE) := [(16, .if_icmp .gt 113, 19, 129, 0, 0, 0, 0, none, []),
  (19, .iload_n 2, 20, 2, 0, 0, 0, 0, none, []),
  (20, .ifCond .eq 13, 23, 33, 0, 0, 0, 0, none, []),
  (23, .aload_n 0, 24, 0, 0, 0, 0, 0, none, []),
  (24, .getfield 81, 27, 6, 32, 0, 0, 0, none, []),
  (27, .iload 5, 29, 5, 0, 0, 0, 0, none, []),
  (29, .iaload, 30, 0, 0, 0, 0, 0, none, []),
  (30, .goto 10, 33, 40, 0, 0, 0, 0, none, [])]
theorem oX6_endOf_1 : ∀ q ∈ tX6_endOf_1, hy_ok mX6_endOf q.1 q.2 = true := by decide +kernel
def tX6_endOf_2 : List (Nat × hyE) := [(33, .aload_n 0, 34, 0, 0, 0, 0, 0, none, []),
  (34, .getfield 78, 37, 6, 31, 0, 0, 0, none, []),
  (37, .iload 5, 39, 5, 0, 0, 0, 0, none, []),
  (39, .iaload, 40, 0, 0, 0, 0, 0, none, []),
  (40, .istore 6, 42, 6, 0, 0, 0, 0, none, []),
  (42, .iload_n 3, 43, 3, 0, 0, 0, 0, none, []),
  (43, .aload_n 0, 44, 0, 0, 0, 0, 0, none, []),
  (44, .getfield 40, 47, 6, 16, 0, 0, 0, none, []),
  (47, .iload 6, 49, 6, 0, 0, 0, 0, none, [])]
theorem oX6_endOf_2 : ∀ q ∈ tX6_endOf_2, hy_ok mX6_endOf q.1 q.2 = true := by decide +kernel
def tX6_endOf_3 : List (Nat × hyE) := [(49, .iaload, 50, 0, 0, 0, 0, 0, none, []),
  (50, .iload 4, 52, 4, 0, 0, 0, 0, none, []),
  (52, .if_icmp .eq 10, 55, 62, 0, 0, 0, 0, none, []),
  (55, .aload_n 0, 56, 0, 0, 0, 0, 0, none, []),
  (56, .getfield 52, 59, 6, 20, 0, 0, 0, none, []),
  (59, .goto 4, 62, 63, 0, 0, 0, 0, none, []),
  (62, .iconst 0, 63, 0, 0, 0, 0, 0, none, []),
  (63, .aload_n 0, 64, 0, 0, 0, 0, 0, none, [])]
theorem oX6_endOf_3 : ∀ q ∈ tX6_endOf_3, hy_ok mX6_endOf q.1 q.2 = true := by decide +kernel
def tX6_endOf_4 : List (Nat × hyE) := [(64, .getfield 43, 67, 6, 17, 0, 0, 0, none, []),
  (67, .iload 6, 69, 6, 0, 0, 0, 0, none, []),
  (69, .iaload, 70, 0, 0, 0, 0, 0, none, []),
  (70, .iadd, 71, 0, 0, 0, 0, 0, none, []),
  (71, .iadd, 72, 0, 0, 0, 0, 0, none, []),
  (72, .istore_n 3, 73, 3, 0, 0, 0, 0, none, []),
  (73, .aload_n 0, 74, 0, 0, 0, 0, 0, none, []),
  (74, .getfield 40, 77, 6, 16, 0, 0, 0, none, []),
  (77, .iload 6, 79, 6, 0, 0, 0, 0, none, []),
  (79, .iaload, 80, 0, 0, 0, 0, 0, none, [])]
theorem oX6_endOf_4 : ∀ q ∈ tX6_endOf_4, hy_ok mX6_endOf q.1 q.2 = true := by decide +kernel
def tX6_endOf_5 : List (Nat × hyE) := [(80, .istore 4, 82, 4, 0, 0, 0, 0, none, []),
  (82, .aload_n 0, 83, 0, 0, 0, 0, 0, none, []),
  (83, .dup, 84, 0, 0, 0, 0, 0, none, []),
  (84, .getfield 140, 87, 6, 33, 0, 0, 0, none, []),
  (87, .iload_n 3, 88, 3, 0, 0, 0, 0, none, []),
  (88, .aload_n 0, 89, 0, 0, 0, 0, 0, none, []),
  (89, .getfield 46, 92, 6, 18, 0, 0, 0, none, []),
  (92, .iload 6, 94, 6, 0, 0, 0, 0, none, []),
  (94, .iaload, 95, 0, 0, 0, 0, 0, none, []),
  (95, .if_icmp .le 23, 98, 118, 0, 0, 0, 0, none, [])]
theorem oX6_endOf_5 : ∀ q ∈ tX6_endOf_5, hy_ok mX6_endOf q.1 q.2 = true := by decide +kernel
def tX6_endOf_6 : List (Nat × hyE) := [(98, .iload_n 3, 99, 3, 0, 0, 0, 0, none, []),
  (99, .aload_n 0, 100, 0, 0, 0, 0, 0, none, []),
  (100, .getfield 46, 103, 6, 18, 0, 0, 0, none, []),
  (103, .iload 6, 105, 6, 0, 0, 0, 0, none, []),
  (105, .iaload, 106, 0, 0, 0, 0, 0, none, []),
  (106, .isub, 107, 0, 0, 0, 0, 0, none, []),
  (107, .aload_n 0, 108, 0, 0, 0, 0, 0, none, []),
  (108, .getfield 49, 111, 6, 19, 0, 0, 0, none, []),
  (111, .iload 6, 113, 6, 0, 0, 0, 0, none, [])]
theorem oX6_endOf_6 : ∀ q ∈ tX6_endOf_6, hy_ok mX6_endOf q.1 q.2 = true := by decide +kernel
def tX6_endOf_7 : List (Nat × hyE) := [(113, .iaload, 114, 0, 0, 0, 0, 0, none, []),
  (114, .imul, 115, 0, 0, 0, 0, 0, none, []),
  (115, .goto 4, 118, 119, 0, 0, 0, 0, none, []),
  (118, .iconst 0, 119, 0, 0, 0, 0, 0, none, []),
  (119, .iadd, 120, 0, 0, 0, 0, 0, none, []),
  (120, .putfield 140, 123, 6, 33, 0, 0, 0, none, []),
  (123, .iinc 5 1, 126, 5, 0, 0, 0, 1, none, []),
  (126, .goto (-113), 129, 13, 0, 0, 0, 0, none, [])]
theorem oX6_endOf_7 : ∀ q ∈ tX6_endOf_7, hy_ok mX6_endOf q.1 q.2 = true := by decide +kernel
def tX6_endOf_8 : List (Nat × hyE) := [(129, .iload_n 3, 130, 3, 0, 0, 0, 0, none, []),
  (130, .ireturn, 131, 0, 0, 0, 0, 0, none, [])]
theorem oX6_endOf_8 : ∀ q ∈ tX6_endOf_8, hy_ok mX6_endOf q.1 q.2 = true := by decide +kernel
def tX6_endOf : hyT := [tX6_endOf_0, tX6_endOf_1, tX6_endOf_2, tX6_endOf_3, tX6_endOf_4, tX6_endOf_5, tX6_endOf_6, tX6_endOf_7, tX6_endOf_8]
theorem oX6_endOf : hy_tok mX6_endOf tX6_endOf := List.forall_mem_cons.mpr ⟨oX6_endOf_0, List.forall_mem_cons.mpr ⟨oX6_endOf_1, List.forall_mem_cons.mpr ⟨oX6_endOf_2, List.forall_mem_cons.mpr ⟨oX6_endOf_3, List.forall_mem_cons.mpr ⟨oX6_endOf_4, List.forall_mem_cons.mpr ⟨oX6_endOf_5, List.forall_mem_cons.mpr ⟨oX6_endOf_6, List.forall_mem_cons.mpr ⟨oX6_endOf_7, List.forall_mem_cons.mpr ⟨oX6_endOf_8, fun _ h => absurd h List.not_mem_nil⟩⟩⟩⟩⟩⟩⟩⟩⟩
def tX6_nextRow_0 : List (Nat × hyE) := [(0, .aload_n 0, 1, 0, 0, 0, 0, 0, none, []),
  (1, .getfield 137, 4, 6, 15, 0, 0, 0, none, []),
  (4, .iconst 2, 5, 0, 0, 0, 0, 2, none, []),
  (5, .isub, 6, 0, 0, 0, 0, 0, none, []),
  (6, .istore_n 1, 7, 1, 0, 0, 0, 0, none, []),
  (7, .iload_n 1, 8, 1, 0, 0, 0, 0, none, []),
  (8, .ifCond .lt 26, 11, 34, 0, 0, 0, 0, none, []),
  (11, .aload_n 0, 12, 0, 0, 0, 0, 0, none, []),
  (12, .getfield 78, 15, 6, 31, 0, 0, 0, none, []),
  (15, .iload_n 1, 16, 1, 0, 0, 0, 0, none, [])]
theorem oX6_nextRow_0 : ∀ q ∈ tX6_nextRow_0, hy_ok mX6_nextRow q.1 q.2 = true := by decide +kernel
def tX6_nextRow_1 : List (Nat × hyE) := [(16, .iaload, 17, 0, 0, 0, 0, 0, none, []),
  (17, .aload_n 0, 18, 0, 0, 0, 0, 0, none, []),
  (18, .getfield 78, 21, 6, 31, 0, 0, 0, none, []),
  (21, .iload_n 1, 22, 1, 0, 0, 0, 0, none, []),
  (22, .iconst 1, 23, 0, 0, 0, 0, 1, none, []),
  (23, .iadd, 24, 0, 0, 0, 0, 0, none, []),
  (24, .iaload, 25, 0, 0, 0, 0, 0, none, []),
  (25, .if_icmp .le 9, 28, 34, 0, 0, 0, 0, none, []),
  (28, .iinc 1 (-1), 31, 1, 0, 0, 0, (-1), none, []),
  (31, .goto (-24), 34, 7, 0, 0, 0, 0, none, [])]
theorem oX6_nextRow_1 : ∀ q ∈ tX6_nextRow_1, hy_ok mX6_nextRow q.1 q.2 = true := by decide +kernel
def tX6_nextRow_2 : List (Nat × hyE) := [(34, .iload_n 1, 35, 1, 0, 0, 0, 0, none, []),
  (35, .ifCond .ge 5, 38, 40, 0, 0, 0, 0, none, []),
  (38, .iconst 0, 39, 0, 0, 0, 0, 0, none, []),
  (39, .ireturn, 40, 0, 0, 0, 0, 0, none, []),
  (40, .aload_n 0, 41, 0, 0, 0, 0, 0, none, []),
  (41, .getfield 137, 44, 6, 15, 0, 0, 0, none, []),
  (44, .iconst 1, 45, 0, 0, 0, 0, 1, none, []),
  (45, .isub, 46, 0, 0, 0, 0, 0, none, []),
  (46, .istore_n 2, 47, 2, 0, 0, 0, 0, none, []),
  (47, .aload_n 0, 48, 0, 0, 0, 0, 0, none, [])]
theorem oX6_nextRow_2 : ∀ q ∈ tX6_nextRow_2, hy_ok mX6_nextRow q.1 q.2 = true := by decide +kernel
def tX6_nextRow_3 : List (Nat × hyE) := [(48, .getfield 78, 51, 6, 31, 0, 0, 0, none, []),
  (51, .iload_n 2, 52, 2, 0, 0, 0, 0, none, []),
  (52, .iaload, 53, 0, 0, 0, 0, 0, none, []),
  (53, .aload_n 0, 54, 0, 0, 0, 0, 0, none, []),
  (54, .getfield 78, 57, 6, 31, 0, 0, 0, none, []),
  (57, .iload_n 1, 58, 1, 0, 0, 0, 0, none, []),
  (58, .iaload, 59, 0, 0, 0, 0, 0, none, []),
  (59, .if_icmp .ge 9, 62, 68, 0, 0, 0, 0, none, []),
  (62, .iinc 2 (-1), 65, 2, 0, 0, 0, (-1), none, [])]
theorem oX6_nextRow_3 : ∀ q ∈ tX6_nextRow_3, hy_ok mX6_nextRow q.1 q.2 = true := by decide +kernel
def tX6_nextRow_4 : List (Nat × hyE) := [(65, .goto (-18), 68, 47, 0, 0, 0, 0, none, []),
  (68, .aload_n 0, 69, 0, 0, 0, 0, 0, none, []),
  (69, .iload_n 1, 70, 1, 0, 0, 0, 0, none, []),
  (70, .iload_n 2, 71, 2, 0, 0, 0, 0, none, []),
  (71, .invokevirtual 143, 74, 0, 2, 0, 6, 0, (some mX6_swaps), []),
  (74, .aload_n 0, 75, 0, 0, 0, 0, 0, none, []),
  (75, .getfield 137, 78, 6, 15, 0, 0, 0, none, []),
  (78, .iconst 1, 79, 0, 0, 0, 0, 1, none, []),
  (79, .isub, 80, 0, 0, 0, 0, 0, none, [])]
theorem oX6_nextRow_4 : ∀ q ∈ tX6_nextRow_4, hy_ok mX6_nextRow q.1 q.2 = true := by decide +kernel
def tX6_nextRow_5 : List (Nat × hyE) := [(80, .istore_n 3, 81, 3, 0, 0, 0, 0, none, []),
  (81, .iload_n 1, 82, 1, 0, 0, 0, 0, none, []),
  (82, .iconst 1, 83, 0, 0, 0, 0, 1, none, []),
  (83, .iadd, 84, 0, 0, 0, 0, 0, none, []),
  (84, .istore 4, 86, 4, 0, 0, 0, 0, none, []),
  (86, .iload 4, 88, 4, 0, 0, 0, 0, none, []),
  (88, .iload_n 3, 89, 3, 0, 0, 0, 0, none, []),
  (89, .if_icmp .ge 19, 92, 108, 0, 0, 0, 0, none, []),
  (92, .aload_n 0, 93, 0, 0, 0, 0, 0, none, []),
  (93, .iload 4, 95, 4, 0, 0, 0, 0, none, []),
  (95, .iload_n 3, 96, 3, 0, 0, 0, 0, none, [])]
theorem oX6_nextRow_5 : ∀ q ∈ tX6_nextRow_5, hy_ok mX6_nextRow q.1 q.2 = true := by decide +kernel
def tX6_nextRow_6 : List (Nat × hyE) := [(96, .invokevirtual 143, 99, 0, 2, 0, 6, 0, (some mX6_swaps), []),
  (99, .iinc 3 (-1), 102, 3, 0, 0, 0, (-1), none, []),
  (102, .iinc 4 1, 105, 4, 0, 0, 0, 1, none, []),
  (105, .goto (-19), 108, 86, 0, 0, 0, 0, none, []),
  (108, .iconst 1, 109, 0, 0, 0, 0, 1, none, []),
  (109, .ireturn, 110, 0, 0, 0, 0, 0, none, [])]
theorem oX6_nextRow_6 : ∀ q ∈ tX6_nextRow_6, hy_ok mX6_nextRow q.1 q.2 = true := by decide +kernel
def tX6_nextRow : hyT := [tX6_nextRow_0, tX6_nextRow_1, tX6_nextRow_2, tX6_nextRow_3, tX6_nextRow_4, tX6_nextRow_5, tX6_nextRow_6]
theorem oX6_nextRow : hy_tok mX6_nextRow tX6_nextRow := List.forall_mem_cons.mpr ⟨oX6_nextRow_0, List.forall_mem_cons.mpr ⟨oX6_nextRow_1, List.forall_mem_cons.mpr ⟨oX6_nextRow_2, List.forall_mem_cons.mpr ⟨oX6_nextRow_3, List.forall_mem_cons.mpr ⟨oX6_nextRow_4, List.forall_mem_cons.mpr ⟨oX6_nextRow_5, List.forall_mem_cons.mpr ⟨oX6_nextRow_6, fun _ h => absurd h List.not_mem_nil⟩⟩⟩⟩⟩⟩⟩
def tX6_swaps_0 : List (Nat × hyE) := [(0, .aload_n 0, 1, 0, 0, 0, 0, 0, none, []),
  (1, .getfield 78, 4, 6, 31, 0, 0, 0, none, []),
  (4, .iload_n 1, 5, 1, 0, 0, 0, 0, none, []),
  (5, .iaload, 6, 0, 0, 0, 0, 0, none, []),
  (6, .istore_n 3, 7, 3, 0, 0, 0, 0, none, []),
  (7, .aload_n 0, 8, 0, 0, 0, 0, 0, none, []),
  (8, .getfield 78, 11, 6, 31, 0, 0, 0, none, []),
  (11, .iload_n 1, 12, 1, 0, 0, 0, 0, none, []),
  (12, .aload_n 0, 13, 0, 0, 0, 0, 0, none, []),
  (13, .getfield 78, 16, 6, 31, 0, 0, 0, none, [])]
theorem oX6_swaps_0 : ∀ q ∈ tX6_swaps_0, hy_ok mX6_swaps q.1 q.2 = true := by decide +kernel
def tX6_swaps_1 : List (Nat × hyE) := [(16, .iload_n 2, 17, 2, 0, 0, 0, 0, none, []),
  (17, .iaload, 18, 0, 0, 0, 0, 0, none, []),
  (18, .iastore, 19, 0, 0, 0, 0, 0, none, []),
  (19, .aload_n 0, 20, 0, 0, 0, 0, 0, none, []),
  (20, .getfield 78, 23, 6, 31, 0, 0, 0, none, []),
  (23, .iload_n 2, 24, 2, 0, 0, 0, 0, none, []),
  (24, .iload_n 3, 25, 3, 0, 0, 0, 0, none, []),
  (25, .iastore, 26, 0, 0, 0, 0, 0, none, []),
  (26, .return_, 27, 0, 0, 0, 0, 0, none, [])]
theorem oX6_swaps_1 : ∀ q ∈ tX6_swaps_1, hy_ok mX6_swaps q.1 q.2 = true := by decide +kernel
def tX6_swaps : hyT := [tX6_swaps_0, tX6_swaps_1]
theorem oX6_swaps : hy_tok mX6_swaps tX6_swaps := List.forall_mem_cons.mpr ⟨oX6_swaps_0, List.forall_mem_cons.mpr ⟨oX6_swaps_1, fun _ h => absurd h List.not_mem_nil⟩⟩
def tX6_spins_0 : List (Nat × hyE) := [(0, .iconst 0, 1, 0, 0, 0, 0, 0, none, []),
  (1, .istore_n 1, 2, 1, 0, 0, 0, 0, none, []),
  (2, .iload_n 1, 3, 1, 0, 0, 0, 0, none, []),
  (3, .aload_n 0, 4, 0, 0, 0, 0, 0, none, []),
  (4, .getfield 137, 7, 6, 15, 0, 0, 0, none, []),
  (7, .if_icmp .ge 16, 10, 23, 0, 0, 0, 0, none, []),
  (10, .aload_n 0, 11, 0, 0, 0, 0, 0, none, []),
  (11, .getfield 78, 14, 6, 31, 0, 0, 0, none, []),
  (14, .iload_n 1, 15, 1, 0, 0, 0, 0, none, []),
  (15, .iload_n 1, 16, 1, 0, 0, 0, 0, none, [])]
theorem oX6_spins_0 : ∀ q ∈ tX6_spins_0, hy_ok mX6_spins q.1 q.2 = true := by decide +kernel
def tX6_spins_1 : List (Nat × hyE) := [(16, .iastore, 17, 0, 0, 0, 0, 0, none, []),
  (17, .iinc 1 1, 20, 1, 0, 0, 0, 1, none, []),
  (20, .goto (-18), 23, 2, 0, 0, 0, 0, none, []),
  (23, .ldc 147, 25, 0, 0, 0, 0, 1000000000, none, []),
  (25, .istore_n 1, 26, 1, 0, 0, 0, 0, none, []),
  (26, .iconst 1, 27, 0, 0, 0, 0, 1, none, []),
  (27, .istore_n 2, 28, 2, 0, 0, 0, 0, none, []),
  (28, .iload_n 2, 29, 2, 0, 0, 0, 0, none, []),
  (29, .ifCond .eq 68, 32, 97, 0, 0, 0, 0, none, [])]
theorem oX6_spins_1 : ∀ q ∈ tX6_spins_1, hy_ok mX6_spins q.1 q.2 = true := by decide +kernel
def tX6_spins_2 : List (Nat × hyE) := [(32, .aload_n 0, 33, 0, 0, 0, 0, 0, none, []),
  (33, .aload_n 0, 34, 0, 0, 0, 0, 0, none, []),
  (34, .getfield 137, 37, 6, 15, 0, 0, 0, none, []),
  (37, .iconst 1, 38, 0, 0, 0, 0, 1, none, []),
  (38, .isub, 39, 0, 0, 0, 0, 0, none, []),
  (39, .iconst 0, 40, 0, 0, 0, 0, 0, none, []),
  (40, .invokevirtual 148, 43, 0, 2, 0, 6, 0, (some mX6_endOf), []),
  (43, .istore_n 3, 44, 3, 0, 0, 0, 0, none, []),
  (44, .aload_n 0, 45, 0, 0, 0, 0, 0, none, []),
  (45, .getfield 140, 48, 6, 33, 0, 0, 0, none, [])]
theorem oX6_spins_2 : ∀ q ∈ tX6_spins_2, hy_ok mX6_spins q.1 q.2 = true := by decide +kernel
def tX6_spins_3 : List (Nat × hyE) := [(48, .iload_n 1, 49, 1, 0, 0, 0, 0, none, []),
  (49, .if_icmp .ge 40, 52, 89, 0, 0, 0, 0, none, []),
  (52, .aload_n 0, 53, 0, 0, 0, 0, 0, none, []),
  (53, .getfield 140, 56, 6, 33, 0, 0, 0, none, []),
  (56, .istore_n 1, 57, 1, 0, 0, 0, 0, none, []),
  (57, .iconst 0, 58, 0, 0, 0, 0, 0, none, []),
  (58, .istore 4, 60, 4, 0, 0, 0, 0, none, []),
  (60, .iload 4, 62, 4, 0, 0, 0, 0, none, []),
  (62, .aload_n 0, 63, 0, 0, 0, 0, 0, none, []),
  (63, .getfield 137, 66, 6, 15, 0, 0, 0, none, [])]
theorem oX6_spins_3 : ∀ q ∈ tX6_spins_3, hy_ok mX6_spins q.1 q.2 = true := by decide +kernel
def tX6_spins_4 : List (Nat × hyE) := [(66, .if_icmp .ge 23, 69, 89, 0, 0, 0, 0, none, []),
  (69, .aload_n 0, 70, 0, 0, 0, 0, 0, none, []),
  (70, .getfield 81, 73, 6, 32, 0, 0, 0, none, []),
  (73, .iload 4, 75, 4, 0, 0, 0, 0, none, []),
  (75, .aload_n 0, 76, 0, 0, 0, 0, 0, none, []),
  (76, .getfield 78, 79, 6, 31, 0, 0, 0, none, []),
  (79, .iload 4, 81, 4, 0, 0, 0, 0, none, [])]
theorem oX6_spins_4 : ∀ q ∈ tX6_spins_4, hy_ok mX6_spins q.1 q.2 = true := by decide +kernel
def tX6_spins_5 : List (Nat × hyE) := [(81, .iaload, 82, 0, 0, 0, 0, 0, none, []),
  (82, .iastore, 83, 0, 0, 0, 0, 0, none, []),
  (83, .iinc 4 1, 86, 4, 0, 0, 0, 1, none, []),
  (86, .goto (-26), 89, 60, 0, 0, 0, 0, none, []),
  (89, .aload_n 0, 90, 0, 0, 0, 0, 0, none, []),
  (90, .invokevirtual 152, 93, 0, 0, 0, 6, 0, (some mX6_nextRow), []),
  (93, .istore_n 2, 94, 2, 0, 0, 0, 0, none, []),
  (94, .goto (-66), 97, 28, 0, 0, 0, 0, none, [])]
theorem oX6_spins_5 : ∀ q ∈ tX6_spins_5, hy_ok mX6_spins q.1 q.2 = true := by decide +kernel
def tX6_spins_6 : List (Nat × hyE) := [(97, .iload_n 1, 98, 1, 0, 0, 0, 0, none, []),
  (98, .ireturn, 99, 0, 0, 0, 0, 0, none, [])]
theorem oX6_spins_6 : ∀ q ∈ tX6_spins_6, hy_ok mX6_spins q.1 q.2 = true := by decide +kernel
def tX6_spins : hyT := [tX6_spins_0, tX6_spins_1, tX6_spins_2, tX6_spins_3, tX6_spins_4, tX6_spins_5, tX6_spins_6]
theorem oX6_spins : hy_tok mX6_spins tX6_spins := List.forall_mem_cons.mpr ⟨oX6_spins_0, List.forall_mem_cons.mpr ⟨oX6_spins_1, List.forall_mem_cons.mpr ⟨oX6_spins_2, List.forall_mem_cons.mpr ⟨oX6_spins_3, List.forall_mem_cons.mpr ⟨oX6_spins_4, List.forall_mem_cons.mpr ⟨oX6_spins_5, List.forall_mem_cons.mpr ⟨oX6_spins_6, fun _ h => absurd h List.not_mem_nil⟩⟩⟩⟩⟩⟩⟩
def tX6_late_0 : List (Nat × hyE) := [(0, .aload_n 0, 1, 0, 0, 0, 0, 0, none, []),
  (1, .invokevirtual 156, 4, 0, 0, 0, 6, 0, (some mX6_spins), []),
  (4, .ireturn, 5, 0, 0, 0, 0, 0, none, [])]
theorem oX6_late_0 : ∀ q ∈ tX6_late_0, hy_ok mX6_late q.1 q.2 = true := by decide +kernel
def tX6_late : hyT := [tX6_late_0]
theorem oX6_late : hy_tok mX6_late tX6_late := List.forall_mem_cons.mpr ⟨oX6_late_0, fun _ h => absurd h List.not_mem_nil⟩
def tX6_spun_0 : List (Nat × hyE) := [(0, .iload_n 1, 1, 1, 0, 0, 0, 0, none, []),
  (1, .iconst 0, 2, 0, 0, 0, 0, 0, none, []),
  (2, .aload_n 0, 3, 0, 0, 0, 0, 0, none, []),
  (3, .getfield 137, 6, 6, 15, 0, 0, 0, none, []),
  (6, .iconst 1, 7, 0, 0, 0, 0, 1, none, []),
  (7, .isub, 8, 0, 0, 0, 0, 0, none, []),
  (8, .invokestatic 93, 11, 2, 3, 0, 0, 0, (some mX6_in), []),
  (11, .ifCond .eq 12, 14, 23, 0, 0, 0, 0, none, []),
  (14, .iload_n 2, 15, 2, 0, 0, 0, 0, none, []),
  (15, .iconst 0, 16, 0, 0, 0, 0, 0, none, [])]
theorem oX6_spun_0 : ∀ q ∈ tX6_spun_0, hy_ok mX6_spun q.1 q.2 = true := by decide +kernel
def tX6_spun_1 : List (Nat × hyE) := [(16, .iconst 1, 17, 0, 0, 0, 0, 1, none, []),
  (17, .invokestatic 93, 20, 2, 3, 0, 0, 0, (some mX6_in), []),
  (20, .ifCond .ne 5, 23, 25, 0, 0, 0, 0, none, []),
  (23, .iconst (-1), 24, 0, 0, 0, 0, (-1), none, []),
  (24, .ireturn, 25, 0, 0, 0, 0, 0, none, []),
  (25, .aload_n 0, 26, 0, 0, 0, 0, 0, none, []),
  (26, .invokevirtual 156, 29, 0, 0, 0, 6, 0, (some mX6_spins), []),
  (29, .istore_n 3, 30, 3, 0, 0, 0, 0, none, []),
  (30, .iload_n 2, 31, 2, 0, 0, 0, 0, none, []),
  (31, .ifCond .ne 12, 34, 43, 0, 0, 0, 0, none, [])]
theorem oX6_spun_1 : ∀ q ∈ tX6_spun_1, hy_ok mX6_spun q.1 q.2 = true := by decide +kernel
def tX6_spun_2 : List (Nat × hyE) := [(34, .aload_n 0, 35, 0, 0, 0, 0, 0, none, []),
  (35, .getfield 81, 38, 6, 32, 0, 0, 0, none, []),
  (38, .iload_n 1, 39, 1, 0, 0, 0, 0, none, []),
  (39, .iaload, 40, 0, 0, 0, 0, 0, none, []),
  (40, .goto 9, 43, 49, 0, 0, 0, 0, none, []),
  (43, .aload_n 0, 44, 0, 0, 0, 0, 0, none, []),
  (44, .iload_n 1, 45, 1, 0, 0, 0, 0, none, []),
  (45, .iconst 1, 46, 0, 0, 0, 0, 1, none, []),
  (46, .invokevirtual 148, 49, 0, 2, 0, 6, 0, (some mX6_endOf), [])]
theorem oX6_spun_2 : ∀ q ∈ tX6_spun_2, hy_ok mX6_spun q.1 q.2 = true := by decide +kernel
def tX6_spun_3 : List (Nat × hyE) := [(49, .ireturn, 50, 0, 0, 0, 0, 0, none, [])]
theorem oX6_spun_3 : ∀ q ∈ tX6_spun_3, hy_ok mX6_spun q.1 q.2 = true := by decide +kernel
def tX6_spun : hyT := [tX6_spun_0, tX6_spun_1, tX6_spun_2, tX6_spun_3]
theorem oX6_spun : hy_tok mX6_spun tX6_spun := List.forall_mem_cons.mpr ⟨oX6_spun_0, List.forall_mem_cons.mpr ⟨oX6_spun_1, List.forall_mem_cons.mpr ⟨oX6_spun_2, List.forall_mem_cons.mpr ⟨oX6_spun_3, fun _ h => absurd h List.not_mem_nil⟩⟩⟩⟩
def tX6_clear_0 : List (Nat × hyE) := [(0, .aload_n 0, 1, 0, 0, 0, 0, 0, none, []),
  (1, .getfield 137, 4, 6, 15, 0, 0, 0, none, []),
  (4, .istore_n 1, 5, 1, 0, 0, 0, 0, none, []),
  (5, .aload_n 0, 6, 0, 0, 0, 0, 0, none, []),
  (6, .iconst 0, 7, 0, 0, 0, 0, 0, none, []),
  (7, .putfield 137, 10, 6, 15, 0, 0, 0, none, []),
  (10, .iload_n 1, 11, 1, 0, 0, 0, 0, none, []),
  (11, .ireturn, 12, 0, 0, 0, 0, 0, none, [])]
theorem oX6_clear_0 : ∀ q ∈ tX6_clear_0, hy_ok mX6_clear q.1 q.2 = true := by decide +kernel
def tX6_clear : hyT := [tX6_clear_0]
theorem oX6_clear : hy_tok mX6_clear tX6_clear := List.forall_mem_cons.mpr ⟨oX6_clear_0, fun _ h => absurd h List.not_mem_nil⟩
def tX6_roll_0 : List (Nat × hyE) := [(0, .iload_n 1, 1, 1, 0, 0, 0, 0, none, []),
  (1, .iconst 1, 2, 0, 0, 0, 0, 1, none, []),
  (2, .sipush 1000, 5, 0, 0, 0, 0, 1000, none, []),
  (5, .invokestatic 93, 8, 2, 3, 0, 0, 0, (some mX6_in), []),
  (8, .ifCond .eq 21, 11, 29, 0, 0, 0, 0, none, []),
  (11, .iload_n 2, 12, 2, 0, 0, 0, 0, none, []),
  (12, .iconst 0, 13, 0, 0, 0, 0, 0, none, []),
  (13, .iconst 2, 14, 0, 0, 0, 0, 2, none, []),
  (14, .invokestatic 93, 17, 2, 3, 0, 0, 0, (some mX6_in), [])]
theorem oX6_roll_0 : ∀ q ∈ tX6_roll_0, hy_ok mX6_roll q.1 q.2 = true := by decide +kernel
def tX6_roll_1 : List (Nat × hyE) := [(17, .ifCond .eq 12, 20, 29, 0, 0, 0, 0, none, []),
  (20, .aload_n 0, 21, 0, 0, 0, 0, 0, none, []),
  (21, .getfield 160, 24, 6, 21, 0, 0, 0, none, []),
  (24, .bipush 6, 26, 0, 0, 0, 0, 6, none, []),
  (26, .if_icmp .ne 5, 29, 31, 0, 0, 0, 0, none, []),
  (29, .iconst (-1), 30, 0, 0, 0, 0, (-1), none, []),
  (30, .ireturn, 31, 0, 0, 0, 0, 0, none, []),
  (31, .aload_n 0, 32, 0, 0, 0, 0, 0, none, [])]
theorem oX6_roll_1 : ∀ q ∈ tX6_roll_1, hy_ok mX6_roll q.1 q.2 = true := by decide +kernel
def tX6_roll_2 : List (Nat × hyE) := [(32, .getfield 56, 35, 6, 22, 0, 0, 0, none, []),
  (35, .aload_n 0, 36, 0, 0, 0, 0, 0, none, []),
  (36, .getfield 160, 39, 6, 21, 0, 0, 0, none, []),
  (39, .iload_n 1, 40, 1, 0, 0, 0, 0, none, []),
  (40, .iastore, 41, 0, 0, 0, 0, 0, none, []),
  (41, .aload_n 0, 42, 0, 0, 0, 0, 0, none, []),
  (42, .getfield 59, 45, 6, 23, 0, 0, 0, none, []),
  (45, .aload_n 0, 46, 0, 0, 0, 0, 0, none, []),
  (46, .getfield 160, 49, 6, 21, 0, 0, 0, none, [])]
theorem oX6_roll_2 : ∀ q ∈ tX6_roll_2, hy_ok mX6_roll q.1 q.2 = true := by decide +kernel
def tX6_roll_3 : List (Nat × hyE) := [(49, .iload_n 2, 50, 2, 0, 0, 0, 0, none, []),
  (50, .iastore, 51, 0, 0, 0, 0, 0, none, []),
  (51, .aload_n 0, 52, 0, 0, 0, 0, 0, none, []),
  (52, .dup, 53, 0, 0, 0, 0, 0, none, []),
  (53, .getfield 160, 56, 6, 21, 0, 0, 0, none, []),
  (56, .iconst 1, 57, 0, 0, 0, 0, 1, none, []),
  (57, .iadd, 58, 0, 0, 0, 0, 0, none, []),
  (58, .putfield 160, 61, 6, 21, 0, 0, 0, none, []),
  (61, .aload_n 0, 62, 0, 0, 0, 0, 0, none, []),
  (62, .getfield 160, 65, 6, 21, 0, 0, 0, none, [])]
theorem oX6_roll_3 : ∀ q ∈ tX6_roll_3, hy_ok mX6_roll q.1 q.2 = true := by decide +kernel
def tX6_roll_4 : List (Nat × hyE) := [(65, .iconst 1, 66, 0, 0, 0, 0, 1, none, []),
  (66, .isub, 67, 0, 0, 0, 0, 0, none, []),
  (67, .ireturn, 68, 0, 0, 0, 0, 0, none, [])]
theorem oX6_roll_4 : ∀ q ∈ tX6_roll_4, hy_ok mX6_roll q.1 q.2 = true := by decide +kernel
def tX6_roll : hyT := [tX6_roll_0, tX6_roll_1, tX6_roll_2, tX6_roll_3, tX6_roll_4]
theorem oX6_roll : hy_tok mX6_roll tX6_roll := List.forall_mem_cons.mpr ⟨oX6_roll_0, List.forall_mem_cons.mpr ⟨oX6_roll_1, List.forall_mem_cons.mpr ⟨oX6_roll_2, List.forall_mem_cons.mpr ⟨oX6_roll_3, List.forall_mem_cons.mpr ⟨oX6_roll_4, fun _ h => absurd h List.not_mem_nil⟩⟩⟩⟩⟩
def tX6_cut_0 : List (Nat × hyE) := [(0, .iload_n 1, 1, 1, 0, 0, 0, 0, none, []),
  (1, .iconst 1, 2, 0, 0, 0, 0, 1, none, []),
  (2, .sipush 500, 5, 0, 0, 0, 0, 500, none, []),
  (5, .invokestatic 93, 8, 2, 3, 0, 0, 0, (some mX6_in), []),
  (8, .ifCond .eq 21, 11, 29, 0, 0, 0, 0, none, []),
  (11, .iload_n 2, 12, 2, 0, 0, 0, 0, none, []),
  (12, .iconst 0, 13, 0, 0, 0, 0, 0, none, []),
  (13, .iconst 3, 14, 0, 0, 0, 0, 3, none, []),
  (14, .invokestatic 93, 17, 2, 3, 0, 0, 0, (some mX6_in), [])]
theorem oX6_cut_0 : ∀ q ∈ tX6_cut_0, hy_ok mX6_cut q.1 q.2 = true := by decide +kernel
def tX6_cut_1 : List (Nat × hyE) := [(17, .ifCond .eq 12, 20, 29, 0, 0, 0, 0, none, []),
  (20, .aload_n 0, 21, 0, 0, 0, 0, 0, none, []),
  (21, .getfield 163, 24, 6, 24, 0, 0, 0, none, []),
  (24, .bipush 8, 26, 0, 0, 0, 0, 8, none, []),
  (26, .if_icmp .ne 5, 29, 31, 0, 0, 0, 0, none, []),
  (29, .iconst (-1), 30, 0, 0, 0, 0, (-1), none, []),
  (30, .ireturn, 31, 0, 0, 0, 0, 0, none, []),
  (31, .aload_n 0, 32, 0, 0, 0, 0, 0, none, [])]
theorem oX6_cut_1 : ∀ q ∈ tX6_cut_1, hy_ok mX6_cut q.1 q.2 = true := by decide +kernel
def tX6_cut_2 : List (Nat × hyE) := [(32, .getfield 62, 35, 6, 25, 0, 0, 0, none, []),
  (35, .aload_n 0, 36, 0, 0, 0, 0, 0, none, []),
  (36, .getfield 163, 39, 6, 24, 0, 0, 0, none, []),
  (39, .iload_n 1, 40, 1, 0, 0, 0, 0, none, []),
  (40, .iastore, 41, 0, 0, 0, 0, 0, none, []),
  (41, .aload_n 0, 42, 0, 0, 0, 0, 0, none, []),
  (42, .getfield 65, 45, 6, 26, 0, 0, 0, none, []),
  (45, .aload_n 0, 46, 0, 0, 0, 0, 0, none, []),
  (46, .getfield 163, 49, 6, 24, 0, 0, 0, none, [])]
theorem oX6_cut_2 : ∀ q ∈ tX6_cut_2, hy_ok mX6_cut q.1 q.2 = true := by decide +kernel
def tX6_cut_3 : List (Nat × hyE) := [(49, .iload_n 2, 50, 2, 0, 0, 0, 0, none, []),
  (50, .iastore, 51, 0, 0, 0, 0, 0, none, []),
  (51, .aload_n 0, 52, 0, 0, 0, 0, 0, none, []),
  (52, .dup, 53, 0, 0, 0, 0, 0, none, []),
  (53, .getfield 163, 56, 6, 24, 0, 0, 0, none, []),
  (56, .iconst 1, 57, 0, 0, 0, 0, 1, none, []),
  (57, .iadd, 58, 0, 0, 0, 0, 0, none, []),
  (58, .putfield 163, 61, 6, 24, 0, 0, 0, none, []),
  (61, .aload_n 0, 62, 0, 0, 0, 0, 0, none, []),
  (62, .getfield 163, 65, 6, 24, 0, 0, 0, none, [])]
theorem oX6_cut_3 : ∀ q ∈ tX6_cut_3, hy_ok mX6_cut q.1 q.2 = true := by decide +kernel
def tX6_cut_4 : List (Nat × hyE) := [(65, .iconst 1, 66, 0, 0, 0, 0, 1, none, []),
  (66, .isub, 67, 0, 0, 0, 0, 0, none, []),
  (67, .ireturn, 68, 0, 0, 0, 0, 0, none, [])]
theorem oX6_cut_4 : ∀ q ∈ tX6_cut_4, hy_ok mX6_cut q.1 q.2 = true := by decide +kernel
def tX6_cut : hyT := [tX6_cut_0, tX6_cut_1, tX6_cut_2, tX6_cut_3, tX6_cut_4]
theorem oX6_cut : hy_tok mX6_cut tX6_cut := List.forall_mem_cons.mpr ⟨oX6_cut_0, List.forall_mem_cons.mpr ⟨oX6_cut_1, List.forall_mem_cons.mpr ⟨oX6_cut_2, List.forall_mem_cons.mpr ⟨oX6_cut_3, List.forall_mem_cons.mpr ⟨oX6_cut_4, fun _ h => absurd h List.not_mem_nil⟩⟩⟩⟩⟩
def tX6_cutOf_0 : List (Nat × hyE) := [(0, .iconst 0, 1, 0, 0, 0, 0, 0, none, []),
  (1, .istore_n 3, 2, 3, 0, 0, 0, 0, none, []),
  (2, .iconst 0, 3, 0, 0, 0, 0, 0, none, []),
  (3, .istore 4, 5, 4, 0, 0, 0, 0, none, []),
  (5, .iload 4, 7, 4, 0, 0, 0, 0, none, []),
  (7, .iload_n 2, 8, 2, 0, 0, 0, 0, none, []),
  (8, .if_icmp .ge 34, 11, 42, 0, 0, 0, 0, none, []),
  (11, .iload_n 3, 12, 3, 0, 0, 0, 0, none, []),
  (12, .aload_n 0, 13, 0, 0, 0, 0, 0, none, []),
  (13, .getfield 84, 16, 6, 34, 0, 0, 0, none, [])]
theorem oX6_cutOf_0 : ∀ q ∈ tX6_cutOf_0, hy_ok mX6_cutOf q.1 q.2 = true := by decide +kernel
def tX6_cutOf_1 : List (Nat × hyE) := [(16, .iload 4, 18, 4, 0, 0, 0, 0, none, []),
  (18, .iaload, 19, 0, 0, 0, 0, 0, none, []),
  (19, .iload_n 1, 20, 1, 0, 0, 0, 0, none, []),
  (20, .if_icmp .ne 13, 23, 33, 0, 0, 0, 0, none, []),
  (23, .aload_n 0, 24, 0, 0, 0, 0, 0, none, []),
  (24, .getfield 62, 27, 6, 25, 0, 0, 0, none, []),
  (27, .iload 4, 29, 4, 0, 0, 0, 0, none, []),
  (29, .iaload, 30, 0, 0, 0, 0, 0, none, []),
  (30, .goto 4, 33, 34, 0, 0, 0, 0, none, [])]
theorem oX6_cutOf_1 : ∀ q ∈ tX6_cutOf_1, hy_ok mX6_cutOf q.1 q.2 = true := by decide +kernel
def tX6_cutOf_2 : List (Nat × hyE) := [(33, .iconst 0, 34, 0, 0, 0, 0, 0, none, []),
  (34, .iadd, 35, 0, 0, 0, 0, 0, none, []),
  (35, .istore_n 3, 36, 3, 0, 0, 0, 0, none, []),
  (36, .iinc 4 1, 39, 4, 0, 0, 0, 1, none, []),
  (39, .goto (-34), 42, 5, 0, 0, 0, 0, none, []),
  (42, .iload_n 3, 43, 3, 0, 0, 0, 0, none, []),
  (43, .ireturn, 44, 0, 0, 0, 0, 0, none, [])]
theorem oX6_cutOf_2 : ∀ q ∈ tX6_cutOf_2, hy_ok mX6_cutOf q.1 q.2 = true := by decide +kernel
def tX6_cutOf : hyT := [tX6_cutOf_0, tX6_cutOf_1, tX6_cutOf_2]
theorem oX6_cutOf : hy_tok mX6_cutOf tX6_cutOf := List.forall_mem_cons.mpr ⟨oX6_cutOf_0, List.forall_mem_cons.mpr ⟨oX6_cutOf_1, List.forall_mem_cons.mpr ⟨oX6_cutOf_2, fun _ h => absurd h List.not_mem_nil⟩⟩⟩
def tX6_openedBy_0 : List (Nat × hyE) := [(0, .iconst 0, 1, 0, 0, 0, 0, 0, none, []),
  (1, .istore_n 2, 2, 2, 0, 0, 0, 0, none, []),
  (2, .iconst 0, 3, 0, 0, 0, 0, 0, none, []),
  (3, .istore_n 3, 4, 3, 0, 0, 0, 0, none, []),
  (4, .iload_n 3, 5, 3, 0, 0, 0, 0, none, []),
  (5, .aload_n 0, 6, 0, 0, 0, 0, 0, none, []),
  (6, .getfield 160, 9, 6, 21, 0, 0, 0, none, []),
  (9, .if_icmp .ge 31, 12, 40, 0, 0, 0, 0, none, []),
  (12, .iload_n 2, 13, 2, 0, 0, 0, 0, none, []),
  (13, .aload_n 0, 14, 0, 0, 0, 0, 0, none, []),
  (14, .iload_n 3, 15, 3, 0, 0, 0, 0, none, []),
  (15, .iload_n 1, 16, 1, 0, 0, 0, 0, none, [])]
theorem oX6_openedBy_0 : ∀ q ∈ tX6_openedBy_0, hy_ok mX6_openedBy q.1 q.2 = true := by decide +kernel
def tX6_openedBy_1 : List (Nat × hyE) := [(16, .invokevirtual 166, 19, 0, 2, 0, 6, 0, (some mX6_cutOf), []),
  (19, .ifCond .le 12, 22, 31, 0, 0, 0, 0, none, []),
  (22, .aload_n 0, 23, 0, 0, 0, 0, 0, none, []),
  (23, .getfield 56, 26, 6, 22, 0, 0, 0, none, []),
  (26, .iload_n 3, 27, 3, 0, 0, 0, 0, none, []),
  (27, .iaload, 28, 0, 0, 0, 0, 0, none, []),
  (28, .goto 4, 31, 32, 0, 0, 0, 0, none, []),
  (31, .iconst 0, 32, 0, 0, 0, 0, 0, none, [])]
theorem oX6_openedBy_1 : ∀ q ∈ tX6_openedBy_1, hy_ok mX6_openedBy q.1 q.2 = true := by decide +kernel
def tX6_openedBy_2 : List (Nat × hyE) := [(32, .iadd, 33, 0, 0, 0, 0, 0, none, []),
  (33, .istore_n 2, 34, 2, 0, 0, 0, 0, none, []),
  (34, .iinc 3 1, 37, 3, 0, 0, 0, 1, none, []),
  (37, .goto (-33), 40, 4, 0, 0, 0, 0, none, []),
  (40, .iload_n 2, 41, 2, 0, 0, 0, 0, none, []),
  (41, .ireturn, 42, 0, 0, 0, 0, 0, none, [])]
theorem oX6_openedBy_2 : ∀ q ∈ tX6_openedBy_2, hy_ok mX6_openedBy q.1 q.2 = true := by decide +kernel
def tX6_openedBy : hyT := [tX6_openedBy_0, tX6_openedBy_1, tX6_openedBy_2]
theorem oX6_openedBy : hy_tok mX6_openedBy tX6_openedBy := List.forall_mem_cons.mpr ⟨oX6_openedBy_0, List.forall_mem_cons.mpr ⟨oX6_openedBy_1, List.forall_mem_cons.mpr ⟨oX6_openedBy_2, fun _ h => absurd h List.not_mem_nil⟩⟩⟩
def tX6_mayLie_0 : List (Nat × hyE) := [(0, .iload_n 1, 1, 1, 0, 0, 0, 0, none, []),
  (1, .iconst 1, 2, 0, 0, 0, 0, 1, none, []),
  (2, .isub, 3, 0, 0, 0, 0, 0, none, []),
  (3, .istore_n 2, 4, 2, 0, 0, 0, 0, none, []),
  (4, .aload_n 0, 5, 0, 0, 0, 0, 0, none, []),
  (5, .aload_n 0, 6, 0, 0, 0, 0, 0, none, []),
  (6, .getfield 84, 9, 6, 34, 0, 0, 0, none, []),
  (9, .iload_n 2, 10, 2, 0, 0, 0, 0, none, []),
  (10, .iaload, 11, 0, 0, 0, 0, 0, none, []),
  (11, .iload_n 1, 12, 1, 0, 0, 0, 0, none, []),
  (12, .invokevirtual 166, 15, 0, 2, 0, 6, 0, (some mX6_cutOf), []),
  (15, .aload_n 0, 16, 0, 0, 0, 0, 0, none, [])]
theorem oX6_mayLie_0 : ∀ q ∈ tX6_mayLie_0, hy_ok mX6_mayLie q.1 q.2 = true := by decide +kernel
def tX6_mayLie_1 : List (Nat × hyE) := [(16, .getfield 56, 19, 6, 22, 0, 0, 0, none, []),
  (19, .aload_n 0, 20, 0, 0, 0, 0, 0, none, []),
  (20, .getfield 84, 23, 6, 34, 0, 0, 0, none, []),
  (23, .iload_n 2, 24, 2, 0, 0, 0, 0, none, []),
  (24, .iaload, 25, 0, 0, 0, 0, 0, none, []),
  (25, .iaload, 26, 0, 0, 0, 0, 0, none, []),
  (26, .if_icmp .gt 7, 29, 33, 0, 0, 0, 0, none, []),
  (29, .iconst 1, 30, 0, 0, 0, 0, 1, none, []),
  (30, .goto 4, 33, 34, 0, 0, 0, 0, none, [])]
theorem oX6_mayLie_1 : ∀ q ∈ tX6_mayLie_1, hy_ok mX6_mayLie q.1 q.2 = true := by decide +kernel
def tX6_mayLie_2 : List (Nat × hyE) := [(33, .iconst 0, 34, 0, 0, 0, 0, 0, none, []),
  (34, .istore_n 3, 35, 3, 0, 0, 0, 0, none, []),
  (35, .iconst 0, 36, 0, 0, 0, 0, 0, none, []),
  (36, .istore 4, 38, 4, 0, 0, 0, 0, none, []),
  (38, .iload 4, 40, 4, 0, 0, 0, 0, none, []),
  (40, .iload_n 2, 41, 2, 0, 0, 0, 0, none, []),
  (41, .if_icmp .ge 61, 44, 102, 0, 0, 0, 0, none, []),
  (44, .iload_n 3, 45, 3, 0, 0, 0, 0, none, []),
  (45, .ifCond .eq 49, 48, 94, 0, 0, 0, 0, none, [])]
theorem oX6_mayLie_2 : ∀ q ∈ tX6_mayLie_2, hy_ok mX6_mayLie q.1 q.2 = true := by decide +kernel
def tX6_mayLie_3 : List (Nat × hyE) := [(48, .aload_n 0, 49, 0, 0, 0, 0, 0, none, []),
  (49, .getfield 65, 52, 6, 26, 0, 0, 0, none, []),
  (52, .iload 4, 54, 4, 0, 0, 0, 0, none, []),
  (54, .iaload, 55, 0, 0, 0, 0, 0, none, []),
  (55, .aload_n 0, 56, 0, 0, 0, 0, 0, none, []),
  (56, .getfield 65, 59, 6, 26, 0, 0, 0, none, []),
  (59, .iload_n 2, 60, 2, 0, 0, 0, 0, none, []),
  (60, .iaload, 61, 0, 0, 0, 0, 0, none, []),
  (61, .if_icmp .ne 29, 64, 90, 0, 0, 0, 0, none, [])]
theorem oX6_mayLie_3 : ∀ q ∈ tX6_mayLie_3, hy_ok mX6_mayLie q.1 q.2 = true := by decide +kernel
def tX6_mayLie_4 : List (Nat × hyE) := [(64, .aload_n 0, 65, 0, 0, 0, 0, 0, none, []),
  (65, .getfield 59, 68, 6, 23, 0, 0, 0, none, []),
  (68, .aload_n 0, 69, 0, 0, 0, 0, 0, none, []),
  (69, .getfield 84, 72, 6, 34, 0, 0, 0, none, []),
  (72, .iload 4, 74, 4, 0, 0, 0, 0, none, []),
  (74, .iaload, 75, 0, 0, 0, 0, 0, none, []),
  (75, .iaload, 76, 0, 0, 0, 0, 0, none, []),
  (76, .aload_n 0, 77, 0, 0, 0, 0, 0, none, []),
  (77, .getfield 59, 80, 6, 23, 0, 0, 0, none, [])]
theorem oX6_mayLie_4 : ∀ q ∈ tX6_mayLie_4, hy_ok mX6_mayLie q.1 q.2 = true := by decide +kernel
def tX6_mayLie_5 : List (Nat × hyE) := [(80, .aload_n 0, 81, 0, 0, 0, 0, 0, none, []),
  (81, .getfield 84, 84, 6, 34, 0, 0, 0, none, []),
  (84, .iload_n 2, 85, 2, 0, 0, 0, 0, none, []),
  (85, .iaload, 86, 0, 0, 0, 0, 0, none, []),
  (86, .iaload, 87, 0, 0, 0, 0, 0, none, []),
  (87, .if_icmp .ne 7, 90, 94, 0, 0, 0, 0, none, []),
  (90, .iconst 1, 91, 0, 0, 0, 0, 1, none, []),
  (91, .goto 4, 94, 95, 0, 0, 0, 0, none, []),
  (94, .iconst 0, 95, 0, 0, 0, 0, 0, none, []),
  (95, .istore_n 3, 96, 3, 0, 0, 0, 0, none, [])]
theorem oX6_mayLie_5 : ∀ q ∈ tX6_mayLie_5, hy_ok mX6_mayLie q.1 q.2 = true := by decide +kernel
def tX6_mayLie_6 : List (Nat × hyE) := [(96, .iinc 4 1, 99, 4, 0, 0, 0, 1, none, []),
  (99, .goto (-61), 102, 38, 0, 0, 0, 0, none, []),
  (102, .iload_n 3, 103, 3, 0, 0, 0, 0, none, []),
  (103, .ireturn, 104, 0, 0, 0, 0, 0, none, [])]
theorem oX6_mayLie_6 : ∀ q ∈ tX6_mayLie_6, hy_ok mX6_mayLie q.1 q.2 = true := by decide +kernel
def tX6_mayLie : hyT := [tX6_mayLie_0, tX6_mayLie_1, tX6_mayLie_2, tX6_mayLie_3, tX6_mayLie_4, tX6_mayLie_5, tX6_mayLie_6]
theorem oX6_mayLie : hy_tok mX6_mayLie tX6_mayLie := List.forall_mem_cons.mpr ⟨oX6_mayLie_0, List.forall_mem_cons.mpr ⟨oX6_mayLie_1, List.forall_mem_cons.mpr ⟨oX6_mayLie_2, List.forall_mem_cons.mpr ⟨oX6_mayLie_3, List.forall_mem_cons.mpr ⟨oX6_mayLie_4, List.forall_mem_cons.mpr ⟨oX6_mayLie_5, List.forall_mem_cons.mpr ⟨oX6_mayLie_6, fun _ h => absurd h List.not_mem_nil⟩⟩⟩⟩⟩⟩⟩
def tX6_lays_0 : List (Nat × hyE) := [(0, .ldc 147, 2, 0, 0, 0, 0, 1000000000, none, []),
  (2, .istore_n 1, 3, 1, 0, 0, 0, 0, none, []),
  (3, .iconst 0, 4, 0, 0, 0, 0, 0, none, []),
  (4, .istore_n 2, 5, 2, 0, 0, 0, 0, none, []),
  (5, .iconst 0, 6, 0, 0, 0, 0, 0, none, []),
  (6, .istore_n 3, 7, 3, 0, 0, 0, 0, none, []),
  (7, .iload_n 3, 8, 3, 0, 0, 0, 0, none, []),
  (8, .bipush 8, 10, 0, 0, 0, 0, 8, none, []),
  (10, .if_icmp .ge 16, 13, 26, 0, 0, 0, 0, none, []),
  (13, .aload_n 0, 14, 0, 0, 0, 0, 0, none, []),
  (14, .getfield 84, 17, 6, 34, 0, 0, 0, none, [])]
theorem oX6_lays_0 : ∀ q ∈ tX6_lays_0, hy_ok mX6_lays q.1 q.2 = true := by decide +kernel
def tX6_lays_1 : List (Nat × hyE) := [(17, .iload_n 3, 18, 3, 0, 0, 0, 0, none, []),
  (18, .iconst (-1), 19, 0, 0, 0, 0, (-1), none, []),
  (19, .iastore, 20, 0, 0, 0, 0, 0, none, []),
  (20, .iinc 3 1, 23, 3, 0, 0, 0, 1, none, []),
  (23, .goto (-16), 26, 7, 0, 0, 0, 0, none, []),
  (26, .iload_n 2, 27, 2, 0, 0, 0, 0, none, []),
  (27, .ifCond .lt 143, 30, 170, 0, 0, 0, 0, none, []),
  (30, .iload_n 2, 31, 2, 0, 0, 0, 0, none, []),
  (31, .aload_n 0, 32, 0, 0, 0, 0, 0, none, [])]
theorem oX6_lays_1 : ∀ q ∈ tX6_lays_1, hy_ok mX6_lays q.1 q.2 = true := by decide +kernel
def tX6_lays_2 : List (Nat × hyE) := [(32, .getfield 163, 35, 6, 24, 0, 0, 0, none, []),
  (35, .if_icmp .ne 46, 38, 81, 0, 0, 0, 0, none, []),
  (38, .aload_n 0, 39, 0, 0, 0, 0, 0, none, []),
  (39, .aload_n 0, 40, 0, 0, 0, 0, 0, none, []),
  (40, .getfield 163, 43, 6, 24, 0, 0, 0, none, []),
  (43, .invokevirtual 170, 46, 0, 1, 0, 6, 0, (some mX6_openedBy), []),
  (46, .istore_n 1, 47, 1, 0, 0, 0, 0, none, []),
  (47, .iconst 0, 48, 0, 0, 0, 0, 0, none, [])]
theorem oX6_lays_2 : ∀ q ∈ tX6_lays_2, hy_ok mX6_lays q.1 q.2 = true := by decide +kernel
def tX6_lays_3 : List (Nat × hyE) := [(48, .istore_n 3, 49, 3, 0, 0, 0, 0, none, []),
  (49, .iload_n 3, 50, 3, 0, 0, 0, 0, none, []),
  (50, .aload_n 0, 51, 0, 0, 0, 0, 0, none, []),
  (51, .getfield 163, 54, 6, 24, 0, 0, 0, none, []),
  (54, .if_icmp .ge 21, 57, 75, 0, 0, 0, 0, none, []),
  (57, .aload_n 0, 58, 0, 0, 0, 0, 0, none, []),
  (58, .getfield 87, 61, 6, 35, 0, 0, 0, none, []),
  (61, .iload_n 3, 62, 3, 0, 0, 0, 0, none, []),
  (62, .aload_n 0, 63, 0, 0, 0, 0, 0, none, []),
  (63, .getfield 84, 66, 6, 34, 0, 0, 0, none, [])]
theorem oX6_lays_3 : ∀ q ∈ tX6_lays_3, hy_ok mX6_lays q.1 q.2 = true := by decide +kernel
def tX6_lays_4 : List (Nat × hyE) := [(66, .iload_n 3, 67, 3, 0, 0, 0, 0, none, []),
  (67, .iaload, 68, 0, 0, 0, 0, 0, none, []),
  (68, .iastore, 69, 0, 0, 0, 0, 0, none, []),
  (69, .iinc 3 1, 72, 3, 0, 0, 0, 1, none, []),
  (72, .goto (-23), 75, 49, 0, 0, 0, 0, none, []),
  (75, .iinc 2 (-1), 78, 2, 0, 0, 0, (-1), none, []),
  (78, .goto (-52), 81, 26, 0, 0, 0, 0, none, [])]
theorem oX6_lays_4 : ∀ q ∈ tX6_lays_4, hy_ok mX6_lays q.1 q.2 = true := by decide +kernel
def tX6_lays_5 : List (Nat × hyE) := [(81, .aload_n 0, 82, 0, 0, 0, 0, 0, none, []),
  (82, .getfield 84, 85, 6, 34, 0, 0, 0, none, []),
  (85, .iload_n 2, 86, 2, 0, 0, 0, 0, none, []),
  (86, .dup2, 87, 0, 0, 0, 0, 0, none, []),
  (87, .iaload, 88, 0, 0, 0, 0, 0, none, []),
  (88, .iconst 1, 89, 0, 0, 0, 0, 1, none, []),
  (89, .iadd, 90, 0, 0, 0, 0, 0, none, []),
  (90, .iastore, 91, 0, 0, 0, 0, 0, none, []),
  (91, .aload_n 0, 92, 0, 0, 0, 0, 0, none, []),
  (92, .getfield 84, 95, 6, 34, 0, 0, 0, none, []),
  (95, .iload_n 2, 96, 2, 0, 0, 0, 0, none, [])]
theorem oX6_lays_5 : ∀ q ∈ tX6_lays_5, hy_ok mX6_lays q.1 q.2 = true := by decide +kernel
def tX6_lays_6 : List (Nat × hyE) := [(96, .iaload, 97, 0, 0, 0, 0, 0, none, []),
  (97, .aload_n 0, 98, 0, 0, 0, 0, 0, none, []),
  (98, .getfield 160, 101, 6, 21, 0, 0, 0, none, []),
  (101, .if_icmp .ge 37, 104, 138, 0, 0, 0, 0, none, []),
  (104, .aload_n 0, 105, 0, 0, 0, 0, 0, none, []),
  (105, .iload_n 2, 106, 2, 0, 0, 0, 0, none, []),
  (106, .iconst 1, 107, 0, 0, 0, 0, 1, none, []),
  (107, .iadd, 108, 0, 0, 0, 0, 0, none, []),
  (108, .invokevirtual 173, 111, 0, 1, 0, 6, 0, (some mX6_mayLie), []),
  (111, .ifCond .eq 14, 114, 125, 0, 0, 0, 0, none, [])]
theorem oX6_lays_6 : ∀ q ∈ tX6_lays_6, hy_ok mX6_lays q.1 q.2 = true := by decide +kernel
def tX6_lays_7 : List (Nat × hyE) := [(114, .aload_n 0, 115, 0, 0, 0, 0, 0, none, []),
  (115, .iload_n 2, 116, 2, 0, 0, 0, 0, none, []),
  (116, .iconst 1, 117, 0, 0, 0, 0, 1, none, []),
  (117, .iadd, 118, 0, 0, 0, 0, 0, none, []),
  (118, .invokevirtual 170, 121, 0, 1, 0, 6, 0, (some mX6_openedBy), []),
  (121, .iload_n 1, 122, 1, 0, 0, 0, 0, none, []),
  (122, .if_icmp .lt 16, 125, 138, 0, 0, 0, 0, none, []),
  (125, .aload_n 0, 126, 0, 0, 0, 0, 0, none, []),
  (126, .getfield 84, 129, 6, 34, 0, 0, 0, none, [])]
theorem oX6_lays_7 : ∀ q ∈ tX6_lays_7, hy_ok mX6_lays q.1 q.2 = true := by decide +kernel
def tX6_lays_8 : List (Nat × hyE) := [(129, .iload_n 2, 130, 2, 0, 0, 0, 0, none, []),
  (130, .dup2, 131, 0, 0, 0, 0, 0, none, []),
  (131, .iaload, 132, 0, 0, 0, 0, 0, none, []),
  (132, .iconst 1, 133, 0, 0, 0, 0, 1, none, []),
  (133, .iadd, 134, 0, 0, 0, 0, 0, none, []),
  (134, .iastore, 135, 0, 0, 0, 0, 0, none, []),
  (135, .goto (-44), 138, 91, 0, 0, 0, 0, none, []),
  (138, .aload_n 0, 139, 0, 0, 0, 0, 0, none, []),
  (139, .getfield 84, 142, 6, 34, 0, 0, 0, none, []),
  (142, .iload_n 2, 143, 2, 0, 0, 0, 0, none, []),
  (143, .iaload, 144, 0, 0, 0, 0, 0, none, [])]
theorem oX6_lays_8 : ∀ q ∈ tX6_lays_8, hy_ok mX6_lays q.1 q.2 = true := by decide +kernel
def tX6_lays_9 : List (Nat × hyE) := [(144, .aload_n 0, 145, 0, 0, 0, 0, 0, none, []),
  (145, .getfield 160, 148, 6, 21, 0, 0, 0, none, []),
  (148, .if_icmp .lt 16, 151, 164, 0, 0, 0, 0, none, []),
  (151, .aload_n 0, 152, 0, 0, 0, 0, 0, none, []),
  (152, .getfield 84, 155, 6, 34, 0, 0, 0, none, []),
  (155, .iload_n 2, 156, 2, 0, 0, 0, 0, none, []),
  (156, .iconst (-1), 157, 0, 0, 0, 0, (-1), none, []),
  (157, .iastore, 158, 0, 0, 0, 0, 0, none, []),
  (158, .iinc 2 (-1), 161, 2, 0, 0, 0, (-1), none, [])]
theorem oX6_lays_9 : ∀ q ∈ tX6_lays_9, hy_ok mX6_lays q.1 q.2 = true := by decide +kernel
def tX6_lays_10 : List (Nat × hyE) := [(161, .goto (-135), 164, 26, 0, 0, 0, 0, none, []),
  (164, .iinc 2 1, 167, 2, 0, 0, 0, 1, none, []),
  (167, .goto (-141), 170, 26, 0, 0, 0, 0, none, []),
  (170, .iload_n 1, 171, 1, 0, 0, 0, 0, none, []),
  (171, .ireturn, 172, 0, 0, 0, 0, 0, none, [])]
theorem oX6_lays_10 : ∀ q ∈ tX6_lays_10, hy_ok mX6_lays q.1 q.2 = true := by decide +kernel
def tX6_lays : hyT := [tX6_lays_0, tX6_lays_1, tX6_lays_2, tX6_lays_3, tX6_lays_4, tX6_lays_5, tX6_lays_6, tX6_lays_7, tX6_lays_8, tX6_lays_9, tX6_lays_10]
theorem oX6_lays : hy_tok mX6_lays tX6_lays := List.forall_mem_cons.mpr ⟨oX6_lays_0, List.forall_mem_cons.mpr ⟨oX6_lays_1, List.forall_mem_cons.mpr ⟨oX6_lays_2, List.forall_mem_cons.mpr ⟨oX6_lays_3, List.forall_mem_cons.mpr ⟨oX6_lays_4, List.forall_mem_cons.mpr ⟨oX6_lays_5, List.forall_mem_cons.mpr ⟨oX6_lays_6, List.forall_mem_cons.mpr ⟨oX6_lays_7, List.forall_mem_cons.mpr ⟨oX6_lays_8, List.forall_mem_cons.mpr ⟨oX6_lays_9, List.forall_mem_cons.mpr ⟨oX6_lays_10, fun _ h => absurd h List.not_mem_nil⟩⟩⟩⟩⟩⟩⟩⟩⟩⟩⟩
def tX6_opened_0 : List (Nat × hyE) := [(0, .aload_n 0, 1, 0, 0, 0, 0, 0, none, []),
  (1, .invokevirtual 176, 4, 0, 0, 0, 6, 0, (some mX6_lays), []),
  (4, .istore_n 1, 5, 1, 0, 0, 0, 0, none, []),
  (5, .iload_n 1, 6, 1, 0, 0, 0, 0, none, []),
  (6, .ldc 147, 8, 0, 0, 0, 0, 1000000000, none, []),
  (8, .if_icmp .ne 7, 11, 15, 0, 0, 0, 0, none, []),
  (11, .iconst (-1), 12, 0, 0, 0, 0, (-1), none, []),
  (12, .goto 4, 15, 16, 0, 0, 0, 0, none, []),
  (15, .iload_n 1, 16, 1, 0, 0, 0, 0, none, [])]
theorem oX6_opened_0 : ∀ q ∈ tX6_opened_0, hy_ok mX6_opened q.1 q.2 = true := by decide +kernel
def tX6_opened_1 : List (Nat × hyE) := [(16, .ireturn, 17, 0, 0, 0, 0, 0, none, [])]
theorem oX6_opened_1 : ∀ q ∈ tX6_opened_1, hy_ok mX6_opened q.1 q.2 = true := by decide +kernel
def tX6_opened : hyT := [tX6_opened_0, tX6_opened_1]
theorem oX6_opened : hy_tok mX6_opened tX6_opened := List.forall_mem_cons.mpr ⟨oX6_opened_0, List.forall_mem_cons.mpr ⟨oX6_opened_1, fun _ h => absurd h List.not_mem_nil⟩⟩
def tX6_from_0 : List (Nat × hyE) := [(0, .iload_n 1, 1, 1, 0, 0, 0, 0, none, []),
  (1, .iconst 0, 2, 0, 0, 0, 0, 0, none, []),
  (2, .aload_n 0, 3, 0, 0, 0, 0, 0, none, []),
  (3, .getfield 163, 6, 6, 24, 0, 0, 0, none, []),
  (6, .iconst 1, 7, 0, 0, 0, 0, 1, none, []),
  (7, .isub, 8, 0, 0, 0, 0, 0, none, []),
  (8, .invokestatic 93, 11, 2, 3, 0, 0, 0, (some mX6_in), []),
  (11, .ifCond .eq 12, 14, 23, 0, 0, 0, 0, none, []),
  (14, .aload_n 0, 15, 0, 0, 0, 0, 0, none, []),
  (15, .invokevirtual 176, 18, 0, 0, 0, 6, 0, (some mX6_lays), [])]
theorem oX6_from_0 : ∀ q ∈ tX6_from_0, hy_ok mX6_from q.1 q.2 = true := by decide +kernel
def tX6_from_1 : List (Nat × hyE) := [(18, .ldc 147, 20, 0, 0, 0, 0, 1000000000, none, []),
  (20, .if_icmp .ne 7, 23, 27, 0, 0, 0, 0, none, []),
  (23, .iconst (-1), 24, 0, 0, 0, 0, (-1), none, []),
  (24, .goto 9, 27, 33, 0, 0, 0, 0, none, []),
  (27, .aload_n 0, 28, 0, 0, 0, 0, 0, none, []),
  (28, .getfield 87, 31, 6, 35, 0, 0, 0, none, []),
  (31, .iload_n 1, 32, 1, 0, 0, 0, 0, none, [])]
theorem oX6_from_1 : ∀ q ∈ tX6_from_1, hy_ok mX6_from q.1 q.2 = true := by decide +kernel
def tX6_from_2 : List (Nat × hyE) := [(32, .iaload, 33, 0, 0, 0, 0, 0, none, []),
  (33, .ireturn, 34, 0, 0, 0, 0, 0, none, [])]
theorem oX6_from_2 : ∀ q ∈ tX6_from_2, hy_ok mX6_from q.1 q.2 = true := by decide +kernel
def tX6_from : hyT := [tX6_from_0, tX6_from_1, tX6_from_2]
theorem oX6_from : hy_tok mX6_from tX6_from := List.forall_mem_cons.mpr ⟨oX6_from_0, List.forall_mem_cons.mpr ⟨oX6_from_1, List.forall_mem_cons.mpr ⟨oX6_from_2, fun _ h => absurd h List.not_mem_nil⟩⟩⟩
def tX6_away_0 : List (Nat × hyE) := [(0, .aload_n 0, 1, 0, 0, 0, 0, 0, none, []),
  (1, .getfield 163, 4, 6, 24, 0, 0, 0, none, []),
  (4, .istore_n 1, 5, 1, 0, 0, 0, 0, none, []),
  (5, .aload_n 0, 6, 0, 0, 0, 0, 0, none, []),
  (6, .iconst 0, 7, 0, 0, 0, 0, 0, none, []),
  (7, .putfield 163, 10, 6, 24, 0, 0, 0, none, []),
  (10, .aload_n 0, 11, 0, 0, 0, 0, 0, none, []),
  (11, .iconst 0, 12, 0, 0, 0, 0, 0, none, []),
  (12, .putfield 160, 15, 6, 21, 0, 0, 0, none, []),
  (15, .iload_n 1, 16, 1, 0, 0, 0, 0, none, [])]
theorem oX6_away_0 : ∀ q ∈ tX6_away_0, hy_ok mX6_away q.1 q.2 = true := by decide +kernel
def tX6_away_1 : List (Nat × hyE) := [(16, .ireturn, 17, 0, 0, 0, 0, 0, none, [])]
theorem oX6_away_1 : ∀ q ∈ tX6_away_1, hy_ok mX6_away q.1 q.2 = true := by decide +kernel
def tX6_away : hyT := [tX6_away_0, tX6_away_1]
theorem oX6_away : hy_tok mX6_away tX6_away := List.forall_mem_cons.mpr ⟨oX6_away_0, List.forall_mem_cons.mpr ⟨oX6_away_1, fun _ h => absurd h List.not_mem_nil⟩⟩
def tX6_reads_0 : List (Nat × hyE) := [(0, .iload_n 0, 1, 0, 0, 0, 0, 0, none, []),
  (1, .sipush 1000, 4, 0, 0, 0, 0, 1000, none, []),
  (4, .iload_n 1, 5, 1, 0, 0, 0, 0, none, []),
  (5, .iadd, 6, 0, 0, 0, 0, 0, none, []),
  (6, .imul, 7, 0, 0, 0, 0, 0, none, []),
  (7, .sipush 1000, 10, 0, 0, 0, 0, 1000, none, []),
  (10, .idiv, 11, 0, 0, 0, 0, 0, none, []),
  (11, .ireturn, 12, 0, 0, 0, 0, 0, none, [])]
theorem oX6_reads_0 : ∀ q ∈ tX6_reads_0, hy_ok mX6_reads q.1 q.2 = true := by decide +kernel
def tX6_reads : hyT := [tX6_reads_0]
theorem oX6_reads : hy_tok mX6_reads tX6_reads := List.forall_mem_cons.mpr ⟨oX6_reads_0, fun _ h => absurd h List.not_mem_nil⟩
def tX6_reading_0 : List (Nat × hyE) := [(0, .iload_n 1, 1, 1, 0, 0, 0, 0, none, []),
  (1, .iconst 1, 2, 0, 0, 0, 0, 1, none, []),
  (2, .sipush 10000, 5, 0, 0, 0, 0, 10000, none, []),
  (5, .invokestatic 93, 8, 2, 3, 0, 0, 0, (some mX6_in), []),
  (8, .ifCond .eq 23, 11, 31, 0, 0, 0, 0, none, []),
  (11, .iload_n 2, 12, 2, 0, 0, 0, 0, none, []),
  (12, .iconst 0, 13, 0, 0, 0, 0, 0, none, []),
  (13, .sipush 20000, 16, 0, 0, 0, 0, 20000, none, [])]
theorem oX6_reading_0 : ∀ q ∈ tX6_reading_0, hy_ok mX6_reading q.1 q.2 = true := by decide +kernel
def tX6_reading_1 : List (Nat × hyE) := [(16, .invokestatic 93, 19, 2, 3, 0, 0, 0, (some mX6_in), []),
  (19, .ifCond .eq 12, 22, 31, 0, 0, 0, 0, none, []),
  (22, .aload_n 0, 23, 0, 0, 0, 0, 0, none, []),
  (23, .getfield 179, 26, 6, 27, 0, 0, 0, none, []),
  (26, .bipush 20, 28, 0, 0, 0, 0, 20, none, []),
  (28, .if_icmp .ne 5, 31, 33, 0, 0, 0, 0, none, []),
  (31, .iconst (-1), 32, 0, 0, 0, 0, (-1), none, [])]
theorem oX6_reading_1 : ∀ q ∈ tX6_reading_1, hy_ok mX6_reading q.1 q.2 = true := by decide +kernel
def tX6_reading_2 : List (Nat × hyE) := [(32, .ireturn, 33, 0, 0, 0, 0, 0, none, []),
  (33, .ldc 147, 35, 0, 0, 0, 0, 1000000000, none, []),
  (35, .istore_n 3, 36, 3, 0, 0, 0, 0, none, []),
  (36, .ldc 147, 38, 0, 0, 0, 0, 1000000000, none, []),
  (38, .istore 4, 40, 4, 0, 0, 0, 0, none, []),
  (40, .aload_n 0, 41, 0, 0, 0, 0, 0, none, []),
  (41, .getfield 68, 44, 6, 28, 0, 0, 0, none, []),
  (44, .istore 5, 46, 5, 0, 0, 0, 0, none, []),
  (46, .iload 5, 48, 5, 0, 0, 0, 0, none, [])]
theorem oX6_reading_2 : ∀ q ∈ tX6_reading_2, hy_ok mX6_reading q.1 q.2 = true := by decide +kernel
def tX6_reading_3 : List (Nat × hyE) := [(48, .aload_n 0, 49, 0, 0, 0, 0, 0, none, []),
  (49, .getfield 71, 52, 6, 29, 0, 0, 0, none, []),
  (52, .if_icmp .gt 36, 55, 88, 0, 0, 0, 0, none, []),
  (55, .iload_n 1, 56, 1, 0, 0, 0, 0, none, []),
  (56, .iload 5, 58, 5, 0, 0, 0, 0, none, []),
  (58, .invokestatic 182, 61, 8, 2, 0, 0, 0, (some mX6_reads), []),
  (61, .iload_n 2, 62, 2, 0, 0, 0, 0, none, []),
  (62, .if_icmp .ne 20, 65, 82, 0, 0, 0, 0, none, [])]
theorem oX6_reading_3 : ∀ q ∈ tX6_reading_3, hy_ok mX6_reading q.1 q.2 = true := by decide +kernel
def tX6_reading_4 : List (Nat × hyE) := [(65, .iload_n 3, 66, 3, 0, 0, 0, 0, none, []),
  (66, .ldc 147, 68, 0, 0, 0, 0, 1000000000, none, []),
  (68, .if_icmp .ne 8, 71, 76, 0, 0, 0, 0, none, []),
  (71, .iload 5, 73, 5, 0, 0, 0, 0, none, []),
  (73, .goto 4, 76, 77, 0, 0, 0, 0, none, []),
  (76, .iload_n 3, 77, 3, 0, 0, 0, 0, none, []),
  (77, .istore_n 3, 78, 3, 0, 0, 0, 0, none, []),
  (78, .iload 5, 80, 5, 0, 0, 0, 0, none, [])]
theorem oX6_reading_4 : ∀ q ∈ tX6_reading_4, hy_ok mX6_reading q.1 q.2 = true := by decide +kernel
def tX6_reading_5 : List (Nat × hyE) := [(80, .istore 4, 82, 4, 0, 0, 0, 0, none, []),
  (82, .iinc 5 1, 85, 5, 0, 0, 0, 1, none, []),
  (85, .goto (-39), 88, 46, 0, 0, 0, 0, none, []),
  (88, .iload_n 3, 89, 3, 0, 0, 0, 0, none, []),
  (89, .ldc 147, 91, 0, 0, 0, 0, 1000000000, none, []),
  (91, .if_icmp .ne 5, 94, 96, 0, 0, 0, 0, none, []),
  (94, .iconst (-1), 95, 0, 0, 0, 0, (-1), none, []),
  (95, .ireturn, 96, 0, 0, 0, 0, 0, none, [])]
theorem oX6_reading_5 : ∀ q ∈ tX6_reading_5, hy_ok mX6_reading q.1 q.2 = true := by decide +kernel
def tX6_reading_6 : List (Nat × hyE) := [(96, .aload_n 0, 97, 0, 0, 0, 0, 0, none, []),
  (97, .iload_n 3, 98, 3, 0, 0, 0, 0, none, []),
  (98, .putfield 68, 101, 6, 28, 0, 0, 0, none, []),
  (101, .aload_n 0, 102, 0, 0, 0, 0, 0, none, []),
  (102, .iload 4, 104, 4, 0, 0, 0, 0, none, []),
  (104, .putfield 71, 107, 6, 29, 0, 0, 0, none, []),
  (107, .aload_n 0, 108, 0, 0, 0, 0, 0, none, []),
  (108, .dup, 109, 0, 0, 0, 0, 0, none, []),
  (109, .getfield 179, 112, 6, 27, 0, 0, 0, none, [])]
theorem oX6_reading_6 : ∀ q ∈ tX6_reading_6, hy_ok mX6_reading q.1 q.2 = true := by decide +kernel
def tX6_reading_7 : List (Nat × hyE) := [(112, .iconst 1, 113, 0, 0, 0, 0, 1, none, []),
  (113, .iadd, 114, 0, 0, 0, 0, 0, none, []),
  (114, .putfield 179, 117, 6, 27, 0, 0, 0, none, []),
  (117, .aload_n 0, 118, 0, 0, 0, 0, 0, none, []),
  (118, .getfield 179, 121, 6, 27, 0, 0, 0, none, []),
  (121, .ireturn, 122, 0, 0, 0, 0, 0, none, [])]
theorem oX6_reading_7 : ∀ q ∈ tX6_reading_7, hy_ok mX6_reading q.1 q.2 = true := by decide +kernel
def tX6_reading : hyT := [tX6_reading_0, tX6_reading_1, tX6_reading_2, tX6_reading_3, tX6_reading_4, tX6_reading_5, tX6_reading_6, tX6_reading_7]
theorem oX6_reading : hy_tok mX6_reading tX6_reading := List.forall_mem_cons.mpr ⟨oX6_reading_0, List.forall_mem_cons.mpr ⟨oX6_reading_1, List.forall_mem_cons.mpr ⟨oX6_reading_2, List.forall_mem_cons.mpr ⟨oX6_reading_3, List.forall_mem_cons.mpr ⟨oX6_reading_4, List.forall_mem_cons.mpr ⟨oX6_reading_5, List.forall_mem_cons.mpr ⟨oX6_reading_6, List.forall_mem_cons.mpr ⟨oX6_reading_7, fun _ h => absurd h List.not_mem_nil⟩⟩⟩⟩⟩⟩⟩⟩
def tX6_errs_0 : List (Nat × hyE) := [(0, .iload_n 1, 1, 1, 0, 0, 0, 0, none, []),
  (1, .ifCond .eq 10, 4, 11, 0, 0, 0, 0, none, []),
  (4, .aload_n 0, 5, 0, 0, 0, 0, 0, none, []),
  (5, .getfield 71, 8, 6, 29, 0, 0, 0, none, []),
  (8, .goto 7, 11, 15, 0, 0, 0, 0, none, []),
  (11, .aload_n 0, 12, 0, 0, 0, 0, 0, none, []),
  (12, .getfield 68, 15, 6, 28, 0, 0, 0, none, []),
  (15, .ireturn, 16, 0, 0, 0, 0, 0, none, [])]
theorem oX6_errs_0 : ∀ q ∈ tX6_errs_0, hy_ok mX6_errs q.1 q.2 = true := by decide +kernel
def tX6_errs : hyT := [tX6_errs_0]
theorem oX6_errs : hy_tok mX6_errs tX6_errs := List.forall_mem_cons.mpr ⟨oX6_errs_0, fun _ h => absurd h List.not_mem_nil⟩
def tX6_back_0 : List (Nat × hyE) := [(0, .iload_n 1, 1, 1, 0, 0, 0, 0, none, []),
  (1, .iconst 0, 2, 0, 0, 0, 0, 0, none, []),
  (2, .sipush 20000, 5, 0, 0, 0, 0, 20000, none, []),
  (5, .invokestatic 93, 8, 2, 3, 0, 0, 0, (some mX6_in), []),
  (8, .ifCond .ne 5, 11, 13, 0, 0, 0, 0, none, []),
  (11, .iconst (-1), 12, 0, 0, 0, 0, (-1), none, []),
  (12, .ireturn, 13, 0, 0, 0, 0, 0, none, []),
  (13, .iconst (-1), 14, 0, 0, 0, 0, (-1), none, []),
  (14, .istore_n 3, 15, 3, 0, 0, 0, 0, none, []),
  (15, .aload_n 0, 16, 0, 0, 0, 0, 0, none, [])]
theorem oX6_back_0 : ∀ q ∈ tX6_back_0, hy_ok mX6_back q.1 q.2 = true := by decide +kernel
def tX6_back_1 : List (Nat × hyE) := [(16, .getfield 68, 19, 6, 28, 0, 0, 0, none, []),
  (19, .istore 4, 21, 4, 0, 0, 0, 0, none, []),
  (21, .iload 4, 23, 4, 0, 0, 0, 0, none, []),
  (23, .aload_n 0, 24, 0, 0, 0, 0, 0, none, []),
  (24, .getfield 71, 27, 6, 29, 0, 0, 0, none, []),
  (27, .if_icmp .gt 122, 30, 149, 0, 0, 0, 0, none, []),
  (30, .sipush 1000, 33, 0, 0, 0, 0, 1000, none, [])]
theorem oX6_back_1 : ∀ q ∈ tX6_back_1, hy_ok mX6_back q.1 q.2 = true := by decide +kernel
def tX6_back_2 : List (Nat × hyE) := [(33, .iload_n 1, 34, 1, 0, 0, 0, 0, none, []),
  (34, .imul, 35, 0, 0, 0, 0, 0, none, []),
  (35, .sipush 999, 38, 0, 0, 0, 0, 999, none, []),
  (38, .iadd, 39, 0, 0, 0, 0, 0, none, []),
  (39, .iload 4, 41, 4, 0, 0, 0, 0, none, []),
  (41, .iadd, 42, 0, 0, 0, 0, 0, none, []),
  (42, .sipush 1000, 45, 0, 0, 0, 0, 1000, none, []),
  (45, .iload 4, 47, 4, 0, 0, 0, 0, none, []),
  (47, .iadd, 48, 0, 0, 0, 0, 0, none, [])]
theorem oX6_back_2 : ∀ q ∈ tX6_back_2, hy_ok mX6_back q.1 q.2 = true := by decide +kernel
def tX6_back_3 : List (Nat × hyE) := [(48, .idiv, 49, 0, 0, 0, 0, 0, none, []),
  (49, .istore 5, 51, 5, 0, 0, 0, 0, none, []),
  (51, .sipush 1000, 54, 0, 0, 0, 0, 1000, none, []),
  (54, .iload_n 1, 55, 1, 0, 0, 0, 0, none, []),
  (55, .imul, 56, 0, 0, 0, 0, 0, none, []),
  (56, .sipush 999, 59, 0, 0, 0, 0, 999, none, []),
  (59, .iadd, 60, 0, 0, 0, 0, 0, none, []),
  (60, .sipush 1000, 63, 0, 0, 0, 0, 1000, none, []),
  (63, .iload 4, 65, 4, 0, 0, 0, 0, none, [])]
theorem oX6_back_3 : ∀ q ∈ tX6_back_3, hy_ok mX6_back q.1 q.2 = true := by decide +kernel
def tX6_back_4 : List (Nat × hyE) := [(65, .iadd, 66, 0, 0, 0, 0, 0, none, []),
  (66, .idiv, 67, 0, 0, 0, 0, 0, none, []),
  (67, .istore 6, 69, 6, 0, 0, 0, 0, none, []),
  (69, .iload 5, 71, 5, 0, 0, 0, 0, none, []),
  (71, .iconst 1, 72, 0, 0, 0, 0, 1, none, []),
  (72, .if_icmp .ge 7, 75, 79, 0, 0, 0, 0, none, []),
  (75, .iconst 1, 76, 0, 0, 0, 0, 1, none, []),
  (76, .goto 5, 79, 81, 0, 0, 0, 0, none, []),
  (79, .iload 5, 81, 5, 0, 0, 0, 0, none, [])]
theorem oX6_back_4 : ∀ q ∈ tX6_back_4, hy_ok mX6_back q.1 q.2 = true := by decide +kernel
def tX6_back_5 : List (Nat × hyE) := [(81, .istore 5, 83, 5, 0, 0, 0, 0, none, []),
  (83, .iload 6, 85, 6, 0, 0, 0, 0, none, []),
  (85, .sipush 10000, 88, 0, 0, 0, 0, 10000, none, []),
  (88, .if_icmp .le 9, 91, 97, 0, 0, 0, 0, none, []),
  (91, .sipush 10000, 94, 0, 0, 0, 0, 10000, none, []),
  (94, .goto 5, 97, 99, 0, 0, 0, 0, none, [])]
theorem oX6_back_5 : ∀ q ∈ tX6_back_5, hy_ok mX6_back q.1 q.2 = true := by decide +kernel
def tX6_back_6 : List (Nat × hyE) := [(97, .iload 6, 99, 6, 0, 0, 0, 0, none, []),
  (99, .istore 6, 101, 6, 0, 0, 0, 0, none, []),
  (101, .iload 5, 103, 5, 0, 0, 0, 0, none, []),
  (103, .iload 6, 105, 6, 0, 0, 0, 0, none, []),
  (105, .if_icmp .gt 38, 108, 143, 0, 0, 0, 0, none, []),
  (108, .iload_n 3, 109, 3, 0, 0, 0, 0, none, []),
  (109, .ifCond .lt 22, 112, 131, 0, 0, 0, 0, none, [])]
theorem oX6_back_6 : ∀ q ∈ tX6_back_6, hy_ok mX6_back q.1 q.2 = true := by decide +kernel
def tX6_back_7 : List (Nat × hyE) := [(112, .iload_n 2, 113, 2, 0, 0, 0, 0, none, []),
  (113, .ifCond .eq 12, 116, 125, 0, 0, 0, 0, none, []),
  (116, .iload 6, 118, 6, 0, 0, 0, 0, none, []),
  (118, .iload_n 3, 119, 3, 0, 0, 0, 0, none, []),
  (119, .if_icmp .le 24, 122, 143, 0, 0, 0, 0, none, []),
  (122, .goto 9, 125, 131, 0, 0, 0, 0, none, []),
  (125, .iload 5, 127, 5, 0, 0, 0, 0, none, []),
  (127, .iload_n 3, 128, 3, 0, 0, 0, 0, none, [])]
theorem oX6_back_7 : ∀ q ∈ tX6_back_7, hy_ok mX6_back q.1 q.2 = true := by decide +kernel
def tX6_back_8 : List (Nat × hyE) := [(128, .if_icmp .ge 15, 131, 143, 0, 0, 0, 0, none, []),
  (131, .iload_n 2, 132, 2, 0, 0, 0, 0, none, []),
  (132, .ifCond .eq 8, 135, 140, 0, 0, 0, 0, none, []),
  (135, .iload 6, 137, 6, 0, 0, 0, 0, none, []),
  (137, .goto 5, 140, 142, 0, 0, 0, 0, none, []),
  (140, .iload 5, 142, 5, 0, 0, 0, 0, none, []),
  (142, .istore_n 3, 143, 3, 0, 0, 0, 0, none, []),
  (143, .iinc 4 1, 146, 4, 0, 0, 0, 1, none, [])]
theorem oX6_back_8 : ∀ q ∈ tX6_back_8, hy_ok mX6_back q.1 q.2 = true := by decide +kernel
def tX6_back_9 : List (Nat × hyE) := [(146, .goto (-125), 149, 21, 0, 0, 0, 0, none, []),
  (149, .iload_n 3, 150, 3, 0, 0, 0, 0, none, []),
  (150, .ireturn, 151, 0, 0, 0, 0, 0, none, [])]
theorem oX6_back_9 : ∀ q ∈ tX6_back_9, hy_ok mX6_back q.1 q.2 = true := by decide +kernel
def tX6_back : hyT := [tX6_back_0, tX6_back_1, tX6_back_2, tX6_back_3, tX6_back_4, tX6_back_5, tX6_back_6, tX6_back_7, tX6_back_8, tX6_back_9]
theorem oX6_back : hy_tok mX6_back tX6_back := List.forall_mem_cons.mpr ⟨oX6_back_0, List.forall_mem_cons.mpr ⟨oX6_back_1, List.forall_mem_cons.mpr ⟨oX6_back_2, List.forall_mem_cons.mpr ⟨oX6_back_3, List.forall_mem_cons.mpr ⟨oX6_back_4, List.forall_mem_cons.mpr ⟨oX6_back_5, List.forall_mem_cons.mpr ⟨oX6_back_6, List.forall_mem_cons.mpr ⟨oX6_back_7, List.forall_mem_cons.mpr ⟨oX6_back_8, List.forall_mem_cons.mpr ⟨oX6_back_9, fun _ h => absurd h List.not_mem_nil⟩⟩⟩⟩⟩⟩⟩⟩⟩⟩
def tX6_about_0 : List (Nat × hyE) := [(0, .iconst 0, 1, 0, 0, 0, 0, 0, none, []),
  (1, .istore_n 2, 2, 2, 0, 0, 0, 0, none, []),
  (2, .iconst 0, 3, 0, 0, 0, 0, 0, none, []),
  (3, .istore_n 3, 4, 3, 0, 0, 0, 0, none, []),
  (4, .iconst 0, 5, 0, 0, 0, 0, 0, none, []),
  (5, .istore 4, 7, 4, 0, 0, 0, 0, none, []),
  (7, .iload 4, 9, 4, 0, 0, 0, 0, none, []),
  (9, .aload_n 0, 10, 0, 0, 0, 0, 0, none, []),
  (10, .getfield 90, 13, 6, 3, 0, 0, 0, none, []),
  (13, .if_icmp .ge 45, 16, 58, 0, 0, 0, 0, none, [])]
theorem oX6_about_0 : ∀ q ∈ tX6_about_0, hy_ok mX6_about q.1 q.2 = true := by decide +kernel
def tX6_about_1 : List (Nat × hyE) := [(16, .iload_n 2, 17, 2, 0, 0, 0, 0, none, []),
  (17, .aload_n 0, 18, 0, 0, 0, 0, 0, none, []),
  (18, .iload 4, 20, 4, 0, 0, 0, 0, none, []),
  (20, .invokevirtual 125, 23, 0, 1, 0, 6, 0, (some mX6_stateOf), []),
  (23, .iconst 2, 24, 0, 0, 0, 0, 2, none, []),
  (24, .if_icmp .ne 7, 27, 31, 0, 0, 0, 0, none, []),
  (27, .iconst 1, 28, 0, 0, 0, 0, 1, none, []),
  (28, .goto 4, 31, 32, 0, 0, 0, 0, none, []),
  (31, .iconst 0, 32, 0, 0, 0, 0, 0, none, [])]
theorem oX6_about_1 : ∀ q ∈ tX6_about_1, hy_ok mX6_about q.1 q.2 = true := by decide +kernel
def tX6_about_2 : List (Nat × hyE) := [(32, .iadd, 33, 0, 0, 0, 0, 0, none, []),
  (33, .istore_n 2, 34, 2, 0, 0, 0, 0, none, []),
  (34, .iload_n 3, 35, 3, 0, 0, 0, 0, none, []),
  (35, .aload_n 0, 36, 0, 0, 0, 0, 0, none, []),
  (36, .iload 4, 38, 4, 0, 0, 0, 0, none, []),
  (38, .invokevirtual 125, 41, 0, 1, 0, 6, 0, (some mX6_stateOf), []),
  (41, .iconst 3, 42, 0, 0, 0, 0, 3, none, []),
  (42, .if_icmp .ne 7, 45, 49, 0, 0, 0, 0, none, []),
  (45, .iconst 1, 46, 0, 0, 0, 0, 1, none, []),
  (46, .goto 4, 49, 50, 0, 0, 0, 0, none, [])]
theorem oX6_about_2 : ∀ q ∈ tX6_about_2, hy_ok mX6_about q.1 q.2 = true := by decide +kernel
def tX6_about_3 : List (Nat × hyE) := [(49, .iconst 0, 50, 0, 0, 0, 0, 0, none, []),
  (50, .iadd, 51, 0, 0, 0, 0, 0, none, []),
  (51, .istore_n 3, 52, 3, 0, 0, 0, 0, none, []),
  (52, .iinc 4 1, 55, 4, 0, 0, 0, 1, none, []),
  (55, .goto (-48), 58, 7, 0, 0, 0, 0, none, []),
  (58, .iload_n 1, 59, 1, 0, 0, 0, 0, none, []),
  (59, .tableswitch 97 0 9 #[53, 58, 63, 68, 73, 78, 83, 88, 93, 95], 112, 156, 0, 53, 0, 0, none, [(0, 112), (1, 117), (2, 122), (3, 127), (4, 132), (5, 137), (6, 142), (7, 147), (8, 152), (9, 154)])]
theorem oX6_about_3 : ∀ q ∈ tX6_about_3, hy_ok mX6_about q.1 q.2 = true := by decide +kernel
def tX6_about_4 : List (Nat × hyE) := []
theorem oX6_about_4 : ∀ q ∈ tX6_about_4, hy_ok mX6_about q.1 q.2 = true := by decide +kernel
def tX6_about_5 : List (Nat × hyE) := []
theorem oX6_about_5 : ∀ q ∈ tX6_about_5, hy_ok mX6_about q.1 q.2 = true := by decide +kernel
def tX6_about_6 : List (Nat × hyE) := []
theorem oX6_about_6 : ∀ q ∈ tX6_about_6, hy_ok mX6_about q.1 q.2 = true := by decide +kernel
def tX6_about_7 : List (Nat × hyE) := [(112, .aload_n 0, 113, 0, 0, 0, 0, 0, none, []),
  (113, .getfield 97, 116, 6, 0, 0, 0, 0, none, []),
  (116, .ireturn, 117, 0, 0, 0, 0, 0, none, []),
  (117, .aload_n 0, 118, 0, 0, 0, 0, 0, none, []),
  (118, .getfield 90, 121, 6, 3, 0, 0, 0, none, []),
  (121, .ireturn, 122, 0, 0, 0, 0, 0, none, []),
  (122, .aload_n 0, 123, 0, 0, 0, 0, 0, none, []),
  (123, .getfield 100, 126, 6, 10, 0, 0, 0, none, []),
  (126, .ireturn, 127, 0, 0, 0, 0, 0, none, []),
  (127, .aload_n 0, 128, 0, 0, 0, 0, 0, none, [])]
theorem oX6_about_7 : ∀ q ∈ tX6_about_7, hy_ok mX6_about q.1 q.2 = true := by decide +kernel
def tX6_about_8 : List (Nat × hyE) := [(128, .getfield 137, 131, 6, 15, 0, 0, 0, none, []),
  (131, .ireturn, 132, 0, 0, 0, 0, 0, none, []),
  (132, .aload_n 0, 133, 0, 0, 0, 0, 0, none, []),
  (133, .getfield 160, 136, 6, 21, 0, 0, 0, none, []),
  (136, .ireturn, 137, 0, 0, 0, 0, 0, none, []),
  (137, .aload_n 0, 138, 0, 0, 0, 0, 0, none, []),
  (138, .getfield 163, 141, 6, 24, 0, 0, 0, none, []),
  (141, .ireturn, 142, 0, 0, 0, 0, 0, none, []),
  (142, .aload_n 0, 143, 0, 0, 0, 0, 0, none, []),
  (143, .getfield 179, 146, 6, 27, 0, 0, 0, none, [])]
theorem oX6_about_8 : ∀ q ∈ tX6_about_8, hy_ok mX6_about q.1 q.2 = true := by decide +kernel
def tX6_about_9 : List (Nat × hyE) := [(146, .ireturn, 147, 0, 0, 0, 0, 0, none, []),
  (147, .aload_n 0, 148, 0, 0, 0, 0, 0, none, []),
  (148, .getfield 131, 151, 6, 14, 0, 0, 0, none, []),
  (151, .ireturn, 152, 0, 0, 0, 0, 0, none, []),
  (152, .iload_n 2, 153, 2, 0, 0, 0, 0, none, []),
  (153, .ireturn, 154, 0, 0, 0, 0, 0, none, []),
  (154, .iload_n 3, 155, 3, 0, 0, 0, 0, none, []),
  (155, .ireturn, 156, 0, 0, 0, 0, 0, none, []),
  (156, .iconst (-1), 157, 0, 0, 0, 0, (-1), none, []),
  (157, .ireturn, 158, 0, 0, 0, 0, 0, none, [])]
theorem oX6_about_9 : ∀ q ∈ tX6_about_9, hy_ok mX6_about q.1 q.2 = true := by decide +kernel
def tX6_about : hyT := [tX6_about_0, tX6_about_1, tX6_about_2, tX6_about_3, tX6_about_4, tX6_about_5, tX6_about_6, tX6_about_7, tX6_about_8, tX6_about_9]
theorem oX6_about : hy_tok mX6_about tX6_about := List.forall_mem_cons.mpr ⟨oX6_about_0, List.forall_mem_cons.mpr ⟨oX6_about_1, List.forall_mem_cons.mpr ⟨oX6_about_2, List.forall_mem_cons.mpr ⟨oX6_about_3, List.forall_mem_cons.mpr ⟨oX6_about_4, List.forall_mem_cons.mpr ⟨oX6_about_5, List.forall_mem_cons.mpr ⟨oX6_about_6, List.forall_mem_cons.mpr ⟨oX6_about_7, List.forall_mem_cons.mpr ⟨oX6_about_8, List.forall_mem_cons.mpr ⟨oX6_about_9, fun _ h => absurd h List.not_mem_nil⟩⟩⟩⟩⟩⟩⟩⟩⟩⟩
end
section
def tX0_init_0 : List (Nat × hyE) := [(0, .aload_n 0, 1, 0, 0, 0, 0, 0, none, []),
  (1, .invokespecial 3, 4, 0, 0, 0, 0, 0, none, []),
  (4, .aload_n 0, 5, 0, 0, 0, 0, 0, none, []),
  (5, .bipush 8, 7, 0, 0, 0, 0, 8, none, []),
  (7, .newarray .int, 9, 0, 0, 0, 0, 0, none, []),
  (9, .putfield 11, 12, 0, 0, 2, 0, 0, none, []),
  (12, .aload_n 0, 13, 0, 0, 0, 0, 0, none, []),
  (13, .bipush 8, 15, 0, 0, 0, 0, 8, none, []),
  (15, .newarray .int, 17, 0, 0, 0, 0, 0, none, [])]
theorem oX0_init_0 : ∀ q ∈ tX0_init_0, hy_ok mX0_init q.1 q.2 = true := by decide +kernel
def tX0_init_1 : List (Nat × hyE) := [(17, .putfield 15, 20, 0, 1, 2, 0, 0, none, []),
  (20, .return_, 21, 0, 0, 0, 0, 0, none, [])]
theorem oX0_init_1 : ∀ q ∈ tX0_init_1, hy_ok mX0_init q.1 q.2 = true := by decide +kernel
def tX0_init : hyT := [tX0_init_0, tX0_init_1]
theorem oX0_init : hy_tok mX0_init tX0_init := List.forall_mem_cons.mpr ⟨oX0_init_0, List.forall_mem_cons.mpr ⟨oX0_init_1, fun _ h => absurd h List.not_mem_nil⟩⟩
def tX0_count_0 : List (Nat × hyE) := [(0, .aload_n 0, 1, 0, 0, 0, 0, 0, none, []),
  (1, .getfield 18, 4, 0, 2, 0, 0, 0, none, []),
  (4, .ireturn, 5, 0, 0, 0, 0, 0, none, [])]
theorem oX0_count_0 : ∀ q ∈ tX0_count_0, hy_ok mX0_count q.1 q.2 = true := by decide +kernel
def tX0_count : hyT := [tX0_count_0]
theorem oX0_count : hy_tok mX0_count tX0_count := List.forall_mem_cons.mpr ⟨oX0_count_0, fun _ h => absurd h List.not_mem_nil⟩
def tX0_tell_0 : List (Nat × hyE) := [(0, .aload_n 0, 1, 0, 0, 0, 0, 0, none, []),
  (1, .getfield 18, 4, 0, 2, 0, 0, 0, none, []),
  (4, .bipush 8, 6, 0, 0, 0, 0, 8, none, []),
  (6, .if_icmp .lt 5, 9, 11, 0, 0, 0, 0, none, []),
  (9, .iconst (-1), 10, 0, 0, 0, 0, (-1), none, []),
  (10, .ireturn, 11, 0, 0, 0, 0, 0, none, []),
  (11, .aload_n 0, 12, 0, 0, 0, 0, 0, none, []),
  (12, .getfield 11, 15, 0, 0, 0, 0, 0, none, []),
  (15, .aload_n 0, 16, 0, 0, 0, 0, 0, none, [])]
theorem oX0_tell_0 : ∀ q ∈ tX0_tell_0, hy_ok mX0_tell q.1 q.2 = true := by decide +kernel
def tX0_tell_1 : List (Nat × hyE) := [(16, .getfield 18, 19, 0, 2, 0, 0, 0, none, []),
  (19, .iload_n 1, 20, 1, 0, 0, 0, 0, none, []),
  (20, .iastore, 21, 0, 0, 0, 0, 0, none, []),
  (21, .aload_n 0, 22, 0, 0, 0, 0, 0, none, []),
  (22, .aload_n 0, 23, 0, 0, 0, 0, 0, none, []),
  (23, .getfield 18, 26, 0, 2, 0, 0, 0, none, []),
  (26, .iconst 1, 27, 0, 0, 0, 0, 1, none, []),
  (27, .iadd, 28, 0, 0, 0, 0, 0, none, []),
  (28, .invokevirtual 22, 31, 0, 1, 0, 0, 0, (some mX0_hasWay), []),
  (31, .ifCond .ne 5, 34, 36, 0, 0, 0, 0, none, [])]
theorem oX0_tell_1 : ∀ q ∈ tX0_tell_1, hy_ok mX0_tell q.1 q.2 = true := by decide +kernel
def tX0_tell_2 : List (Nat × hyE) := [(34, .iconst (-1), 35, 0, 0, 0, 0, (-1), none, []),
  (35, .ireturn, 36, 0, 0, 0, 0, 0, none, []),
  (36, .aload_n 0, 37, 0, 0, 0, 0, 0, none, []),
  (37, .dup, 38, 0, 0, 0, 0, 0, none, []),
  (38, .getfield 18, 41, 0, 2, 0, 0, 0, none, []),
  (41, .iconst 1, 42, 0, 0, 0, 0, 1, none, []),
  (42, .iadd, 43, 0, 0, 0, 0, 0, none, []),
  (43, .putfield 18, 46, 0, 2, 0, 0, 0, none, []),
  (46, .iconst 0, 47, 0, 0, 0, 0, 0, none, []),
  (47, .istore_n 2, 48, 2, 0, 0, 0, 0, none, [])]
theorem oX0_tell_2 : ∀ q ∈ tX0_tell_2, hy_ok mX0_tell q.1 q.2 = true := by decide +kernel
def tX0_tell_3 : List (Nat × hyE) := [(48, .iload_n 2, 49, 2, 0, 0, 0, 0, none, []),
  (49, .aload_n 0, 50, 0, 0, 0, 0, 0, none, []),
  (50, .getfield 18, 53, 0, 2, 0, 0, 0, none, []),
  (53, .if_icmp .ge 23, 56, 76, 0, 0, 0, 0, none, []),
  (56, .aload_n 0, 57, 0, 0, 0, 0, 0, none, []),
  (57, .getfield 15, 60, 0, 1, 0, 0, 0, none, []),
  (60, .iload_n 2, 61, 2, 0, 0, 0, 0, none, []),
  (61, .aload_n 0, 62, 0, 0, 0, 0, 0, none, []),
  (62, .iload_n 2, 63, 2, 0, 0, 0, 0, none, []),
  (63, .invokevirtual 26, 66, 0, 1, 0, 0, 0, (some mX0_reachable), [])]
theorem oX0_tell_3 : ∀ q ∈ tX0_tell_3, hy_ok mX0_tell q.1 q.2 = true := by decide +kernel
def tX0_tell_4 : List (Nat × hyE) := [(66, .invokestatic 30, 69, 13, 1, 0, 0, 0, (some mX0_onlyOne), []),
  (69, .iastore, 70, 0, 0, 0, 0, 0, none, []),
  (70, .iinc 2 1, 73, 2, 0, 0, 0, 1, none, []),
  (73, .goto (-25), 76, 48, 0, 0, 0, 0, none, []),
  (76, .aload_n 0, 77, 0, 0, 0, 0, 0, none, []),
  (77, .getfield 18, 80, 0, 2, 0, 0, 0, none, [])]
theorem oX0_tell_4 : ∀ q ∈ tX0_tell_4, hy_ok mX0_tell q.1 q.2 = true := by decide +kernel
def tX0_tell_5 : List (Nat × hyE) := [(80, .iconst 1, 81, 0, 0, 0, 0, 1, none, []),
  (81, .isub, 82, 0, 0, 0, 0, 0, none, []),
  (82, .ireturn, 83, 0, 0, 0, 0, 0, none, [])]
theorem oX0_tell_5 : ∀ q ∈ tX0_tell_5, hy_ok mX0_tell q.1 q.2 = true := by decide +kernel
def tX0_tell : hyT := [tX0_tell_0, tX0_tell_1, tX0_tell_2, tX0_tell_3, tX0_tell_4, tX0_tell_5]
theorem oX0_tell : hy_tok mX0_tell tX0_tell := List.forall_mem_cons.mpr ⟨oX0_tell_0, List.forall_mem_cons.mpr ⟨oX0_tell_1, List.forall_mem_cons.mpr ⟨oX0_tell_2, List.forall_mem_cons.mpr ⟨oX0_tell_3, List.forall_mem_cons.mpr ⟨oX0_tell_4, List.forall_mem_cons.mpr ⟨oX0_tell_5, fun _ h => absurd h List.not_mem_nil⟩⟩⟩⟩⟩⟩
def tX0_howManyFit_0 : List (Nat × hyE) := [(0, .aload_n 0, 1, 0, 0, 0, 0, 0, none, []),
  (1, .iload_n 1, 2, 1, 0, 0, 0, 0, none, []),
  (2, .invokevirtual 33, 5, 0, 1, 0, 0, 0, (some mX0_isFind), []),
  (5, .ifCond .eq 15, 8, 20, 0, 0, 0, 0, none, []),
  (8, .aload_n 0, 9, 0, 0, 0, 0, 0, none, []),
  (9, .getfield 11, 12, 0, 0, 0, 0, 0, none, []),
  (12, .iload_n 1, 13, 1, 0, 0, 0, 0, none, []),
  (13, .iaload, 14, 0, 0, 0, 0, 0, none, []),
  (14, .invokestatic 36, 17, 5, 1, 0, 0, 0, (some mJ6_bitCount_0f7a4), [])]
theorem oX0_howManyFit_0 : ∀ q ∈ tX0_howManyFit_0, hy_ok mX0_howManyFit q.1 q.2 = true := by decide +kernel
def tX0_howManyFit_1 : List (Nat × hyE) := [(17, .goto 4, 20, 21, 0, 0, 0, 0, none, []),
  (20, .iconst (-1), 21, 0, 0, 0, 0, (-1), none, []),
  (21, .ireturn, 22, 0, 0, 0, 0, 0, none, [])]
theorem oX0_howManyFit_1 : ∀ q ∈ tX0_howManyFit_1, hy_ok mX0_howManyFit q.1 q.2 = true := by decide +kernel
def tX0_howManyFit : hyT := [tX0_howManyFit_0, tX0_howManyFit_1]
theorem oX0_howManyFit : hy_tok mX0_howManyFit tX0_howManyFit := List.forall_mem_cons.mpr ⟨oX0_howManyFit_0, List.forall_mem_cons.mpr ⟨oX0_howManyFit_1, fun _ h => absurd h List.not_mem_nil⟩⟩
def tX0_sureNet_0 : List (Nat × hyE) := [(0, .aload_n 0, 1, 0, 0, 0, 0, 0, none, []),
  (1, .iload_n 1, 2, 1, 0, 0, 0, 0, none, []),
  (2, .invokevirtual 33, 5, 0, 1, 0, 0, 0, (some mX0_isFind), []),
  (5, .ifCond .eq 12, 8, 17, 0, 0, 0, 0, none, []),
  (8, .aload_n 0, 9, 0, 0, 0, 0, 0, none, []),
  (9, .getfield 15, 12, 0, 1, 0, 0, 0, none, []),
  (12, .iload_n 1, 13, 1, 0, 0, 0, 0, none, []),
  (13, .iaload, 14, 0, 0, 0, 0, 0, none, []),
  (14, .goto 4, 17, 18, 0, 0, 0, 0, none, [])]
theorem oX0_sureNet_0 : ∀ q ∈ tX0_sureNet_0, hy_ok mX0_sureNet q.1 q.2 = true := by decide +kernel
def tX0_sureNet_1 : List (Nat × hyE) := [(17, .iconst (-1), 18, 0, 0, 0, 0, (-1), none, []),
  (18, .ireturn, 19, 0, 0, 0, 0, 0, none, [])]
theorem oX0_sureNet_1 : ∀ q ∈ tX0_sureNet_1, hy_ok mX0_sureNet q.1 q.2 = true := by decide +kernel
def tX0_sureNet : hyT := [tX0_sureNet_0, tX0_sureNet_1]
theorem oX0_sureNet : hy_tok mX0_sureNet tX0_sureNet := List.forall_mem_cons.mpr ⟨oX0_sureNet_0, List.forall_mem_cons.mpr ⟨oX0_sureNet_1, fun _ h => absurd h List.not_mem_nil⟩⟩
def tX0_sureFind_0 : List (Nat × hyE) := [(0, .iload_n 1, 1, 1, 0, 0, 0, 0, none, []),
  (1, .ifCond .ge 5, 4, 6, 0, 0, 0, 0, none, []),
  (4, .iconst (-1), 5, 0, 0, 0, 0, (-1), none, []),
  (5, .ireturn, 6, 0, 0, 0, 0, 0, none, []),
  (6, .iconst 0, 7, 0, 0, 0, 0, 0, none, []),
  (7, .istore_n 2, 8, 2, 0, 0, 0, 0, none, []),
  (8, .iload_n 2, 9, 2, 0, 0, 0, 0, none, []),
  (9, .aload_n 0, 10, 0, 0, 0, 0, 0, none, []),
  (10, .getfield 18, 13, 0, 2, 0, 0, 0, none, []),
  (13, .if_icmp .ge 21, 16, 34, 0, 0, 0, 0, none, [])]
theorem oX0_sureFind_0 : ∀ q ∈ tX0_sureFind_0, hy_ok mX0_sureFind q.1 q.2 = true := by decide +kernel
def tX0_sureFind_1 : List (Nat × hyE) := [(16, .aload_n 0, 17, 0, 0, 0, 0, 0, none, []),
  (17, .getfield 15, 20, 0, 1, 0, 0, 0, none, []),
  (20, .iload_n 2, 21, 2, 0, 0, 0, 0, none, []),
  (21, .iaload, 22, 0, 0, 0, 0, 0, none, []),
  (22, .iload_n 1, 23, 1, 0, 0, 0, 0, none, []),
  (23, .if_icmp .ne 5, 26, 28, 0, 0, 0, 0, none, []),
  (26, .iload_n 2, 27, 2, 0, 0, 0, 0, none, []),
  (27, .ireturn, 28, 0, 0, 0, 0, 0, none, []),
  (28, .iinc 2 1, 31, 2, 0, 0, 0, 1, none, []),
  (31, .goto (-23), 34, 8, 0, 0, 0, 0, none, [])]
theorem oX0_sureFind_1 : ∀ q ∈ tX0_sureFind_1, hy_ok mX0_sureFind q.1 q.2 = true := by decide +kernel
def tX0_sureFind_2 : List (Nat × hyE) := [(34, .iconst (-1), 35, 0, 0, 0, 0, (-1), none, []),
  (35, .ireturn, 36, 0, 0, 0, 0, 0, none, [])]
theorem oX0_sureFind_2 : ∀ q ∈ tX0_sureFind_2, hy_ok mX0_sureFind q.1 q.2 = true := by decide +kernel
def tX0_sureFind : hyT := [tX0_sureFind_0, tX0_sureFind_1, tX0_sureFind_2]
theorem oX0_sureFind : hy_tok mX0_sureFind tX0_sureFind := List.forall_mem_cons.mpr ⟨oX0_sureFind_0, List.forall_mem_cons.mpr ⟨oX0_sureFind_1, List.forall_mem_cons.mpr ⟨oX0_sureFind_2, fun _ h => absurd h List.not_mem_nil⟩⟩⟩
def tX0_hasWay_0 : List (Nat × hyE) := [(0, .iconst 1, 1, 0, 0, 0, 0, 1, none, []),
  (1, .iload_n 1, 2, 1, 0, 0, 0, 0, none, []),
  (2, .ishl, 3, 0, 0, 0, 0, 0, none, []),
  (3, .istore_n 2, 4, 2, 0, 0, 0, 0, none, []),
  (4, .iconst 1, 5, 0, 0, 0, 0, 1, none, []),
  (5, .istore_n 3, 6, 3, 0, 0, 0, 0, none, []),
  (6, .iload_n 3, 7, 3, 0, 0, 0, 0, none, []),
  (7, .iload_n 2, 8, 2, 0, 0, 0, 0, none, []),
  (8, .if_icmp .ge 26, 11, 34, 0, 0, 0, 0, none, []),
  (11, .aload_n 0, 12, 0, 0, 0, 0, 0, none, []),
  (12, .iload_n 3, 13, 3, 0, 0, 0, 0, none, []),
  (13, .invokevirtual 41, 16, 0, 1, 0, 0, 0, (some mX0_fittedBy), [])]
theorem oX0_hasWay_0 : ∀ q ∈ tX0_hasWay_0, hy_ok mX0_hasWay q.1 q.2 = true := by decide +kernel
def tX0_hasWay_1 : List (Nat × hyE) := [(16, .invokestatic 36, 19, 5, 1, 0, 0, 0, (some mJ6_bitCount_0f7a4), []),
  (19, .iload_n 3, 20, 3, 0, 0, 0, 0, none, []),
  (20, .invokestatic 36, 23, 5, 1, 0, 0, 0, (some mJ6_bitCount_0f7a4), []),
  (23, .if_icmp .ge 5, 26, 28, 0, 0, 0, 0, none, []),
  (26, .iconst 0, 27, 0, 0, 0, 0, 0, none, []),
  (27, .ireturn, 28, 0, 0, 0, 0, 0, none, []),
  (28, .iinc 3 1, 31, 3, 0, 0, 0, 1, none, []),
  (31, .goto (-25), 34, 6, 0, 0, 0, 0, none, [])]
theorem oX0_hasWay_1 : ∀ q ∈ tX0_hasWay_1, hy_ok mX0_hasWay q.1 q.2 = true := by decide +kernel
def tX0_hasWay_2 : List (Nat × hyE) := [(34, .iconst 1, 35, 0, 0, 0, 0, 1, none, []),
  (35, .ireturn, 36, 0, 0, 0, 0, 0, none, [])]
theorem oX0_hasWay_2 : ∀ q ∈ tX0_hasWay_2, hy_ok mX0_hasWay q.1 q.2 = true := by decide +kernel
def tX0_hasWay : hyT := [tX0_hasWay_0, tX0_hasWay_1, tX0_hasWay_2]
theorem oX0_hasWay : hy_tok mX0_hasWay tX0_hasWay := List.forall_mem_cons.mpr ⟨oX0_hasWay_0, List.forall_mem_cons.mpr ⟨oX0_hasWay_1, List.forall_mem_cons.mpr ⟨oX0_hasWay_2, fun _ h => absurd h List.not_mem_nil⟩⟩⟩
def tX0_reachable_0 : List (Nat × hyE) := [(0, .aload_n 0, 1, 0, 0, 0, 0, 0, none, []),
  (1, .getfield 11, 4, 0, 0, 0, 0, 0, none, []),
  (4, .iload_n 1, 5, 1, 0, 0, 0, 0, none, []),
  (5, .iaload, 6, 0, 0, 0, 0, 0, none, []),
  (6, .istore_n 2, 7, 2, 0, 0, 0, 0, none, []),
  (7, .iconst 1, 8, 0, 0, 0, 0, 1, none, []),
  (8, .aload_n 0, 9, 0, 0, 0, 0, 0, none, []),
  (9, .getfield 18, 12, 0, 2, 0, 0, 0, none, []),
  (12, .ishl, 13, 0, 0, 0, 0, 0, none, []),
  (13, .istore_n 3, 14, 3, 0, 0, 0, 0, none, []),
  (14, .iconst 1, 15, 0, 0, 0, 0, 1, none, []),
  (15, .istore 4, 17, 4, 0, 0, 0, 0, none, [])]
theorem oX0_reachable_0 : ∀ q ∈ tX0_reachable_0, hy_ok mX0_reachable q.1 q.2 = true := by decide +kernel
def tX0_reachable_1 : List (Nat × hyE) := [(17, .iload 4, 19, 4, 0, 0, 0, 0, none, []),
  (19, .iload_n 3, 20, 3, 0, 0, 0, 0, none, []),
  (20, .if_icmp .ge 58, 23, 78, 0, 0, 0, 0, none, []),
  (23, .iload 4, 25, 4, 0, 0, 0, 0, none, []),
  (25, .iload_n 1, 26, 1, 0, 0, 0, 0, none, []),
  (26, .ishr, 27, 0, 0, 0, 0, 0, none, []),
  (27, .iconst 1, 28, 0, 0, 0, 0, 1, none, []),
  (28, .iand, 29, 0, 0, 0, 0, 0, none, []),
  (29, .ifCond .ne 7, 32, 36, 0, 0, 0, 0, none, [])]
theorem oX0_reachable_1 : ∀ q ∈ tX0_reachable_1, hy_ok mX0_reachable q.1 q.2 = true := by decide +kernel
def tX0_reachable_2 : List (Nat × hyE) := [(32, .iconst 1, 33, 0, 0, 0, 0, 1, none, []),
  (33, .goto 4, 36, 37, 0, 0, 0, 0, none, []),
  (36, .iconst 0, 37, 0, 0, 0, 0, 0, none, []),
  (37, .istore 5, 39, 5, 0, 0, 0, 0, none, []),
  (39, .aload_n 0, 40, 0, 0, 0, 0, 0, none, []),
  (40, .iload 4, 42, 4, 0, 0, 0, 0, none, []),
  (42, .invokevirtual 41, 45, 0, 1, 0, 0, 0, (some mX0_fittedBy), []),
  (45, .istore 6, 47, 6, 0, 0, 0, 0, none, []),
  (47, .iload 5, 49, 5, 0, 0, 0, 0, none, [])]
theorem oX0_reachable_2 : ∀ q ∈ tX0_reachable_2, hy_ok mX0_reachable q.1 q.2 = true := by decide +kernel
def tX0_reachable_3 : List (Nat × hyE) := [(49, .ifCond .eq 23, 52, 72, 0, 0, 0, 0, none, []),
  (52, .iload 6, 54, 6, 0, 0, 0, 0, none, []),
  (54, .invokestatic 36, 57, 5, 1, 0, 0, 0, (some mJ6_bitCount_0f7a4), []),
  (57, .iload 4, 59, 4, 0, 0, 0, 0, none, []),
  (59, .invokestatic 36, 62, 5, 1, 0, 0, 0, (some mJ6_bitCount_0f7a4), []),
  (62, .if_icmp .ne 10, 65, 72, 0, 0, 0, 0, none, [])]
theorem oX0_reachable_3 : ∀ q ∈ tX0_reachable_3, hy_ok mX0_reachable q.1 q.2 = true := by decide +kernel
def tX0_reachable_4 : List (Nat × hyE) := [(65, .iload_n 2, 66, 2, 0, 0, 0, 0, none, []),
  (66, .iload 6, 68, 6, 0, 0, 0, 0, none, []),
  (68, .iconst (-1), 69, 0, 0, 0, 0, (-1), none, []),
  (69, .ixor, 70, 0, 0, 0, 0, 0, none, []),
  (70, .iand, 71, 0, 0, 0, 0, 0, none, []),
  (71, .istore_n 2, 72, 2, 0, 0, 0, 0, none, []),
  (72, .iinc 4 1, 75, 4, 0, 0, 0, 1, none, []),
  (75, .goto (-58), 78, 17, 0, 0, 0, 0, none, []),
  (78, .iload_n 2, 79, 2, 0, 0, 0, 0, none, []),
  (79, .ireturn, 80, 0, 0, 0, 0, 0, none, [])]
theorem oX0_reachable_4 : ∀ q ∈ tX0_reachable_4, hy_ok mX0_reachable q.1 q.2 = true := by decide +kernel
def tX0_reachable : hyT := [tX0_reachable_0, tX0_reachable_1, tX0_reachable_2, tX0_reachable_3, tX0_reachable_4]
theorem oX0_reachable : hy_tok mX0_reachable tX0_reachable := List.forall_mem_cons.mpr ⟨oX0_reachable_0, List.forall_mem_cons.mpr ⟨oX0_reachable_1, List.forall_mem_cons.mpr ⟨oX0_reachable_2, List.forall_mem_cons.mpr ⟨oX0_reachable_3, List.forall_mem_cons.mpr ⟨oX0_reachable_4, fun _ h => absurd h List.not_mem_nil⟩⟩⟩⟩⟩
def tX0_fittedBy_0 : List (Nat × hyE) := [(0, .iconst 0, 1, 0, 0, 0, 0, 0, none, []),
  (1, .istore_n 2, 2, 2, 0, 0, 0, 0, none, []),
  (2, .iconst 0, 3, 0, 0, 0, 0, 0, none, []),
  (3, .istore_n 3, 4, 3, 0, 0, 0, 0, none, []),
  (4, .iload_n 3, 5, 3, 0, 0, 0, 0, none, []),
  (5, .bipush 8, 7, 0, 0, 0, 0, 8, none, []),
  (7, .if_icmp .ge 26, 10, 33, 0, 0, 0, 0, none, []),
  (10, .iload_n 1, 11, 1, 0, 0, 0, 0, none, []),
  (11, .iload_n 3, 12, 3, 0, 0, 0, 0, none, []),
  (12, .ishr, 13, 0, 0, 0, 0, 0, none, []),
  (13, .iconst 1, 14, 0, 0, 0, 0, 1, none, []),
  (14, .iand, 15, 0, 0, 0, 0, 0, none, []),
  (15, .ifCond .eq 12, 18, 27, 0, 0, 0, 0, none, [])]
theorem oX0_fittedBy_0 : ∀ q ∈ tX0_fittedBy_0, hy_ok mX0_fittedBy q.1 q.2 = true := by decide +kernel
def tX0_fittedBy_1 : List (Nat × hyE) := [(18, .iload_n 2, 19, 2, 0, 0, 0, 0, none, []),
  (19, .aload_n 0, 20, 0, 0, 0, 0, 0, none, []),
  (20, .getfield 11, 23, 0, 0, 0, 0, 0, none, []),
  (23, .iload_n 3, 24, 3, 0, 0, 0, 0, none, []),
  (24, .iaload, 25, 0, 0, 0, 0, 0, none, []),
  (25, .ior, 26, 0, 0, 0, 0, 0, none, []),
  (26, .istore_n 2, 27, 2, 0, 0, 0, 0, none, []),
  (27, .iinc 3 1, 30, 3, 0, 0, 0, 1, none, []),
  (30, .goto (-26), 33, 4, 0, 0, 0, 0, none, [])]
theorem oX0_fittedBy_1 : ∀ q ∈ tX0_fittedBy_1, hy_ok mX0_fittedBy q.1 q.2 = true := by decide +kernel
def tX0_fittedBy_2 : List (Nat × hyE) := [(33, .iload_n 2, 34, 2, 0, 0, 0, 0, none, []),
  (34, .ireturn, 35, 0, 0, 0, 0, 0, none, [])]
theorem oX0_fittedBy_2 : ∀ q ∈ tX0_fittedBy_2, hy_ok mX0_fittedBy q.1 q.2 = true := by decide +kernel
def tX0_fittedBy : hyT := [tX0_fittedBy_0, tX0_fittedBy_1, tX0_fittedBy_2]
theorem oX0_fittedBy : hy_tok mX0_fittedBy tX0_fittedBy := List.forall_mem_cons.mpr ⟨oX0_fittedBy_0, List.forall_mem_cons.mpr ⟨oX0_fittedBy_1, List.forall_mem_cons.mpr ⟨oX0_fittedBy_2, fun _ h => absurd h List.not_mem_nil⟩⟩⟩
def tX0_onlyOne_0 : List (Nat × hyE) := [(0, .iload_n 0, 1, 0, 0, 0, 0, 0, none, []),
  (1, .invokestatic 36, 4, 5, 1, 0, 0, 0, (some mJ6_bitCount_0f7a4), []),
  (4, .iconst 1, 5, 0, 0, 0, 0, 1, none, []),
  (5, .if_icmp .ne 10, 8, 15, 0, 0, 0, 0, none, []),
  (8, .iload_n 0, 9, 0, 0, 0, 0, 0, none, []),
  (9, .invokestatic 44, 12, 6, 1, 0, 0, 0, (some mJ6_numberOfTrailingZeros_0f7a4), []),
  (12, .goto 4, 15, 16, 0, 0, 0, 0, none, []),
  (15, .iconst (-1), 16, 0, 0, 0, 0, (-1), none, [])]
theorem oX0_onlyOne_0 : ∀ q ∈ tX0_onlyOne_0, hy_ok mX0_onlyOne q.1 q.2 = true := by decide +kernel
def tX0_onlyOne_1 : List (Nat × hyE) := [(16, .ireturn, 17, 0, 0, 0, 0, 0, none, [])]
theorem oX0_onlyOne_1 : ∀ q ∈ tX0_onlyOne_1, hy_ok mX0_onlyOne q.1 q.2 = true := by decide +kernel
def tX0_onlyOne : hyT := [tX0_onlyOne_0, tX0_onlyOne_1]
theorem oX0_onlyOne : hy_tok mX0_onlyOne tX0_onlyOne := List.forall_mem_cons.mpr ⟨oX0_onlyOne_0, List.forall_mem_cons.mpr ⟨oX0_onlyOne_1, fun _ h => absurd h List.not_mem_nil⟩⟩
def tX0_isFind_0 : List (Nat × hyE) := [(0, .iload_n 1, 1, 1, 0, 0, 0, 0, none, []),
  (1, .iconst 0, 2, 0, 0, 0, 0, 0, none, []),
  (2, .aload_n 0, 3, 0, 0, 0, 0, 0, none, []),
  (3, .getfield 18, 6, 0, 2, 0, 0, 0, none, []),
  (6, .iconst 1, 7, 0, 0, 0, 0, 1, none, []),
  (7, .isub, 8, 0, 0, 0, 0, 0, none, []),
  (8, .invokestatic 47, 11, 1, 3, 1, 0, 0, (some mX5_within), []),
  (11, .ireturn, 12, 0, 0, 0, 0, 0, none, [])]
theorem oX0_isFind_0 : ∀ q ∈ tX0_isFind_0, hy_ok mX0_isFind q.1 q.2 = true := by decide +kernel
def tX0_isFind : hyT := [tX0_isFind_0]
theorem oX0_isFind : hy_tok mX0_isFind tX0_isFind := List.forall_mem_cons.mpr ⟨oX0_isFind_0, fun _ h => absurd h List.not_mem_nil⟩
def tX2_init_0 : List (Nat × hyE) := [(0, .aload_n 0, 1, 0, 0, 0, 0, 0, none, []),
  (1, .invokespecial 3, 4, 0, 0, 0, 0, 0, none, []),
  (4, .aload_n 0, 5, 0, 0, 0, 0, 0, none, []),
  (5, .bipush 8, 7, 0, 0, 0, 0, 8, none, []),
  (7, .newarray .int, 9, 0, 0, 0, 0, 0, none, []),
  (9, .putfield 11, 12, 2, 0, 2, 0, 0, none, []),
  (12, .aload_n 0, 13, 0, 0, 0, 0, 0, none, []),
  (13, .bipush 10, 15, 0, 0, 0, 0, 10, none, []),
  (15, .newarray .int, 17, 0, 0, 0, 0, 0, none, [])]
theorem oX2_init_0 : ∀ q ∈ tX2_init_0, hy_ok mX2_init q.1 q.2 = true := by decide +kernel
def tX2_init_1 : List (Nat × hyE) := [(17, .putfield 15, 20, 2, 1, 2, 0, 0, none, []),
  (20, .aload_n 0, 21, 0, 0, 0, 0, 0, none, []),
  (21, .bipush 24, 23, 0, 0, 0, 0, 24, none, []),
  (23, .newarray .int, 25, 0, 0, 0, 0, 0, none, []),
  (25, .putfield 18, 28, 2, 2, 2, 0, 0, none, []),
  (28, .aload_n 0, 29, 0, 0, 0, 0, 0, none, []),
  (29, .bipush 24, 31, 0, 0, 0, 0, 24, none, []),
  (31, .newarray .int, 33, 0, 0, 0, 0, 0, none, [])]
theorem oX2_init_1 : ∀ q ∈ tX2_init_1, hy_ok mX2_init q.1 q.2 = true := by decide +kernel
def tX2_init_2 : List (Nat × hyE) := [(33, .putfield 21, 36, 2, 3, 2, 0, 0, none, []),
  (36, .aload_n 0, 37, 0, 0, 0, 0, 0, none, []),
  (37, .bipush 24, 39, 0, 0, 0, 0, 24, none, []),
  (39, .newarray .int, 41, 0, 0, 0, 0, 0, none, []),
  (41, .putfield 24, 44, 2, 4, 2, 0, 0, none, []),
  (44, .aload_n 0, 45, 0, 0, 0, 0, 0, none, []),
  (45, .bipush 24, 47, 0, 0, 0, 0, 24, none, []),
  (47, .newarray .int, 49, 0, 0, 0, 0, 0, none, [])]
theorem oX2_init_2 : ∀ q ∈ tX2_init_2, hy_ok mX2_init q.1 q.2 = true := by decide +kernel
def tX2_init_3 : List (Nat × hyE) := [(49, .putfield 27, 52, 2, 5, 2, 0, 0, none, []),
  (52, .aload_n 0, 53, 0, 0, 0, 0, 0, none, []),
  (53, .bipush 24, 55, 0, 0, 0, 0, 24, none, []),
  (55, .newarray .int, 57, 0, 0, 0, 0, 0, none, []),
  (57, .putfield 30, 60, 2, 6, 2, 0, 0, none, []),
  (60, .aload_n 0, 61, 0, 0, 0, 0, 0, none, []),
  (61, .bipush 24, 63, 0, 0, 0, 0, 24, none, []),
  (63, .newarray .int, 65, 0, 0, 0, 0, 0, none, [])]
theorem oX2_init_3 : ∀ q ∈ tX2_init_3, hy_ok mX2_init q.1 q.2 = true := by decide +kernel
def tX2_init_4 : List (Nat × hyE) := [(65, .putfield 33, 68, 2, 7, 2, 0, 0, none, []),
  (68, .iconst 0, 69, 0, 0, 0, 0, 0, none, []),
  (69, .istore_n 1, 70, 1, 0, 0, 0, 0, none, []),
  (70, .iload_n 1, 71, 1, 0, 0, 0, 0, none, []),
  (71, .bipush 10, 73, 0, 0, 0, 0, 10, none, []),
  (73, .if_icmp .ge 18, 76, 91, 0, 0, 0, 0, none, []),
  (76, .aload_n 0, 77, 0, 0, 0, 0, 0, none, []),
  (77, .getfield 15, 80, 2, 1, 0, 0, 0, none, [])]
theorem oX2_init_4 : ∀ q ∈ tX2_init_4, hy_ok mX2_init q.1 q.2 = true := by decide +kernel
def tX2_init_5 : List (Nat × hyE) := [(80, .iload_n 1, 81, 1, 0, 0, 0, 0, none, []),
  (81, .iconst 1, 82, 0, 0, 0, 0, 1, none, []),
  (82, .iload_n 1, 83, 1, 0, 0, 0, 0, none, []),
  (83, .iadd, 84, 0, 0, 0, 0, 0, none, []),
  (84, .iastore, 85, 0, 0, 0, 0, 0, none, []),
  (85, .iinc 1 1, 88, 1, 0, 0, 0, 1, none, []),
  (88, .goto (-18), 91, 70, 0, 0, 0, 0, none, []),
  (91, .return_, 92, 0, 0, 0, 0, 0, none, [])]
theorem oX2_init_5 : ∀ q ∈ tX2_init_5, hy_ok mX2_init q.1 q.2 = true := by decide +kernel
def tX2_init : hyT := [tX2_init_0, tX2_init_1, tX2_init_2, tX2_init_3, tX2_init_4, tX2_init_5]
theorem oX2_init : hy_tok mX2_init tX2_init := List.forall_mem_cons.mpr ⟨oX2_init_0, List.forall_mem_cons.mpr ⟨oX2_init_1, List.forall_mem_cons.mpr ⟨oX2_init_2, List.forall_mem_cons.mpr ⟨oX2_init_3, List.forall_mem_cons.mpr ⟨oX2_init_4, List.forall_mem_cons.mpr ⟨oX2_init_5, fun _ h => absurd h List.not_mem_nil⟩⟩⟩⟩⟩⟩
def tX2_count_0 : List (Nat × hyE) := [(0, .aload_n 0, 1, 0, 0, 0, 0, 0, none, []),
  (1, .getfield 36, 4, 2, 8, 0, 0, 0, none, []),
  (4, .ireturn, 5, 0, 0, 0, 0, 0, none, [])]
theorem oX2_count_0 : ∀ q ∈ tX2_count_0, hy_ok mX2_count q.1 q.2 = true := by decide +kernel
def tX2_count : hyT := [tX2_count_0]
theorem oX2_count : hy_tok mX2_count tX2_count := List.forall_mem_cons.mpr ⟨oX2_count_0, fun _ h => absurd h List.not_mem_nil⟩
def tX2_clock_0 : List (Nat × hyE) := [(0, .aload_n 0, 1, 0, 0, 0, 0, 0, none, []),
  (1, .getfield 40, 4, 2, 9, 0, 0, 0, none, []),
  (4, .ireturn, 5, 0, 0, 0, 0, 0, none, [])]
theorem oX2_clock_0 : ∀ q ∈ tX2_clock_0, hy_ok mX2_clock q.1 q.2 = true := by decide +kernel
def tX2_clock : hyT := [tX2_clock_0]
theorem oX2_clock : hy_tok mX2_clock tX2_clock := List.forall_mem_cons.mpr ⟨oX2_clock_0, fun _ h => absurd h List.not_mem_nil⟩
def tX2_huskTotal_0 : List (Nat × hyE) := [(0, .aload_n 0, 1, 0, 0, 0, 0, 0, none, []),
  (1, .getfield 43, 4, 2, 10, 0, 0, 0, none, []),
  (4, .ireturn, 5, 0, 0, 0, 0, 0, none, [])]
theorem oX2_huskTotal_0 : ∀ q ∈ tX2_huskTotal_0, hy_ok mX2_huskTotal q.1 q.2 = true := by decide +kernel
def tX2_huskTotal : hyT := [tX2_huskTotal_0]
theorem oX2_huskTotal : hy_tok mX2_huskTotal tX2_huskTotal := List.forall_mem_cons.mpr ⟨oX2_huskTotal_0, fun _ h => absurd h List.not_mem_nil⟩
def tX2_setSalt_0 : List (Nat × hyE) := [(0, .iload_n 1, 1, 1, 0, 0, 0, 0, none, []),
  (1, .invokestatic 46, 4, 11, 1, 0, 0, 0, (some mX2_isPit), []),
  (4, .ifCond .eq 13, 7, 17, 0, 0, 0, 0, none, []),
  (7, .iload_n 2, 8, 2, 0, 0, 0, 0, none, []),
  (8, .iconst 0, 9, 0, 0, 0, 0, 0, none, []),
  (9, .bipush 9, 11, 0, 0, 0, 0, 9, none, []),
  (11, .invokestatic 50, 14, 1, 3, 1, 0, 0, (some mX5_within), []),
  (14, .ifCond .ne 5, 17, 19, 0, 0, 0, 0, none, [])]
theorem oX2_setSalt_0 : ∀ q ∈ tX2_setSalt_0, hy_ok mX2_setSalt q.1 q.2 = true := by decide +kernel
def tX2_setSalt_1 : List (Nat × hyE) := [(17, .iconst 0, 18, 0, 0, 0, 0, 0, none, []),
  (18, .ireturn, 19, 0, 0, 0, 0, 0, none, []),
  (19, .aload_n 0, 20, 0, 0, 0, 0, 0, none, []),
  (20, .getfield 11, 23, 2, 0, 0, 0, 0, none, []),
  (23, .iload_n 1, 24, 1, 0, 0, 0, 0, none, []),
  (24, .iload_n 2, 25, 2, 0, 0, 0, 0, none, []),
  (25, .iastore, 26, 0, 0, 0, 0, 0, none, []),
  (26, .iconst 1, 27, 0, 0, 0, 0, 1, none, []),
  (27, .ireturn, 28, 0, 0, 0, 0, 0, none, [])]
theorem oX2_setSalt_1 : ∀ q ∈ tX2_setSalt_1, hy_ok mX2_setSalt q.1 q.2 = true := by decide +kernel
def tX2_setSalt : hyT := [tX2_setSalt_0, tX2_setSalt_1]
theorem oX2_setSalt : hy_tok mX2_setSalt tX2_setSalt := List.forall_mem_cons.mpr ⟨oX2_setSalt_0, List.forall_mem_cons.mpr ⟨oX2_setSalt_1, fun _ h => absurd h List.not_mem_nil⟩⟩
def tX2_setRipens_0 : List (Nat × hyE) := [(0, .iload_n 1, 1, 1, 0, 0, 0, 0, none, []),
  (1, .iconst 0, 2, 0, 0, 0, 0, 0, none, []),
  (2, .bipush 9, 4, 0, 0, 0, 0, 9, none, []),
  (4, .invokestatic 50, 7, 1, 3, 1, 0, 0, (some mX5_within), []),
  (7, .ifCond .eq 13, 10, 20, 0, 0, 0, 0, none, []),
  (10, .iload_n 2, 11, 2, 0, 0, 0, 0, none, []),
  (11, .iconst 0, 12, 0, 0, 0, 0, 0, none, []),
  (12, .bipush 50, 14, 0, 0, 0, 0, 50, none, []),
  (14, .invokestatic 50, 17, 1, 3, 1, 0, 0, (some mX5_within), [])]
theorem oX2_setRipens_0 : ∀ q ∈ tX2_setRipens_0, hy_ok mX2_setRipens q.1 q.2 = true := by decide +kernel
def tX2_setRipens_1 : List (Nat × hyE) := [(17, .ifCond .ne 5, 20, 22, 0, 0, 0, 0, none, []),
  (20, .iconst 0, 21, 0, 0, 0, 0, 0, none, []),
  (21, .ireturn, 22, 0, 0, 0, 0, 0, none, []),
  (22, .aload_n 0, 23, 0, 0, 0, 0, 0, none, []),
  (23, .getfield 15, 26, 2, 1, 0, 0, 0, none, []),
  (26, .iload_n 1, 27, 1, 0, 0, 0, 0, none, []),
  (27, .iload_n 2, 28, 2, 0, 0, 0, 0, none, []),
  (28, .iastore, 29, 0, 0, 0, 0, 0, none, []),
  (29, .iconst 1, 30, 0, 0, 0, 0, 1, none, []),
  (30, .ireturn, 31, 0, 0, 0, 0, 0, none, [])]
theorem oX2_setRipens_1 : ∀ q ∈ tX2_setRipens_1, hy_ok mX2_setRipens q.1 q.2 = true := by decide +kernel
def tX2_setRipens : hyT := [tX2_setRipens_0, tX2_setRipens_1]
theorem oX2_setRipens : hy_tok mX2_setRipens tX2_setRipens := List.forall_mem_cons.mpr ⟨oX2_setRipens_0, List.forall_mem_cons.mpr ⟨oX2_setRipens_1, fun _ h => absurd h List.not_mem_nil⟩⟩
def tX2_putIn_0 : List (Nat × hyE) := [(0, .iload_n 1, 1, 1, 0, 0, 0, 0, none, []),
  (1, .invokestatic 46, 4, 11, 1, 0, 0, 0, (some mX2_isPit), []),
  (4, .ifCond .eq 42, 7, 46, 0, 0, 0, 0, none, []),
  (7, .iload_n 2, 8, 2, 0, 0, 0, 0, none, []),
  (8, .invokestatic 54, 11, 10, 1, 1, 0, 0, (some mX5_isMarks), []),
  (11, .ifCond .eq 35, 14, 46, 0, 0, 0, 0, none, []),
  (14, .iload_n 3, 15, 3, 0, 0, 0, 0, none, []),
  (15, .iconst 1, 16, 0, 0, 0, 0, 1, none, [])]
theorem oX2_putIn_0 : ∀ q ∈ tX2_putIn_0, hy_ok mX2_putIn q.1 q.2 = true := by decide +kernel
def tX2_putIn_1 : List (Nat × hyE) := [(16, .sipush 1000, 19, 0, 0, 0, 0, 1000, none, []),
  (19, .invokestatic 50, 22, 1, 3, 1, 0, 0, (some mX5_within), []),
  (22, .ifCond .eq 24, 25, 46, 0, 0, 0, 0, none, []),
  (25, .iload 4, 27, 4, 0, 0, 0, 0, none, []),
  (27, .iconst 1, 28, 0, 0, 0, 0, 1, none, []),
  (28, .sipush 2000, 31, 0, 0, 0, 0, 2000, none, []),
  (31, .invokestatic 50, 34, 1, 3, 1, 0, 0, (some mX5_within), [])]
theorem oX2_putIn_1 : ∀ q ∈ tX2_putIn_1, hy_ok mX2_putIn q.1 q.2 = true := by decide +kernel
def tX2_putIn_2 : List (Nat × hyE) := [(34, .ifCond .eq 12, 37, 46, 0, 0, 0, 0, none, []),
  (37, .aload_n 0, 38, 0, 0, 0, 0, 0, none, []),
  (38, .getfield 36, 41, 2, 8, 0, 0, 0, none, []),
  (41, .bipush 24, 43, 0, 0, 0, 0, 24, none, []),
  (43, .if_icmp .lt 5, 46, 48, 0, 0, 0, 0, none, []),
  (46, .iconst (-1), 47, 0, 0, 0, 0, (-1), none, []),
  (47, .ireturn, 48, 0, 0, 0, 0, 0, none, [])]
theorem oX2_putIn_2 : ∀ q ∈ tX2_putIn_2, hy_ok mX2_putIn q.1 q.2 = true := by decide +kernel
def tX2_putIn_3 : List (Nat × hyE) := [(48, .aload_n 0, 49, 0, 0, 0, 0, 0, none, []),
  (49, .getfield 18, 52, 2, 2, 0, 0, 0, none, []),
  (52, .aload_n 0, 53, 0, 0, 0, 0, 0, none, []),
  (53, .getfield 36, 56, 2, 8, 0, 0, 0, none, []),
  (56, .iload_n 1, 57, 1, 0, 0, 0, 0, none, []),
  (57, .iastore, 58, 0, 0, 0, 0, 0, none, []),
  (58, .aload_n 0, 59, 0, 0, 0, 0, 0, none, []),
  (59, .getfield 21, 62, 2, 3, 0, 0, 0, none, []),
  (62, .aload_n 0, 63, 0, 0, 0, 0, 0, none, []),
  (63, .getfield 36, 66, 2, 8, 0, 0, 0, none, [])]
theorem oX2_putIn_3 : ∀ q ∈ tX2_putIn_3, hy_ok mX2_putIn q.1 q.2 = true := by decide +kernel
def tX2_putIn_4 : List (Nat × hyE) := [(66, .iload_n 2, 67, 2, 0, 0, 0, 0, none, []),
  (67, .iastore, 68, 0, 0, 0, 0, 0, none, []),
  (68, .aload_n 0, 69, 0, 0, 0, 0, 0, none, []),
  (69, .getfield 24, 72, 2, 4, 0, 0, 0, none, []),
  (72, .aload_n 0, 73, 0, 0, 0, 0, 0, none, []),
  (73, .getfield 36, 76, 2, 8, 0, 0, 0, none, []),
  (76, .iload_n 3, 77, 3, 0, 0, 0, 0, none, []),
  (77, .iastore, 78, 0, 0, 0, 0, 0, none, []),
  (78, .aload_n 0, 79, 0, 0, 0, 0, 0, none, []),
  (79, .getfield 27, 82, 2, 5, 0, 0, 0, none, [])]
theorem oX2_putIn_4 : ∀ q ∈ tX2_putIn_4, hy_ok mX2_putIn q.1 q.2 = true := by decide +kernel
def tX2_putIn_5 : List (Nat × hyE) := [(82, .aload_n 0, 83, 0, 0, 0, 0, 0, none, []),
  (83, .getfield 36, 86, 2, 8, 0, 0, 0, none, []),
  (86, .iload 4, 88, 4, 0, 0, 0, 0, none, []),
  (88, .iastore, 89, 0, 0, 0, 0, 0, none, []),
  (89, .aload_n 0, 90, 0, 0, 0, 0, 0, none, []),
  (90, .getfield 30, 93, 2, 6, 0, 0, 0, none, []),
  (93, .aload_n 0, 94, 0, 0, 0, 0, 0, none, []),
  (94, .getfield 36, 97, 2, 8, 0, 0, 0, none, [])]
theorem oX2_putIn_5 : ∀ q ∈ tX2_putIn_5, hy_ok mX2_putIn q.1 q.2 = true := by decide +kernel
def tX2_putIn_6 : List (Nat × hyE) := [(97, .iconst 0, 98, 0, 0, 0, 0, 0, none, []),
  (98, .iastore, 99, 0, 0, 0, 0, 0, none, []),
  (99, .aload_n 0, 100, 0, 0, 0, 0, 0, none, []),
  (100, .getfield 33, 103, 2, 7, 0, 0, 0, none, []),
  (103, .aload_n 0, 104, 0, 0, 0, 0, 0, none, []),
  (104, .getfield 36, 107, 2, 8, 0, 0, 0, none, []),
  (107, .iconst 0, 108, 0, 0, 0, 0, 0, none, []),
  (108, .iastore, 109, 0, 0, 0, 0, 0, none, []),
  (109, .aload_n 0, 110, 0, 0, 0, 0, 0, none, []),
  (110, .dup, 111, 0, 0, 0, 0, 0, none, []),
  (111, .getfield 36, 114, 2, 8, 0, 0, 0, none, [])]
theorem oX2_putIn_6 : ∀ q ∈ tX2_putIn_6, hy_ok mX2_putIn q.1 q.2 = true := by decide +kernel
def tX2_putIn_7 : List (Nat × hyE) := [(114, .iconst 1, 115, 0, 0, 0, 0, 1, none, []),
  (115, .iadd, 116, 0, 0, 0, 0, 0, none, []),
  (116, .putfield 36, 119, 2, 8, 0, 0, 0, none, []),
  (119, .aload_n 0, 120, 0, 0, 0, 0, 0, none, []),
  (120, .getfield 36, 123, 2, 8, 0, 0, 0, none, []),
  (123, .iconst 1, 124, 0, 0, 0, 0, 1, none, []),
  (124, .isub, 125, 0, 0, 0, 0, 0, none, []),
  (125, .ireturn, 126, 0, 0, 0, 0, 0, none, [])]
theorem oX2_putIn_7 : ∀ q ∈ tX2_putIn_7, hy_ok mX2_putIn q.1 q.2 = true := by decide +kernel
def tX2_putIn : hyT := [tX2_putIn_0, tX2_putIn_1, tX2_putIn_2, tX2_putIn_3, tX2_putIn_4, tX2_putIn_5, tX2_putIn_6, tX2_putIn_7]
theorem oX2_putIn : hy_tok mX2_putIn tX2_putIn := List.forall_mem_cons.mpr ⟨oX2_putIn_0, List.forall_mem_cons.mpr ⟨oX2_putIn_1, List.forall_mem_cons.mpr ⟨oX2_putIn_2, List.forall_mem_cons.mpr ⟨oX2_putIn_3, List.forall_mem_cons.mpr ⟨oX2_putIn_4, List.forall_mem_cons.mpr ⟨oX2_putIn_5, List.forall_mem_cons.mpr ⟨oX2_putIn_6, List.forall_mem_cons.mpr ⟨oX2_putIn_7, fun _ h => absurd h List.not_mem_nil⟩⟩⟩⟩⟩⟩⟩⟩
def tX2_goBy_0 : List (Nat × hyE) := [(0, .iload_n 1, 1, 1, 0, 0, 0, 0, none, []),
  (1, .iconst 1, 2, 0, 0, 0, 0, 1, none, []),
  (2, .bipush 100, 4, 0, 0, 0, 0, 100, none, []),
  (4, .invokestatic 50, 7, 1, 3, 1, 0, 0, (some mX5_within), []),
  (7, .ifCond .eq 15, 10, 22, 0, 0, 0, 0, none, []),
  (10, .aload_n 0, 11, 0, 0, 0, 0, 0, none, []),
  (11, .getfield 40, 14, 2, 9, 0, 0, 0, none, []),
  (14, .iload_n 1, 15, 1, 0, 0, 0, 0, none, []),
  (15, .iadd, 16, 0, 0, 0, 0, 0, none, [])]
theorem oX2_goBy_0 : ∀ q ∈ tX2_goBy_0, hy_ok mX2_goBy q.1 q.2 = true := by decide +kernel
def tX2_goBy_1 : List (Nat × hyE) := [(16, .sipush 500, 19, 0, 0, 0, 0, 500, none, []),
  (19, .if_icmp .le 5, 22, 24, 0, 0, 0, 0, none, []),
  (22, .iconst (-1), 23, 0, 0, 0, 0, (-1), none, []),
  (23, .ireturn, 24, 0, 0, 0, 0, 0, none, []),
  (24, .iconst 0, 25, 0, 0, 0, 0, 0, none, []),
  (25, .istore_n 2, 26, 2, 0, 0, 0, 0, none, []),
  (26, .iload_n 2, 27, 2, 0, 0, 0, 0, none, []),
  (27, .aload_n 0, 28, 0, 0, 0, 0, 0, none, []),
  (28, .getfield 36, 31, 2, 8, 0, 0, 0, none, []),
  (31, .if_icmp .ge 34, 34, 65, 0, 0, 0, 0, none, [])]
theorem oX2_goBy_1 : ∀ q ∈ tX2_goBy_1, hy_ok mX2_goBy q.1 q.2 = true := by decide +kernel
def tX2_goBy_2 : List (Nat × hyE) := [(34, .aload_n 0, 35, 0, 0, 0, 0, 0, none, []),
  (35, .getfield 33, 38, 2, 7, 0, 0, 0, none, []),
  (38, .iload_n 2, 39, 2, 0, 0, 0, 0, none, []),
  (39, .iaload, 40, 0, 0, 0, 0, 0, none, []),
  (40, .ifCond .ne 19, 43, 59, 0, 0, 0, 0, none, []),
  (43, .aload_n 0, 44, 0, 0, 0, 0, 0, none, []),
  (44, .getfield 30, 47, 2, 6, 0, 0, 0, none, []),
  (47, .iload_n 2, 48, 2, 0, 0, 0, 0, none, [])]
theorem oX2_goBy_2 : ∀ q ∈ tX2_goBy_2, hy_ok mX2_goBy q.1 q.2 = true := by decide +kernel
def tX2_goBy_3 : List (Nat × hyE) := [(48, .dup2, 49, 0, 0, 0, 0, 0, none, []),
  (49, .iaload, 50, 0, 0, 0, 0, 0, none, []),
  (50, .iload_n 1, 51, 1, 0, 0, 0, 0, none, []),
  (51, .aload_n 0, 52, 0, 0, 0, 0, 0, none, []),
  (52, .iload_n 2, 53, 2, 0, 0, 0, 0, none, []),
  (53, .invokevirtual 57, 56, 0, 1, 0, 2, 0, (some mX2_rateAt), []),
  (56, .imul, 57, 0, 0, 0, 0, 0, none, []),
  (57, .iadd, 58, 0, 0, 0, 0, 0, none, []),
  (58, .iastore, 59, 0, 0, 0, 0, 0, none, []),
  (59, .iinc 2 1, 62, 2, 0, 0, 0, 1, none, []),
  (62, .goto (-36), 65, 26, 0, 0, 0, 0, none, [])]
theorem oX2_goBy_3 : ∀ q ∈ tX2_goBy_3, hy_ok mX2_goBy q.1 q.2 = true := by decide +kernel
def tX2_goBy_4 : List (Nat × hyE) := [(65, .aload_n 0, 66, 0, 0, 0, 0, 0, none, []),
  (66, .dup, 67, 0, 0, 0, 0, 0, none, []),
  (67, .getfield 40, 70, 2, 9, 0, 0, 0, none, []),
  (70, .iload_n 1, 71, 1, 0, 0, 0, 0, none, []),
  (71, .iadd, 72, 0, 0, 0, 0, 0, none, []),
  (72, .putfield 40, 75, 2, 9, 0, 0, 0, none, []),
  (75, .aload_n 0, 76, 0, 0, 0, 0, 0, none, []),
  (76, .getfield 40, 79, 2, 9, 0, 0, 0, none, []),
  (79, .ireturn, 80, 0, 0, 0, 0, 0, none, [])]
theorem oX2_goBy_4 : ∀ q ∈ tX2_goBy_4, hy_ok mX2_goBy q.1 q.2 = true := by decide +kernel
def tX2_goBy : hyT := [tX2_goBy_0, tX2_goBy_1, tX2_goBy_2, tX2_goBy_3, tX2_goBy_4]
theorem oX2_goBy : hy_tok mX2_goBy tX2_goBy := List.forall_mem_cons.mpr ⟨oX2_goBy_0, List.forall_mem_cons.mpr ⟨oX2_goBy_1, List.forall_mem_cons.mpr ⟨oX2_goBy_2, List.forall_mem_cons.mpr ⟨oX2_goBy_3, List.forall_mem_cons.mpr ⟨oX2_goBy_4, fun _ h => absurd h List.not_mem_nil⟩⟩⟩⟩⟩
def tX2_takeOut_0 : List (Nat × hyE) := [(0, .aload_n 0, 1, 0, 0, 0, 0, 0, none, []),
  (1, .iload_n 1, 2, 1, 0, 0, 0, 0, none, []),
  (2, .invokevirtual 61, 5, 0, 1, 0, 2, 0, (some mX2_isNet), []),
  (5, .ifCond .eq 22, 8, 27, 0, 0, 0, 0, none, []),
  (8, .aload_n 0, 9, 0, 0, 0, 0, 0, none, []),
  (9, .getfield 33, 12, 2, 7, 0, 0, 0, none, []),
  (12, .iload_n 1, 13, 1, 0, 0, 0, 0, none, []),
  (13, .iaload, 14, 0, 0, 0, 0, 0, none, []),
  (14, .ifCond .eq 15, 17, 29, 0, 0, 0, 0, none, [])]
theorem oX2_takeOut_0 : ∀ q ∈ tX2_takeOut_0, hy_ok mX2_takeOut q.1 q.2 = true := by decide +kernel
def tX2_takeOut_1 : List (Nat × hyE) := [(17, .aload_n 0, 18, 0, 0, 0, 0, 0, none, []),
  (18, .getfield 33, 21, 2, 7, 0, 0, 0, none, []),
  (21, .iload_n 1, 22, 1, 0, 0, 0, 0, none, []),
  (22, .iaload, 23, 0, 0, 0, 0, 0, none, []),
  (23, .iconst 3, 24, 0, 0, 0, 0, 3, none, []),
  (24, .if_icmp .eq 5, 27, 29, 0, 0, 0, 0, none, []),
  (27, .iconst (-1), 28, 0, 0, 0, 0, (-1), none, []),
  (28, .ireturn, 29, 0, 0, 0, 0, 0, none, []),
  (29, .aload_n 0, 30, 0, 0, 0, 0, 0, none, []),
  (30, .getfield 33, 33, 2, 7, 0, 0, 0, none, [])]
theorem oX2_takeOut_1 : ∀ q ∈ tX2_takeOut_1, hy_ok mX2_takeOut q.1 q.2 = true := by decide +kernel
def tX2_takeOut_2 : List (Nat × hyE) := [(33, .iload_n 1, 34, 1, 0, 0, 0, 0, none, []),
  (34, .iconst 1, 35, 0, 0, 0, 0, 1, none, []),
  (35, .iastore, 36, 0, 0, 0, 0, 0, none, []),
  (36, .aload_n 0, 37, 0, 0, 0, 0, 0, none, []),
  (37, .iload_n 1, 38, 1, 0, 0, 0, 0, none, []),
  (38, .invokevirtual 64, 41, 0, 1, 0, 2, 0, (some mX2_isRipe), []),
  (41, .ifCond .ne 5, 44, 46, 0, 0, 0, 0, none, []),
  (44, .iconst 0, 45, 0, 0, 0, 0, 0, none, []),
  (45, .ireturn, 46, 0, 0, 0, 0, 0, none, []),
  (46, .aload_n 0, 47, 0, 0, 0, 0, 0, none, []),
  (47, .dup, 48, 0, 0, 0, 0, 0, none, [])]
theorem oX2_takeOut_2 : ∀ q ∈ tX2_takeOut_2, hy_ok mX2_takeOut q.1 q.2 = true := by decide +kernel
def tX2_takeOut_3 : List (Nat × hyE) := [(48, .getfield 43, 51, 2, 10, 0, 0, 0, none, []),
  (51, .aload_n 0, 52, 0, 0, 0, 0, 0, none, []),
  (52, .getfield 24, 55, 2, 4, 0, 0, 0, none, []),
  (55, .iload_n 1, 56, 1, 0, 0, 0, 0, none, []),
  (56, .iaload, 57, 0, 0, 0, 0, 0, none, []),
  (57, .iadd, 58, 0, 0, 0, 0, 0, none, []),
  (58, .putfield 43, 61, 2, 10, 0, 0, 0, none, []),
  (61, .aload_n 0, 62, 0, 0, 0, 0, 0, none, []),
  (62, .getfield 24, 65, 2, 4, 0, 0, 0, none, [])]
theorem oX2_takeOut_3 : ∀ q ∈ tX2_takeOut_3, hy_ok mX2_takeOut q.1 q.2 = true := by decide +kernel
def tX2_takeOut_4 : List (Nat × hyE) := [(65, .iload_n 1, 66, 1, 0, 0, 0, 0, none, []),
  (66, .iaload, 67, 0, 0, 0, 0, 0, none, []),
  (67, .ireturn, 68, 0, 0, 0, 0, 0, none, [])]
theorem oX2_takeOut_4 : ∀ q ∈ tX2_takeOut_4, hy_ok mX2_takeOut q.1 q.2 = true := by decide +kernel
def tX2_takeOut : hyT := [tX2_takeOut_0, tX2_takeOut_1, tX2_takeOut_2, tX2_takeOut_3, tX2_takeOut_4]
theorem oX2_takeOut : hy_tok mX2_takeOut tX2_takeOut := List.forall_mem_cons.mpr ⟨oX2_takeOut_0, List.forall_mem_cons.mpr ⟨oX2_takeOut_1, List.forall_mem_cons.mpr ⟨oX2_takeOut_2, List.forall_mem_cons.mpr ⟨oX2_takeOut_3, List.forall_mem_cons.mpr ⟨oX2_takeOut_4, fun _ h => absurd h List.not_mem_nil⟩⟩⟩⟩⟩
def tX2_floatOff_0 : List (Nat × hyE) := [(0, .iload_n 1, 1, 1, 0, 0, 0, 0, none, []),
  (1, .invokestatic 46, 4, 11, 1, 0, 0, 0, (some mX2_isPit), []),
  (4, .ifCond .ne 5, 7, 9, 0, 0, 0, 0, none, []),
  (7, .iconst (-1), 8, 0, 0, 0, 0, (-1), none, []),
  (8, .ireturn, 9, 0, 0, 0, 0, 0, none, []),
  (9, .iconst 0, 10, 0, 0, 0, 0, 0, none, []),
  (10, .istore_n 2, 11, 2, 0, 0, 0, 0, none, []),
  (11, .iconst 0, 12, 0, 0, 0, 0, 0, none, []),
  (12, .istore_n 3, 13, 3, 0, 0, 0, 0, none, []),
  (13, .iload_n 3, 14, 3, 0, 0, 0, 0, none, []),
  (14, .aload_n 0, 15, 0, 0, 0, 0, 0, none, []),
  (15, .getfield 36, 18, 2, 8, 0, 0, 0, none, [])]
theorem oX2_floatOff_0 : ∀ q ∈ tX2_floatOff_0, hy_ok mX2_floatOff q.1 q.2 = true := by decide +kernel
def tX2_floatOff_1 : List (Nat × hyE) := [(18, .if_icmp .ge 38, 21, 56, 0, 0, 0, 0, none, []),
  (21, .aload_n 0, 22, 0, 0, 0, 0, 0, none, []),
  (22, .getfield 33, 25, 2, 7, 0, 0, 0, none, []),
  (25, .iload_n 3, 26, 3, 0, 0, 0, 0, none, []),
  (26, .iaload, 27, 0, 0, 0, 0, 0, none, []),
  (27, .ifCond .ne 23, 30, 50, 0, 0, 0, 0, none, []),
  (30, .aload_n 0, 31, 0, 0, 0, 0, 0, none, []),
  (31, .getfield 18, 34, 2, 2, 0, 0, 0, none, [])]
theorem oX2_floatOff_1 : ∀ q ∈ tX2_floatOff_1, hy_ok mX2_floatOff q.1 q.2 = true := by decide +kernel
def tX2_floatOff_2 : List (Nat × hyE) := [(34, .iload_n 3, 35, 3, 0, 0, 0, 0, none, []),
  (35, .iaload, 36, 0, 0, 0, 0, 0, none, []),
  (36, .iload_n 1, 37, 1, 0, 0, 0, 0, none, []),
  (37, .if_icmp .ne 13, 40, 50, 0, 0, 0, 0, none, []),
  (40, .aload_n 0, 41, 0, 0, 0, 0, 0, none, []),
  (41, .getfield 33, 44, 2, 7, 0, 0, 0, none, []),
  (44, .iload_n 3, 45, 3, 0, 0, 0, 0, none, []),
  (45, .iconst 2, 46, 0, 0, 0, 0, 2, none, []),
  (46, .iastore, 47, 0, 0, 0, 0, 0, none, []),
  (47, .iinc 2 1, 50, 2, 0, 0, 0, 1, none, [])]
theorem oX2_floatOff_2 : ∀ q ∈ tX2_floatOff_2, hy_ok mX2_floatOff q.1 q.2 = true := by decide +kernel
def tX2_floatOff_3 : List (Nat × hyE) := [(50, .iinc 3 1, 53, 3, 0, 0, 0, 1, none, []),
  (53, .goto (-40), 56, 13, 0, 0, 0, 0, none, []),
  (56, .iload_n 2, 57, 2, 0, 0, 0, 0, none, []),
  (57, .ireturn, 58, 0, 0, 0, 0, 0, none, [])]
theorem oX2_floatOff_3 : ∀ q ∈ tX2_floatOff_3, hy_ok mX2_floatOff q.1 q.2 = true := by decide +kernel
def tX2_floatOff : hyT := [tX2_floatOff_0, tX2_floatOff_1, tX2_floatOff_2, tX2_floatOff_3]
theorem oX2_floatOff : hy_tok mX2_floatOff tX2_floatOff := List.forall_mem_cons.mpr ⟨oX2_floatOff_0, List.forall_mem_cons.mpr ⟨oX2_floatOff_1, List.forall_mem_cons.mpr ⟨oX2_floatOff_2, List.forall_mem_cons.mpr ⟨oX2_floatOff_3, fun _ h => absurd h List.not_mem_nil⟩⟩⟩⟩
def tX2_afloatWith_0 : List (Nat × hyE) := [(0, .iconst 0, 1, 0, 0, 0, 0, 0, none, []),
  (1, .istore_n 3, 2, 3, 0, 0, 0, 0, none, []),
  (2, .iconst 0, 3, 0, 0, 0, 0, 0, none, []),
  (3, .istore 4, 5, 4, 0, 0, 0, 0, none, []),
  (5, .iload 4, 7, 4, 0, 0, 0, 0, none, []),
  (7, .aload_n 0, 8, 0, 0, 0, 0, 0, none, []),
  (8, .getfield 36, 11, 2, 8, 0, 0, 0, none, []),
  (11, .if_icmp .ge 64, 14, 75, 0, 0, 0, 0, none, []),
  (14, .aload_n 0, 15, 0, 0, 0, 0, 0, none, []),
  (15, .getfield 21, 18, 2, 3, 0, 0, 0, none, [])]
theorem oX2_afloatWith_0 : ∀ q ∈ tX2_afloatWith_0, hy_ok mX2_afloatWith q.1 q.2 = true := by decide +kernel
def tX2_afloatWith_1 : List (Nat × hyE) := [(18, .iload 4, 20, 4, 0, 0, 0, 0, none, []),
  (20, .iaload, 21, 0, 0, 0, 0, 0, none, []),
  (21, .iload_n 1, 22, 1, 0, 0, 0, 0, none, []),
  (22, .iand, 23, 0, 0, 0, 0, 0, none, []),
  (23, .iload_n 1, 24, 1, 0, 0, 0, 0, none, []),
  (24, .if_icmp .ne 19, 27, 43, 0, 0, 0, 0, none, []),
  (27, .aload_n 0, 28, 0, 0, 0, 0, 0, none, []),
  (28, .getfield 21, 31, 2, 3, 0, 0, 0, none, []),
  (31, .iload 4, 33, 4, 0, 0, 0, 0, none, [])]
theorem oX2_afloatWith_1 : ∀ q ∈ tX2_afloatWith_1, hy_ok mX2_afloatWith q.1 q.2 = true := by decide +kernel
def tX2_afloatWith_2 : List (Nat × hyE) := [(33, .iaload, 34, 0, 0, 0, 0, 0, none, []),
  (34, .iload_n 2, 35, 2, 0, 0, 0, 0, none, []),
  (35, .iand, 36, 0, 0, 0, 0, 0, none, []),
  (36, .ifCond .ne 7, 39, 43, 0, 0, 0, 0, none, []),
  (39, .iconst 1, 40, 0, 0, 0, 0, 1, none, []),
  (40, .goto 4, 43, 44, 0, 0, 0, 0, none, []),
  (43, .iconst 0, 44, 0, 0, 0, 0, 0, none, []),
  (44, .istore 5, 46, 5, 0, 0, 0, 0, none, []),
  (46, .aload_n 0, 47, 0, 0, 0, 0, 0, none, []),
  (47, .getfield 33, 50, 2, 7, 0, 0, 0, none, [])]
theorem oX2_afloatWith_2 : ∀ q ∈ tX2_afloatWith_2, hy_ok mX2_afloatWith q.1 q.2 = true := by decide +kernel
def tX2_afloatWith_3 : List (Nat × hyE) := [(50, .iload 4, 52, 4, 0, 0, 0, 0, none, []),
  (52, .iaload, 53, 0, 0, 0, 0, 0, none, []),
  (53, .iconst 2, 54, 0, 0, 0, 0, 2, none, []),
  (54, .if_icmp .ne 15, 57, 69, 0, 0, 0, 0, none, []),
  (57, .iload 5, 59, 5, 0, 0, 0, 0, none, []),
  (59, .ifCond .eq 10, 62, 69, 0, 0, 0, 0, none, []),
  (62, .iload_n 3, 63, 3, 0, 0, 0, 0, none, []),
  (63, .iconst 1, 64, 0, 0, 0, 0, 1, none, [])]
theorem oX2_afloatWith_3 : ∀ q ∈ tX2_afloatWith_3, hy_ok mX2_afloatWith q.1 q.2 = true := by decide +kernel
def tX2_afloatWith_4 : List (Nat × hyE) := [(64, .iload 4, 66, 4, 0, 0, 0, 0, none, []),
  (66, .ishl, 67, 0, 0, 0, 0, 0, none, []),
  (67, .ior, 68, 0, 0, 0, 0, 0, none, []),
  (68, .istore_n 3, 69, 3, 0, 0, 0, 0, none, []),
  (69, .iinc 4 1, 72, 4, 0, 0, 0, 1, none, []),
  (72, .goto (-67), 75, 5, 0, 0, 0, 0, none, []),
  (75, .iload_n 3, 76, 3, 0, 0, 0, 0, none, []),
  (76, .ireturn, 77, 0, 0, 0, 0, 0, none, [])]
theorem oX2_afloatWith_4 : ∀ q ∈ tX2_afloatWith_4, hy_ok mX2_afloatWith q.1 q.2 = true := by decide +kernel
def tX2_afloatWith : hyT := [tX2_afloatWith_0, tX2_afloatWith_1, tX2_afloatWith_2, tX2_afloatWith_3, tX2_afloatWith_4]
theorem oX2_afloatWith : hy_tok mX2_afloatWith tX2_afloatWith := List.forall_mem_cons.mpr ⟨oX2_afloatWith_0, List.forall_mem_cons.mpr ⟨oX2_afloatWith_1, List.forall_mem_cons.mpr ⟨oX2_afloatWith_2, List.forall_mem_cons.mpr ⟨oX2_afloatWith_3, List.forall_mem_cons.mpr ⟨oX2_afloatWith_4, fun _ h => absurd h List.not_mem_nil⟩⟩⟩⟩⟩
def tX2_comeBack_0 : List (Nat × hyE) := [(0, .aload_n 0, 1, 0, 0, 0, 0, 0, none, []),
  (1, .iload_n 1, 2, 1, 0, 0, 0, 0, none, []),
  (2, .invokevirtual 61, 5, 0, 1, 0, 2, 0, (some mX2_isNet), []),
  (5, .ifCond .eq 20, 8, 25, 0, 0, 0, 0, none, []),
  (8, .aload_n 0, 9, 0, 0, 0, 0, 0, none, []),
  (9, .getfield 33, 12, 2, 7, 0, 0, 0, none, []),
  (12, .iload_n 1, 13, 1, 0, 0, 0, 0, none, []),
  (13, .iaload, 14, 0, 0, 0, 0, 0, none, []),
  (14, .iconst 2, 15, 0, 0, 0, 0, 2, none, []),
  (15, .if_icmp .ne 10, 18, 25, 0, 0, 0, 0, none, [])]
theorem oX2_comeBack_0 : ∀ q ∈ tX2_comeBack_0, hy_ok mX2_comeBack q.1 q.2 = true := by decide +kernel
def tX2_comeBack_1 : List (Nat × hyE) := [(18, .aload_n 0, 19, 0, 0, 0, 0, 0, none, []),
  (19, .getfield 33, 22, 2, 7, 0, 0, 0, none, []),
  (22, .iload_n 1, 23, 1, 0, 0, 0, 0, none, []),
  (23, .iconst 3, 24, 0, 0, 0, 0, 3, none, []),
  (24, .iastore, 25, 0, 0, 0, 0, 0, none, []),
  (25, .return_, 26, 0, 0, 0, 0, 0, none, [])]
theorem oX2_comeBack_1 : ∀ q ∈ tX2_comeBack_1, hy_ok mX2_comeBack q.1 q.2 = true := by decide +kernel
def tX2_comeBack : hyT := [tX2_comeBack_0, tX2_comeBack_1]
theorem oX2_comeBack : hy_tok mX2_comeBack tX2_comeBack := List.forall_mem_cons.mpr ⟨oX2_comeBack_0, List.forall_mem_cons.mpr ⟨oX2_comeBack_1, fun _ h => absurd h List.not_mem_nil⟩⟩
def tX2_countIn_0 : List (Nat × hyE) := [(0, .iconst 0, 1, 0, 0, 0, 0, 0, none, []),
  (1, .istore_n 2, 2, 2, 0, 0, 0, 0, none, []),
  (2, .iconst 0, 3, 0, 0, 0, 0, 0, none, []),
  (3, .istore_n 3, 4, 3, 0, 0, 0, 0, none, []),
  (4, .iload_n 3, 5, 3, 0, 0, 0, 0, none, []),
  (5, .aload_n 0, 6, 0, 0, 0, 0, 0, none, []),
  (6, .getfield 36, 9, 2, 8, 0, 0, 0, none, []),
  (9, .if_icmp .ge 22, 12, 31, 0, 0, 0, 0, none, []),
  (12, .aload_n 0, 13, 0, 0, 0, 0, 0, none, []),
  (13, .getfield 33, 16, 2, 7, 0, 0, 0, none, [])]
theorem oX2_countIn_0 : ∀ q ∈ tX2_countIn_0, hy_ok mX2_countIn q.1 q.2 = true := by decide +kernel
def tX2_countIn_1 : List (Nat × hyE) := [(16, .iload_n 3, 17, 3, 0, 0, 0, 0, none, []),
  (17, .iaload, 18, 0, 0, 0, 0, 0, none, []),
  (18, .iload_n 1, 19, 1, 0, 0, 0, 0, none, []),
  (19, .if_icmp .ne 6, 22, 25, 0, 0, 0, 0, none, []),
  (22, .iinc 2 1, 25, 2, 0, 0, 0, 1, none, []),
  (25, .iinc 3 1, 28, 3, 0, 0, 0, 1, none, []),
  (28, .goto (-24), 31, 4, 0, 0, 0, 0, none, []),
  (31, .iload_n 2, 32, 2, 0, 0, 0, 0, none, [])]
theorem oX2_countIn_1 : ∀ q ∈ tX2_countIn_1, hy_ok mX2_countIn q.1 q.2 = true := by decide +kernel
def tX2_countIn_2 : List (Nat × hyE) := [(32, .ireturn, 33, 0, 0, 0, 0, 0, none, [])]
theorem oX2_countIn_2 : ∀ q ∈ tX2_countIn_2, hy_ok mX2_countIn q.1 q.2 = true := by decide +kernel
def tX2_countIn : hyT := [tX2_countIn_0, tX2_countIn_1, tX2_countIn_2]
theorem oX2_countIn : hy_tok mX2_countIn tX2_countIn := List.forall_mem_cons.mpr ⟨oX2_countIn_0, List.forall_mem_cons.mpr ⟨oX2_countIn_1, List.forall_mem_cons.mpr ⟨oX2_countIn_2, fun _ h => absurd h List.not_mem_nil⟩⟩⟩
def tX2_tellOf_0 : List (Nat × hyE) := [(0, .aload_n 0, 1, 0, 0, 0, 0, 0, none, []),
  (1, .iload_n 1, 2, 1, 0, 0, 0, 0, none, []),
  (2, .invokevirtual 61, 5, 0, 1, 0, 2, 0, (some mX2_isNet), []),
  (5, .ifCond .ne 5, 8, 10, 0, 0, 0, 0, none, []),
  (8, .iconst (-1), 9, 0, 0, 0, 0, (-1), none, []),
  (9, .ireturn, 10, 0, 0, 0, 0, 0, none, []),
  (10, .iload_n 2, 11, 2, 0, 0, 0, 0, none, []),
  (11, .tableswitch 100 0 7 #[45, 52, 59, 73, 80, 87, 100, 94], 56, 111, 0, 45, 0, 0, none, [(0, 56), (1, 63), (2, 70), (3, 84), (4, 91), (5, 98), (6, 111), (7, 105)])]
theorem oX2_tellOf_0 : ∀ q ∈ tX2_tellOf_0, hy_ok mX2_tellOf q.1 q.2 = true := by decide +kernel
def tX2_tellOf_1 : List (Nat × hyE) := []
theorem oX2_tellOf_1 : ∀ q ∈ tX2_tellOf_1, hy_ok mX2_tellOf q.1 q.2 = true := by decide +kernel
def tX2_tellOf_2 : List (Nat × hyE) := []
theorem oX2_tellOf_2 : ∀ q ∈ tX2_tellOf_2, hy_ok mX2_tellOf q.1 q.2 = true := by decide +kernel
def tX2_tellOf_3 : List (Nat × hyE) := [(56, .aload_n 0, 57, 0, 0, 0, 0, 0, none, []),
  (57, .getfield 18, 60, 2, 2, 0, 0, 0, none, []),
  (60, .iload_n 1, 61, 1, 0, 0, 0, 0, none, []),
  (61, .iaload, 62, 0, 0, 0, 0, 0, none, []),
  (62, .ireturn, 63, 0, 0, 0, 0, 0, none, []),
  (63, .aload_n 0, 64, 0, 0, 0, 0, 0, none, [])]
theorem oX2_tellOf_3 : ∀ q ∈ tX2_tellOf_3, hy_ok mX2_tellOf q.1 q.2 = true := by decide +kernel
def tX2_tellOf_4 : List (Nat × hyE) := [(64, .getfield 30, 67, 2, 6, 0, 0, 0, none, []),
  (67, .iload_n 1, 68, 1, 0, 0, 0, 0, none, []),
  (68, .iaload, 69, 0, 0, 0, 0, 0, none, []),
  (69, .ireturn, 70, 0, 0, 0, 0, 0, none, []),
  (70, .aload_n 0, 71, 0, 0, 0, 0, 0, none, []),
  (71, .iload_n 1, 72, 1, 0, 0, 0, 0, none, []),
  (72, .invokevirtual 64, 75, 0, 1, 0, 2, 0, (some mX2_isRipe), []),
  (75, .ifCond .eq 7, 78, 82, 0, 0, 0, 0, none, []),
  (78, .iconst 1, 79, 0, 0, 0, 0, 1, none, []),
  (79, .goto 4, 82, 83, 0, 0, 0, 0, none, [])]
theorem oX2_tellOf_4 : ∀ q ∈ tX2_tellOf_4, hy_ok mX2_tellOf q.1 q.2 = true := by decide +kernel
def tX2_tellOf_5 : List (Nat × hyE) := [(82, .iconst 0, 83, 0, 0, 0, 0, 0, none, []),
  (83, .ireturn, 84, 0, 0, 0, 0, 0, none, []),
  (84, .aload_n 0, 85, 0, 0, 0, 0, 0, none, []),
  (85, .getfield 33, 88, 2, 7, 0, 0, 0, none, []),
  (88, .iload_n 1, 89, 1, 0, 0, 0, 0, none, []),
  (89, .iaload, 90, 0, 0, 0, 0, 0, none, []),
  (90, .ireturn, 91, 0, 0, 0, 0, 0, none, []),
  (91, .aload_n 0, 92, 0, 0, 0, 0, 0, none, []),
  (92, .getfield 21, 95, 2, 3, 0, 0, 0, none, []),
  (95, .iload_n 1, 96, 1, 0, 0, 0, 0, none, [])]
theorem oX2_tellOf_5 : ∀ q ∈ tX2_tellOf_5, hy_ok mX2_tellOf q.1 q.2 = true := by decide +kernel
def tX2_tellOf_6 : List (Nat × hyE) := [(96, .iaload, 97, 0, 0, 0, 0, 0, none, []),
  (97, .ireturn, 98, 0, 0, 0, 0, 0, none, []),
  (98, .aload_n 0, 99, 0, 0, 0, 0, 0, none, []),
  (99, .getfield 24, 102, 2, 4, 0, 0, 0, none, []),
  (102, .iload_n 1, 103, 1, 0, 0, 0, 0, none, []),
  (103, .iaload, 104, 0, 0, 0, 0, 0, none, []),
  (104, .ireturn, 105, 0, 0, 0, 0, 0, none, []),
  (105, .aload_n 0, 106, 0, 0, 0, 0, 0, none, []),
  (106, .iload_n 1, 107, 1, 0, 0, 0, 0, none, []),
  (107, .invokevirtual 67, 110, 0, 1, 0, 2, 0, (some mX2_weeksToRipe), []),
  (110, .ireturn, 111, 0, 0, 0, 0, 0, none, []),
  (111, .iconst (-1), 112, 0, 0, 0, 0, (-1), none, [])]
theorem oX2_tellOf_6 : ∀ q ∈ tX2_tellOf_6, hy_ok mX2_tellOf q.1 q.2 = true := by decide +kernel
def tX2_tellOf_7 : List (Nat × hyE) := [(112, .ireturn, 113, 0, 0, 0, 0, 0, none, [])]
theorem oX2_tellOf_7 : ∀ q ∈ tX2_tellOf_7, hy_ok mX2_tellOf q.1 q.2 = true := by decide +kernel
def tX2_tellOf : hyT := [tX2_tellOf_0, tX2_tellOf_1, tX2_tellOf_2, tX2_tellOf_3, tX2_tellOf_4, tX2_tellOf_5, tX2_tellOf_6, tX2_tellOf_7]
theorem oX2_tellOf : hy_tok mX2_tellOf tX2_tellOf := List.forall_mem_cons.mpr ⟨oX2_tellOf_0, List.forall_mem_cons.mpr ⟨oX2_tellOf_1, List.forall_mem_cons.mpr ⟨oX2_tellOf_2, List.forall_mem_cons.mpr ⟨oX2_tellOf_3, List.forall_mem_cons.mpr ⟨oX2_tellOf_4, List.forall_mem_cons.mpr ⟨oX2_tellOf_5, List.forall_mem_cons.mpr ⟨oX2_tellOf_6, List.forall_mem_cons.mpr ⟨oX2_tellOf_7, fun _ h => absurd h List.not_mem_nil⟩⟩⟩⟩⟩⟩⟩⟩
def tX2_weeksToRipe_0 : List (Nat × hyE) := [(0, .aload_n 0, 1, 0, 0, 0, 0, 0, none, []),
  (1, .getfield 33, 4, 2, 7, 0, 0, 0, none, []),
  (4, .iload_n 1, 5, 1, 0, 0, 0, 0, none, []),
  (5, .iaload, 6, 0, 0, 0, 0, 0, none, []),
  (6, .ifCond .eq 5, 9, 11, 0, 0, 0, 0, none, []),
  (9, .iconst (-1), 10, 0, 0, 0, 0, (-1), none, []),
  (10, .ireturn, 11, 0, 0, 0, 0, 0, none, []),
  (11, .aload_n 0, 12, 0, 0, 0, 0, 0, none, []),
  (12, .iload_n 1, 13, 1, 0, 0, 0, 0, none, []),
  (13, .invokevirtual 64, 16, 0, 1, 0, 2, 0, (some mX2_isRipe), [])]
theorem oX2_weeksToRipe_0 : ∀ q ∈ tX2_weeksToRipe_0, hy_ok mX2_weeksToRipe q.1 q.2 = true := by decide +kernel
def tX2_weeksToRipe_1 : List (Nat × hyE) := [(16, .ifCond .eq 5, 19, 21, 0, 0, 0, 0, none, []),
  (19, .iconst 0, 20, 0, 0, 0, 0, 0, none, []),
  (20, .ireturn, 21, 0, 0, 0, 0, 0, none, []),
  (21, .aload_n 0, 22, 0, 0, 0, 0, 0, none, []),
  (22, .iload_n 1, 23, 1, 0, 0, 0, 0, none, []),
  (23, .invokevirtual 57, 26, 0, 1, 0, 2, 0, (some mX2_rateAt), []),
  (26, .istore_n 2, 27, 2, 0, 0, 0, 0, none, []),
  (27, .iload_n 2, 28, 2, 0, 0, 0, 0, none, []),
  (28, .ifCond .gt 5, 31, 33, 0, 0, 0, 0, none, []),
  (31, .iconst (-1), 32, 0, 0, 0, 0, (-1), none, [])]
theorem oX2_weeksToRipe_1 : ∀ q ∈ tX2_weeksToRipe_1, hy_ok mX2_weeksToRipe q.1 q.2 = true := by decide +kernel
def tX2_weeksToRipe_2 : List (Nat × hyE) := [(32, .ireturn, 33, 0, 0, 0, 0, 0, none, []),
  (33, .aload_n 0, 34, 0, 0, 0, 0, 0, none, []),
  (34, .getfield 27, 37, 2, 5, 0, 0, 0, none, []),
  (37, .iload_n 1, 38, 1, 0, 0, 0, 0, none, []),
  (38, .iaload, 39, 0, 0, 0, 0, 0, none, []),
  (39, .aload_n 0, 40, 0, 0, 0, 0, 0, none, []),
  (40, .getfield 30, 43, 2, 6, 0, 0, 0, none, []),
  (43, .iload_n 1, 44, 1, 0, 0, 0, 0, none, []),
  (44, .iaload, 45, 0, 0, 0, 0, 0, none, []),
  (45, .isub, 46, 0, 0, 0, 0, 0, none, []),
  (46, .iload_n 2, 47, 2, 0, 0, 0, 0, none, []),
  (47, .iadd, 48, 0, 0, 0, 0, 0, none, [])]
theorem oX2_weeksToRipe_2 : ∀ q ∈ tX2_weeksToRipe_2, hy_ok mX2_weeksToRipe q.1 q.2 = true := by decide +kernel
def tX2_weeksToRipe_3 : List (Nat × hyE) := [(48, .iconst 1, 49, 0, 0, 0, 0, 1, none, []),
  (49, .isub, 50, 0, 0, 0, 0, 0, none, []),
  (50, .iload_n 2, 51, 2, 0, 0, 0, 0, none, []),
  (51, .idiv, 52, 0, 0, 0, 0, 0, none, []),
  (52, .ireturn, 53, 0, 0, 0, 0, 0, none, [])]
theorem oX2_weeksToRipe_3 : ∀ q ∈ tX2_weeksToRipe_3, hy_ok mX2_weeksToRipe q.1 q.2 = true := by decide +kernel
def tX2_weeksToRipe : hyT := [tX2_weeksToRipe_0, tX2_weeksToRipe_1, tX2_weeksToRipe_2, tX2_weeksToRipe_3]
theorem oX2_weeksToRipe : hy_tok mX2_weeksToRipe tX2_weeksToRipe := List.forall_mem_cons.mpr ⟨oX2_weeksToRipe_0, List.forall_mem_cons.mpr ⟨oX2_weeksToRipe_1, List.forall_mem_cons.mpr ⟨oX2_weeksToRipe_2, List.forall_mem_cons.mpr ⟨oX2_weeksToRipe_3, fun _ h => absurd h List.not_mem_nil⟩⟩⟩⟩
def tX2_rateAt_0 : List (Nat × hyE) := [(0, .aload_n 0, 1, 0, 0, 0, 0, 0, none, []),
  (1, .getfield 15, 4, 2, 1, 0, 0, 0, none, []),
  (4, .aload_n 0, 5, 0, 0, 0, 0, 0, none, []),
  (5, .getfield 11, 8, 2, 0, 0, 0, 0, none, []),
  (8, .aload_n 0, 9, 0, 0, 0, 0, 0, none, []),
  (9, .getfield 18, 12, 2, 2, 0, 0, 0, none, []),
  (12, .iload_n 1, 13, 1, 0, 0, 0, 0, none, []),
  (13, .iaload, 14, 0, 0, 0, 0, 0, none, []),
  (14, .iaload, 15, 0, 0, 0, 0, 0, none, []),
  (15, .iaload, 16, 0, 0, 0, 0, 0, none, [])]
theorem oX2_rateAt_0 : ∀ q ∈ tX2_rateAt_0, hy_ok mX2_rateAt q.1 q.2 = true := by decide +kernel
def tX2_rateAt_1 : List (Nat × hyE) := [(16, .ireturn, 17, 0, 0, 0, 0, 0, none, [])]
theorem oX2_rateAt_1 : ∀ q ∈ tX2_rateAt_1, hy_ok mX2_rateAt q.1 q.2 = true := by decide +kernel
def tX2_rateAt : hyT := [tX2_rateAt_0, tX2_rateAt_1]
theorem oX2_rateAt : hy_tok mX2_rateAt tX2_rateAt := List.forall_mem_cons.mpr ⟨oX2_rateAt_0, List.forall_mem_cons.mpr ⟨oX2_rateAt_1, fun _ h => absurd h List.not_mem_nil⟩⟩
def tX2_isRipe_0 : List (Nat × hyE) := [(0, .aload_n 0, 1, 0, 0, 0, 0, 0, none, []),
  (1, .getfield 30, 4, 2, 6, 0, 0, 0, none, []),
  (4, .iload_n 1, 5, 1, 0, 0, 0, 0, none, []),
  (5, .iaload, 6, 0, 0, 0, 0, 0, none, []),
  (6, .aload_n 0, 7, 0, 0, 0, 0, 0, none, []),
  (7, .getfield 27, 10, 2, 5, 0, 0, 0, none, []),
  (10, .iload_n 1, 11, 1, 0, 0, 0, 0, none, []),
  (11, .iaload, 12, 0, 0, 0, 0, 0, none, []),
  (12, .if_icmp .lt 7, 15, 19, 0, 0, 0, 0, none, []),
  (15, .iconst 1, 16, 0, 0, 0, 0, 1, none, [])]
theorem oX2_isRipe_0 : ∀ q ∈ tX2_isRipe_0, hy_ok mX2_isRipe q.1 q.2 = true := by decide +kernel
def tX2_isRipe_1 : List (Nat × hyE) := [(16, .goto 4, 19, 20, 0, 0, 0, 0, none, []),
  (19, .iconst 0, 20, 0, 0, 0, 0, 0, none, []),
  (20, .ireturn, 21, 0, 0, 0, 0, 0, none, [])]
theorem oX2_isRipe_1 : ∀ q ∈ tX2_isRipe_1, hy_ok mX2_isRipe q.1 q.2 = true := by decide +kernel
def tX2_isRipe : hyT := [tX2_isRipe_0, tX2_isRipe_1]
theorem oX2_isRipe : hy_tok mX2_isRipe tX2_isRipe := List.forall_mem_cons.mpr ⟨oX2_isRipe_0, List.forall_mem_cons.mpr ⟨oX2_isRipe_1, fun _ h => absurd h List.not_mem_nil⟩⟩
def tX2_isNet_0 : List (Nat × hyE) := [(0, .iload_n 1, 1, 1, 0, 0, 0, 0, none, []),
  (1, .iconst 0, 2, 0, 0, 0, 0, 0, none, []),
  (2, .aload_n 0, 3, 0, 0, 0, 0, 0, none, []),
  (3, .getfield 36, 6, 2, 8, 0, 0, 0, none, []),
  (6, .iconst 1, 7, 0, 0, 0, 0, 1, none, []),
  (7, .isub, 8, 0, 0, 0, 0, 0, none, []),
  (8, .invokestatic 50, 11, 1, 3, 1, 0, 0, (some mX5_within), []),
  (11, .ireturn, 12, 0, 0, 0, 0, 0, none, [])]
theorem oX2_isNet_0 : ∀ q ∈ tX2_isNet_0, hy_ok mX2_isNet q.1 q.2 = true := by decide +kernel
def tX2_isNet : hyT := [tX2_isNet_0]
theorem oX2_isNet : hy_tok mX2_isNet tX2_isNet := List.forall_mem_cons.mpr ⟨oX2_isNet_0, fun _ h => absurd h List.not_mem_nil⟩
def tX2_isPit_0 : List (Nat × hyE) := [(0, .iload_n 0, 1, 0, 0, 0, 0, 0, none, []),
  (1, .iconst 0, 2, 0, 0, 0, 0, 0, none, []),
  (2, .bipush 7, 4, 0, 0, 0, 0, 7, none, []),
  (4, .invokestatic 50, 7, 1, 3, 1, 0, 0, (some mX5_within), []),
  (7, .ireturn, 8, 0, 0, 0, 0, 0, none, [])]
theorem oX2_isPit_0 : ∀ q ∈ tX2_isPit_0, hy_ok mX2_isPit q.1 q.2 = true := by decide +kernel
def tX2_isPit : hyT := [tX2_isPit_0]
theorem oX2_isPit : hy_tok mX2_isPit tX2_isPit := List.forall_mem_cons.mpr ⟨oX2_isPit_0, fun _ h => absurd h List.not_mem_nil⟩
def tX3_init_0 : List (Nat × hyE) := [(0, .aload_n 0, 1, 0, 0, 0, 0, 0, none, []),
  (1, .invokespecial 3, 4, 0, 0, 0, 0, 0, none, []),
  (4, .aload_n 0, 5, 0, 0, 0, 0, 0, none, []),
  (5, .sipush (-200), 8, 0, 0, 0, 0, (-200), none, []),
  (8, .putfield 9, 11, 3, 0, 0, 0, 0, none, []),
  (11, .aload_n 0, 12, 0, 0, 0, 0, 0, none, []),
  (12, .sipush 200, 15, 0, 0, 0, 0, 200, none, []),
  (15, .putfield 15, 18, 3, 1, 0, 0, 0, none, [])]
theorem oX3_init_0 : ∀ q ∈ tX3_init_0, hy_ok mX3_init q.1 q.2 = true := by decide +kernel
def tX3_init_1 : List (Nat × hyE) := [(18, .return_, 19, 0, 0, 0, 0, 0, none, [])]
theorem oX3_init_1 : ∀ q ∈ tX3_init_1, hy_ok mX3_init q.1 q.2 = true := by decide +kernel
def tX3_init : hyT := [tX3_init_0, tX3_init_1]
theorem oX3_init : hy_tok mX3_init tX3_init := List.forall_mem_cons.mpr ⟨oX3_init_0, List.forall_mem_cons.mpr ⟨oX3_init_1, fun _ h => absurd h List.not_mem_nil⟩⟩
def tX3_count_0 : List (Nat × hyE) := [(0, .aload_n 0, 1, 0, 0, 0, 0, 0, none, []),
  (1, .getfield 18, 4, 3, 2, 0, 0, 0, none, []),
  (4, .ireturn, 5, 0, 0, 0, 0, 0, none, [])]
theorem oX3_count_0 : ∀ q ∈ tX3_count_0, hy_ok mX3_count q.1 q.2 = true := by decide +kernel
def tX3_count : hyT := [tX3_count_0]
theorem oX3_count : hy_tok mX3_count tX3_count := List.forall_mem_cons.mpr ⟨oX3_count_0, fun _ h => absurd h List.not_mem_nil⟩
def tX3_bound_0 : List (Nat × hyE) := [(0, .iload_n 1, 1, 1, 0, 0, 0, 0, none, []),
  (1, .ifCond .eq 10, 4, 11, 0, 0, 0, 0, none, []),
  (4, .aload_n 0, 5, 0, 0, 0, 0, 0, none, []),
  (5, .getfield 15, 8, 3, 1, 0, 0, 0, none, []),
  (8, .goto 7, 11, 15, 0, 0, 0, 0, none, []),
  (11, .aload_n 0, 12, 0, 0, 0, 0, 0, none, []),
  (12, .getfield 9, 15, 3, 0, 0, 0, 0, none, []),
  (15, .ireturn, 16, 0, 0, 0, 0, 0, none, [])]
theorem oX3_bound_0 : ∀ q ∈ tX3_bound_0, hy_ok mX3_bound q.1 q.2 = true := by decide +kernel
def tX3_bound : hyT := [tX3_bound_0]
theorem oX3_bound : hy_tok mX3_bound tX3_bound := List.forall_mem_cons.mpr ⟨oX3_bound_0, fun _ h => absurd h List.not_mem_nil⟩
def tX3_tell_0 : List (Nat × hyE) := [(0, .iload_n 1, 1, 1, 0, 0, 0, 0, none, []),
  (1, .iconst 1, 2, 0, 0, 0, 0, 1, none, []),
  (2, .sipush 10000, 5, 0, 0, 0, 0, 10000, none, []),
  (5, .invokestatic 21, 8, 1, 3, 1, 0, 0, (some mX5_within), []),
  (8, .ifCond .eq 23, 11, 31, 0, 0, 0, 0, none, []),
  (11, .iload_n 2, 12, 2, 0, 0, 0, 0, none, []),
  (12, .iconst 0, 13, 0, 0, 0, 0, 0, none, []),
  (13, .sipush 20000, 16, 0, 0, 0, 0, 20000, none, [])]
theorem oX3_tell_0 : ∀ q ∈ tX3_tell_0, hy_ok mX3_tell q.1 q.2 = true := by decide +kernel
def tX3_tell_1 : List (Nat × hyE) := [(16, .invokestatic 21, 19, 1, 3, 1, 0, 0, (some mX5_within), []),
  (19, .ifCond .eq 12, 22, 31, 0, 0, 0, 0, none, []),
  (22, .aload_n 0, 23, 0, 0, 0, 0, 0, none, []),
  (23, .getfield 18, 26, 3, 2, 0, 0, 0, none, []),
  (26, .bipush 20, 28, 0, 0, 0, 0, 20, none, []),
  (28, .if_icmp .lt 5, 31, 33, 0, 0, 0, 0, none, []),
  (31, .iconst (-1), 32, 0, 0, 0, 0, (-1), none, [])]
theorem oX3_tell_1 : ∀ q ∈ tX3_tell_1, hy_ok mX3_tell q.1 q.2 = true := by decide +kernel
def tX3_tell_2 : List (Nat × hyE) := [(32, .ireturn, 33, 0, 0, 0, 0, 0, none, []),
  (33, .aload_n 0, 34, 0, 0, 0, 0, 0, none, []),
  (34, .getfield 9, 37, 3, 0, 0, 0, 0, none, []),
  (37, .istore_n 3, 38, 3, 0, 0, 0, 0, none, []),
  (38, .iload_n 3, 39, 3, 0, 0, 0, 0, none, []),
  (39, .aload_n 0, 40, 0, 0, 0, 0, 0, none, []),
  (40, .getfield 15, 43, 3, 1, 0, 0, 0, none, []),
  (43, .if_icmp .gt 18, 46, 61, 0, 0, 0, 0, none, []),
  (46, .iload_n 1, 47, 1, 0, 0, 0, 0, none, []),
  (47, .iload_n 3, 48, 3, 0, 0, 0, 0, none, [])]
theorem oX3_tell_2 : ∀ q ∈ tX3_tell_2, hy_ok mX3_tell q.1 q.2 = true := by decide +kernel
def tX3_tell_3 : List (Nat × hyE) := [(48, .invokestatic 25, 51, 7, 2, 0, 0, 0, (some mX3_readBy), []),
  (51, .iload_n 2, 52, 2, 0, 0, 0, 0, none, []),
  (52, .if_icmp .ge 9, 55, 61, 0, 0, 0, 0, none, []),
  (55, .iinc 3 1, 58, 3, 0, 0, 0, 1, none, []),
  (58, .goto (-20), 61, 38, 0, 0, 0, 0, none, []),
  (61, .aload_n 0, 62, 0, 0, 0, 0, 0, none, []),
  (62, .getfield 15, 65, 3, 1, 0, 0, 0, none, [])]
theorem oX3_tell_3 : ∀ q ∈ tX3_tell_3, hy_ok mX3_tell q.1 q.2 = true := by decide +kernel
def tX3_tell_4 : List (Nat × hyE) := [(65, .istore 4, 67, 4, 0, 0, 0, 0, none, []),
  (67, .iload 4, 69, 4, 0, 0, 0, 0, none, []),
  (69, .aload_n 0, 70, 0, 0, 0, 0, 0, none, []),
  (70, .getfield 9, 73, 3, 0, 0, 0, 0, none, []),
  (73, .if_icmp .lt 19, 76, 92, 0, 0, 0, 0, none, []),
  (76, .iload_n 1, 77, 1, 0, 0, 0, 0, none, []),
  (77, .iload 4, 79, 4, 0, 0, 0, 0, none, []),
  (79, .invokestatic 25, 82, 7, 2, 0, 0, 0, (some mX3_readBy), [])]
theorem oX3_tell_4 : ∀ q ∈ tX3_tell_4, hy_ok mX3_tell q.1 q.2 = true := by decide +kernel
def tX3_tell_5 : List (Nat × hyE) := [(82, .iload_n 2, 83, 2, 0, 0, 0, 0, none, []),
  (83, .if_icmp .le 9, 86, 92, 0, 0, 0, 0, none, []),
  (86, .iinc 4 (-1), 89, 4, 0, 0, 0, (-1), none, []),
  (89, .goto (-22), 92, 67, 0, 0, 0, 0, none, []),
  (92, .iload_n 3, 93, 3, 0, 0, 0, 0, none, []),
  (93, .iload 4, 95, 4, 0, 0, 0, 0, none, []),
  (95, .if_icmp .le 5, 98, 100, 0, 0, 0, 0, none, [])]
theorem oX3_tell_5 : ∀ q ∈ tX3_tell_5, hy_ok mX3_tell q.1 q.2 = true := by decide +kernel
def tX3_tell_6 : List (Nat × hyE) := [(98, .iconst (-1), 99, 0, 0, 0, 0, (-1), none, []),
  (99, .ireturn, 100, 0, 0, 0, 0, 0, none, []),
  (100, .aload_n 0, 101, 0, 0, 0, 0, 0, none, []),
  (101, .iload_n 3, 102, 3, 0, 0, 0, 0, none, []),
  (102, .putfield 9, 105, 3, 0, 0, 0, 0, none, []),
  (105, .aload_n 0, 106, 0, 0, 0, 0, 0, none, []),
  (106, .iload 4, 108, 4, 0, 0, 0, 0, none, []),
  (108, .putfield 15, 111, 3, 1, 0, 0, 0, none, []),
  (111, .aload_n 0, 112, 0, 0, 0, 0, 0, none, [])]
theorem oX3_tell_6 : ∀ q ∈ tX3_tell_6, hy_ok mX3_tell q.1 q.2 = true := by decide +kernel
def tX3_tell_7 : List (Nat × hyE) := [(112, .dup, 113, 0, 0, 0, 0, 0, none, []),
  (113, .getfield 18, 116, 3, 2, 0, 0, 0, none, []),
  (116, .iconst 1, 117, 0, 0, 0, 0, 1, none, []),
  (117, .iadd, 118, 0, 0, 0, 0, 0, none, []),
  (118, .putfield 18, 121, 3, 2, 0, 0, 0, none, []),
  (121, .aload_n 0, 122, 0, 0, 0, 0, 0, none, []),
  (122, .getfield 18, 125, 3, 2, 0, 0, 0, none, []),
  (125, .ireturn, 126, 0, 0, 0, 0, 0, none, [])]
theorem oX3_tell_7 : ∀ q ∈ tX3_tell_7, hy_ok mX3_tell q.1 q.2 = true := by decide +kernel
def tX3_tell : hyT := [tX3_tell_0, tX3_tell_1, tX3_tell_2, tX3_tell_3, tX3_tell_4, tX3_tell_5, tX3_tell_6, tX3_tell_7]
theorem oX3_tell : hy_tok mX3_tell tX3_tell := List.forall_mem_cons.mpr ⟨oX3_tell_0, List.forall_mem_cons.mpr ⟨oX3_tell_1, List.forall_mem_cons.mpr ⟨oX3_tell_2, List.forall_mem_cons.mpr ⟨oX3_tell_3, List.forall_mem_cons.mpr ⟨oX3_tell_4, List.forall_mem_cons.mpr ⟨oX3_tell_5, List.forall_mem_cons.mpr ⟨oX3_tell_6, List.forall_mem_cons.mpr ⟨oX3_tell_7, fun _ h => absurd h List.not_mem_nil⟩⟩⟩⟩⟩⟩⟩⟩
def tX3_weightFor_0 : List (Nat × hyE) := [(0, .iload_n 1, 1, 1, 0, 0, 0, 0, none, []),
  (1, .iconst 0, 2, 0, 0, 0, 0, 0, none, []),
  (2, .sipush 20000, 5, 0, 0, 0, 0, 20000, none, []),
  (5, .invokestatic 21, 8, 1, 3, 1, 0, 0, (some mX5_within), []),
  (8, .ifCond .ne 5, 11, 13, 0, 0, 0, 0, none, []),
  (11, .iconst (-1), 12, 0, 0, 0, 0, (-1), none, []),
  (12, .ireturn, 13, 0, 0, 0, 0, 0, none, []),
  (13, .iload_n 2, 14, 2, 0, 0, 0, 0, none, []),
  (14, .ifCond .eq 11, 17, 25, 0, 0, 0, 0, none, [])]
theorem oX3_weightFor_0 : ∀ q ∈ tX3_weightFor_0, hy_ok mX3_weightFor q.1 q.2 = true := by decide +kernel
def tX3_weightFor_1 : List (Nat × hyE) := [(17, .aload_n 0, 18, 0, 0, 0, 0, 0, none, []),
  (18, .iload_n 1, 19, 1, 0, 0, 0, 0, none, []),
  (19, .invokevirtual 29, 22, 0, 1, 0, 3, 0, (some mX3_greatestWeight), []),
  (22, .goto 8, 25, 30, 0, 0, 0, 0, none, []),
  (25, .aload_n 0, 26, 0, 0, 0, 0, 0, none, []),
  (26, .iload_n 1, 27, 1, 0, 0, 0, 0, none, []),
  (27, .invokevirtual 33, 30, 0, 1, 0, 3, 0, (some mX3_leastWeight), []),
  (30, .ireturn, 31, 0, 0, 0, 0, 0, none, [])]
theorem oX3_weightFor_1 : ∀ q ∈ tX3_weightFor_1, hy_ok mX3_weightFor q.1 q.2 = true := by decide +kernel
def tX3_weightFor : hyT := [tX3_weightFor_0, tX3_weightFor_1]
theorem oX3_weightFor : hy_tok mX3_weightFor tX3_weightFor := List.forall_mem_cons.mpr ⟨oX3_weightFor_0, List.forall_mem_cons.mpr ⟨oX3_weightFor_1, fun _ h => absurd h List.not_mem_nil⟩⟩
def tX3_leastWeight_0 : List (Nat × hyE) := [(0, .iconst (-1), 1, 0, 0, 0, 0, (-1), none, []),
  (1, .istore_n 2, 2, 2, 0, 0, 0, 0, none, []),
  (2, .aload_n 0, 3, 0, 0, 0, 0, 0, none, []),
  (3, .getfield 9, 6, 3, 0, 0, 0, 0, none, []),
  (6, .istore_n 3, 7, 3, 0, 0, 0, 0, none, []),
  (7, .iload_n 3, 8, 3, 0, 0, 0, 0, none, []),
  (8, .aload_n 0, 9, 0, 0, 0, 0, 0, none, []),
  (9, .getfield 15, 12, 3, 1, 0, 0, 0, none, []),
  (12, .if_icmp .gt 42, 15, 54, 0, 0, 0, 0, none, []),
  (15, .iload_n 1, 16, 1, 0, 0, 0, 0, none, [])]
theorem oX3_leastWeight_0 : ∀ q ∈ tX3_leastWeight_0, hy_ok mX3_leastWeight q.1 q.2 = true := by decide +kernel
def tX3_leastWeight_1 : List (Nat × hyE) := [(16, .iload_n 3, 17, 3, 0, 0, 0, 0, none, []),
  (17, .invokestatic 36, 20, 9, 2, 0, 0, 0, (some mX3_weightsBelow), []),
  (20, .iconst 1, 21, 0, 0, 0, 0, 1, none, []),
  (21, .iadd, 22, 0, 0, 0, 0, 0, none, []),
  (22, .istore 4, 24, 4, 0, 0, 0, 0, none, []),
  (24, .iload 4, 26, 4, 0, 0, 0, 0, none, []),
  (26, .iload_n 1, 27, 1, 0, 0, 0, 0, none, []),
  (27, .iload_n 3, 28, 3, 0, 0, 0, 0, none, []),
  (28, .invokestatic 39, 31, 12, 3, 0, 0, 0, (some mX3_isReadSo), []),
  (31, .ifCond .eq 17, 34, 48, 0, 0, 0, 0, none, [])]
theorem oX3_leastWeight_1 : ∀ q ∈ tX3_leastWeight_1, hy_ok mX3_leastWeight q.1 q.2 = true := by decide +kernel
def tX3_leastWeight_2 : List (Nat × hyE) := [(34, .iload_n 2, 35, 2, 0, 0, 0, 0, none, []),
  (35, .iconst (-1), 36, 0, 0, 0, 0, (-1), none, []),
  (36, .if_icmp .eq 9, 39, 45, 0, 0, 0, 0, none, []),
  (39, .iload 4, 41, 4, 0, 0, 0, 0, none, []),
  (41, .iload_n 2, 42, 2, 0, 0, 0, 0, none, []),
  (42, .if_icmp .ge 6, 45, 48, 0, 0, 0, 0, none, []),
  (45, .iload 4, 47, 4, 0, 0, 0, 0, none, []),
  (47, .istore_n 2, 48, 2, 0, 0, 0, 0, none, [])]
theorem oX3_leastWeight_2 : ∀ q ∈ tX3_leastWeight_2, hy_ok mX3_leastWeight q.1 q.2 = true := by decide +kernel
def tX3_leastWeight_3 : List (Nat × hyE) := [(48, .iinc 3 1, 51, 3, 0, 0, 0, 1, none, []),
  (51, .goto (-44), 54, 7, 0, 0, 0, 0, none, []),
  (54, .iload_n 2, 55, 2, 0, 0, 0, 0, none, []),
  (55, .ireturn, 56, 0, 0, 0, 0, 0, none, [])]
theorem oX3_leastWeight_3 : ∀ q ∈ tX3_leastWeight_3, hy_ok mX3_leastWeight q.1 q.2 = true := by decide +kernel
def tX3_leastWeight : hyT := [tX3_leastWeight_0, tX3_leastWeight_1, tX3_leastWeight_2, tX3_leastWeight_3]
theorem oX3_leastWeight : hy_tok mX3_leastWeight tX3_leastWeight := List.forall_mem_cons.mpr ⟨oX3_leastWeight_0, List.forall_mem_cons.mpr ⟨oX3_leastWeight_1, List.forall_mem_cons.mpr ⟨oX3_leastWeight_2, List.forall_mem_cons.mpr ⟨oX3_leastWeight_3, fun _ h => absurd h List.not_mem_nil⟩⟩⟩⟩
def tX3_greatestWeight_0 : List (Nat × hyE) := [(0, .iconst (-1), 1, 0, 0, 0, 0, (-1), none, []),
  (1, .istore_n 2, 2, 2, 0, 0, 0, 0, none, []),
  (2, .aload_n 0, 3, 0, 0, 0, 0, 0, none, []),
  (3, .getfield 9, 6, 3, 0, 0, 0, 0, none, []),
  (6, .istore_n 3, 7, 3, 0, 0, 0, 0, none, []),
  (7, .iload_n 3, 8, 3, 0, 0, 0, 0, none, []),
  (8, .aload_n 0, 9, 0, 0, 0, 0, 0, none, []),
  (9, .getfield 15, 12, 3, 1, 0, 0, 0, none, []),
  (12, .if_icmp .gt 43, 15, 55, 0, 0, 0, 0, none, []),
  (15, .sipush 10000, 18, 0, 0, 0, 0, 10000, none, [])]
theorem oX3_greatestWeight_0 : ∀ q ∈ tX3_greatestWeight_0, hy_ok mX3_greatestWeight q.1 q.2 = true := by decide +kernel
def tX3_greatestWeight_1 : List (Nat × hyE) := [(18, .iload_n 1, 19, 1, 0, 0, 0, 0, none, []),
  (19, .iconst 1, 20, 0, 0, 0, 0, 1, none, []),
  (20, .iadd, 21, 0, 0, 0, 0, 0, none, []),
  (21, .iload_n 3, 22, 3, 0, 0, 0, 0, none, []),
  (22, .invokestatic 36, 25, 9, 2, 0, 0, 0, (some mX3_weightsBelow), []),
  (25, .invokestatic 42, 28, 0, 2, 0, 2, 0, (some mJ9_min_7cf53), []),
  (28, .istore 4, 30, 4, 0, 0, 0, 0, none, []),
  (30, .iload 4, 32, 4, 0, 0, 0, 0, none, [])]
theorem oX3_greatestWeight_1 : ∀ q ∈ tX3_greatestWeight_1, hy_ok mX3_greatestWeight q.1 q.2 = true := by decide +kernel
def tX3_greatestWeight_2 : List (Nat × hyE) := [(32, .iload_n 1, 33, 1, 0, 0, 0, 0, none, []),
  (33, .iload_n 3, 34, 3, 0, 0, 0, 0, none, []),
  (34, .invokestatic 39, 37, 12, 3, 0, 0, 0, (some mX3_isReadSo), []),
  (37, .ifCond .eq 12, 40, 49, 0, 0, 0, 0, none, []),
  (40, .iload 4, 42, 4, 0, 0, 0, 0, none, []),
  (42, .iload_n 2, 43, 2, 0, 0, 0, 0, none, []),
  (43, .if_icmp .le 6, 46, 49, 0, 0, 0, 0, none, []),
  (46, .iload 4, 48, 4, 0, 0, 0, 0, none, [])]
theorem oX3_greatestWeight_2 : ∀ q ∈ tX3_greatestWeight_2, hy_ok mX3_greatestWeight q.1 q.2 = true := by decide +kernel
def tX3_greatestWeight_3 : List (Nat × hyE) := [(48, .istore_n 2, 49, 2, 0, 0, 0, 0, none, []),
  (49, .iinc 3 1, 52, 3, 0, 0, 0, 1, none, []),
  (52, .goto (-45), 55, 7, 0, 0, 0, 0, none, []),
  (55, .iload_n 2, 56, 2, 0, 0, 0, 0, none, []),
  (56, .ireturn, 57, 0, 0, 0, 0, 0, none, [])]
theorem oX3_greatestWeight_3 : ∀ q ∈ tX3_greatestWeight_3, hy_ok mX3_greatestWeight q.1 q.2 = true := by decide +kernel
def tX3_greatestWeight : hyT := [tX3_greatestWeight_0, tX3_greatestWeight_1, tX3_greatestWeight_2, tX3_greatestWeight_3]
theorem oX3_greatestWeight : hy_tok mX3_greatestWeight tX3_greatestWeight := List.forall_mem_cons.mpr ⟨oX3_greatestWeight_0, List.forall_mem_cons.mpr ⟨oX3_greatestWeight_1, List.forall_mem_cons.mpr ⟨oX3_greatestWeight_2, List.forall_mem_cons.mpr ⟨oX3_greatestWeight_3, fun _ h => absurd h List.not_mem_nil⟩⟩⟩⟩
def tX3_readBy_0 : List (Nat × hyE) := [(0, .iload_n 0, 1, 0, 0, 0, 0, 0, none, []),
  (1, .sipush 1000, 4, 0, 0, 0, 0, 1000, none, []),
  (4, .iload_n 1, 5, 1, 0, 0, 0, 0, none, []),
  (5, .iadd, 6, 0, 0, 0, 0, 0, none, []),
  (6, .imul, 7, 0, 0, 0, 0, 0, none, []),
  (7, .sipush 1000, 10, 0, 0, 0, 0, 1000, none, []),
  (10, .idiv, 11, 0, 0, 0, 0, 0, none, []),
  (11, .ireturn, 12, 0, 0, 0, 0, 0, none, [])]
theorem oX3_readBy_0 : ∀ q ∈ tX3_readBy_0, hy_ok mX3_readBy q.1 q.2 = true := by decide +kernel
def tX3_readBy : hyT := [tX3_readBy_0]
theorem oX3_readBy : hy_tok mX3_readBy tX3_readBy := List.forall_mem_cons.mpr ⟨oX3_readBy_0, fun _ h => absurd h List.not_mem_nil⟩
def tX3_isReadSo_0 : List (Nat × hyE) := [(0, .iload_n 0, 1, 0, 0, 0, 0, 0, none, []),
  (1, .iconst 1, 2, 0, 0, 0, 0, 1, none, []),
  (2, .sipush 10000, 5, 0, 0, 0, 0, 10000, none, []),
  (5, .invokestatic 21, 8, 1, 3, 1, 0, 0, (some mX5_within), []),
  (8, .ifCond .eq 16, 11, 24, 0, 0, 0, 0, none, []),
  (11, .iload_n 0, 12, 0, 0, 0, 0, 0, none, []),
  (12, .iload_n 2, 13, 2, 0, 0, 0, 0, none, []),
  (13, .invokestatic 25, 16, 7, 2, 0, 0, 0, (some mX3_readBy), [])]
theorem oX3_isReadSo_0 : ∀ q ∈ tX3_isReadSo_0, hy_ok mX3_isReadSo q.1 q.2 = true := by decide +kernel
def tX3_isReadSo_1 : List (Nat × hyE) := [(16, .iload_n 1, 17, 1, 0, 0, 0, 0, none, []),
  (17, .if_icmp .ne 7, 20, 24, 0, 0, 0, 0, none, []),
  (20, .iconst 1, 21, 0, 0, 0, 0, 1, none, []),
  (21, .goto 4, 24, 25, 0, 0, 0, 0, none, []),
  (24, .iconst 0, 25, 0, 0, 0, 0, 0, none, []),
  (25, .ireturn, 26, 0, 0, 0, 0, 0, none, [])]
theorem oX3_isReadSo_1 : ∀ q ∈ tX3_isReadSo_1, hy_ok mX3_isReadSo q.1 q.2 = true := by decide +kernel
def tX3_isReadSo : hyT := [tX3_isReadSo_0, tX3_isReadSo_1]
theorem oX3_isReadSo : hy_tok mX3_isReadSo tX3_isReadSo := List.forall_mem_cons.mpr ⟨oX3_isReadSo_0, List.forall_mem_cons.mpr ⟨oX3_isReadSo_1, fun _ h => absurd h List.not_mem_nil⟩⟩
def tX3_weightsBelow_0 : List (Nat × hyE) := [(0, .sipush 1000, 3, 0, 0, 0, 0, 1000, none, []),
  (3, .iload_n 1, 4, 1, 0, 0, 0, 0, none, []),
  (4, .iadd, 5, 0, 0, 0, 0, 0, none, []),
  (5, .istore_n 2, 6, 2, 0, 0, 0, 0, none, []),
  (6, .iload_n 0, 7, 0, 0, 0, 0, 0, none, []),
  (7, .ifCond .le 7, 10, 14, 0, 0, 0, 0, none, []),
  (10, .iload_n 2, 11, 2, 0, 0, 0, 0, none, []),
  (11, .ifCond .gt 5, 14, 16, 0, 0, 0, 0, none, []),
  (14, .iconst 0, 15, 0, 0, 0, 0, 0, none, []),
  (15, .ireturn, 16, 0, 0, 0, 0, 0, none, [])]
theorem oX3_weightsBelow_0 : ∀ q ∈ tX3_weightsBelow_0, hy_ok mX3_weightsBelow q.1 q.2 = true := by decide +kernel
def tX3_weightsBelow_1 : List (Nat × hyE) := [(16, .iload_n 0, 17, 0, 0, 0, 0, 0, none, []),
  (17, .sipush 1000, 20, 0, 0, 0, 0, 1000, none, []),
  (20, .imul, 21, 0, 0, 0, 0, 0, none, []),
  (21, .iconst 1, 22, 0, 0, 0, 0, 1, none, []),
  (22, .isub, 23, 0, 0, 0, 0, 0, none, []),
  (23, .iload_n 2, 24, 2, 0, 0, 0, 0, none, []),
  (24, .idiv, 25, 0, 0, 0, 0, 0, none, []),
  (25, .ireturn, 26, 0, 0, 0, 0, 0, none, [])]
theorem oX3_weightsBelow_1 : ∀ q ∈ tX3_weightsBelow_1, hy_ok mX3_weightsBelow q.1 q.2 = true := by decide +kernel
def tX3_weightsBelow : hyT := [tX3_weightsBelow_0, tX3_weightsBelow_1]
theorem oX3_weightsBelow : hy_tok mX3_weightsBelow tX3_weightsBelow := List.forall_mem_cons.mpr ⟨oX3_weightsBelow_0, List.forall_mem_cons.mpr ⟨oX3_weightsBelow_1, fun _ h => absurd h List.not_mem_nil⟩⟩
def tX4_init_0 : List (Nat × hyE) := [(0, .aload_n 0, 1, 0, 0, 0, 0, 0, none, []),
  (1, .invokespecial 3, 4, 0, 0, 0, 0, 0, none, []),
  (4, .aload_n 0, 5, 0, 0, 0, 0, 0, none, []),
  (5, .bipush 7, 7, 0, 0, 0, 0, 7, none, []),
  (7, .newarray .int, 9, 0, 0, 0, 0, 0, none, []),
  (9, .putfield 11, 12, 4, 0, 2, 0, 0, none, []),
  (12, .aload_n 0, 13, 0, 0, 0, 0, 0, none, []),
  (13, .bipush 7, 15, 0, 0, 0, 0, 7, none, []),
  (15, .newarray .int, 17, 0, 0, 0, 0, 0, none, [])]
theorem oX4_init_0 : ∀ q ∈ tX4_init_0, hy_ok mX4_init q.1 q.2 = true := by decide +kernel
def tX4_init_1 : List (Nat × hyE) := [(17, .putfield 15, 20, 4, 1, 2, 0, 0, none, []),
  (20, .aload_n 0, 21, 0, 0, 0, 0, 0, none, []),
  (21, .bipush 7, 23, 0, 0, 0, 0, 7, none, []),
  (23, .newarray .int, 25, 0, 0, 0, 0, 0, none, []),
  (25, .putfield 18, 28, 4, 2, 2, 0, 0, none, []),
  (28, .aload_n 0, 29, 0, 0, 0, 0, 0, none, []),
  (29, .bipush 7, 31, 0, 0, 0, 0, 7, none, []),
  (31, .newarray .int, 33, 0, 0, 0, 0, 0, none, [])]
theorem oX4_init_1 : ∀ q ∈ tX4_init_1, hy_ok mX4_init q.1 q.2 = true := by decide +kernel
def tX4_init_2 : List (Nat × hyE) := [(33, .putfield 21, 36, 4, 3, 2, 0, 0, none, []),
  (36, .aload_n 0, 37, 0, 0, 0, 0, 0, none, []),
  (37, .bipush 7, 39, 0, 0, 0, 0, 7, none, []),
  (39, .newarray .int, 41, 0, 0, 0, 0, 0, none, []),
  (41, .putfield 24, 44, 4, 4, 2, 0, 0, none, []),
  (44, .aload_n 0, 45, 0, 0, 0, 0, 0, none, []),
  (45, .bipush 7, 47, 0, 0, 0, 0, 7, none, []),
  (47, .newarray .int, 49, 0, 0, 0, 0, 0, none, [])]
theorem oX4_init_2 : ∀ q ∈ tX4_init_2, hy_ok mX4_init q.1 q.2 = true := by decide +kernel
def tX4_init_3 : List (Nat × hyE) := [(49, .putfield 27, 52, 4, 5, 2, 0, 0, none, []),
  (52, .aload_n 0, 53, 0, 0, 0, 0, 0, none, []),
  (53, .iconst 2, 54, 0, 0, 0, 0, 2, none, []),
  (54, .putfield 30, 57, 4, 7, 0, 0, 0, none, []),
  (57, .return_, 58, 0, 0, 0, 0, 0, none, [])]
theorem oX4_init_3 : ∀ q ∈ tX4_init_3, hy_ok mX4_init q.1 q.2 = true := by decide +kernel
def tX4_init : hyT := [tX4_init_0, tX4_init_1, tX4_init_2, tX4_init_3]
theorem oX4_init : hy_tok mX4_init tX4_init := List.forall_mem_cons.mpr ⟨oX4_init_0, List.forall_mem_cons.mpr ⟨oX4_init_1, List.forall_mem_cons.mpr ⟨oX4_init_2, List.forall_mem_cons.mpr ⟨oX4_init_3, fun _ h => absurd h List.not_mem_nil⟩⟩⟩⟩
def tX4_count_0 : List (Nat × hyE) := [(0, .aload_n 0, 1, 0, 0, 0, 0, 0, none, []),
  (1, .getfield 34, 4, 4, 6, 0, 0, 0, none, []),
  (4, .ireturn, 5, 0, 0, 0, 0, 0, none, [])]
theorem oX4_count_0 : ∀ q ∈ tX4_count_0, hy_ok mX4_count q.1 q.2 = true := by decide +kernel
def tX4_count : hyT := [tX4_count_0]
theorem oX4_count : hy_tok mX4_count tX4_count := List.forall_mem_cons.mpr ⟨oX4_count_0, fun _ h => absurd h List.not_mem_nil⟩
def tX4_take_0 : List (Nat × hyE) := [(0, .iload_n 1, 1, 1, 0, 0, 0, 0, none, []),
  (1, .iconst 0, 2, 0, 0, 0, 0, 0, none, []),
  (2, .iconst 3, 3, 0, 0, 0, 0, 3, none, []),
  (3, .invokestatic 37, 6, 1, 3, 1, 0, 0, (some mX5_within), []),
  (6, .ifCond .eq 44, 9, 50, 0, 0, 0, 0, none, []),
  (9, .iload_n 2, 10, 2, 0, 0, 0, 0, none, []),
  (10, .iconst 1, 11, 0, 0, 0, 0, 1, none, []),
  (11, .bipush 100, 13, 0, 0, 0, 0, 100, none, []),
  (13, .invokestatic 37, 16, 1, 3, 1, 0, 0, (some mX5_within), [])]
theorem oX4_take_0 : ∀ q ∈ tX4_take_0, hy_ok mX4_take q.1 q.2 = true := by decide +kernel
def tX4_take_1 : List (Nat × hyE) := [(16, .ifCond .eq 34, 19, 50, 0, 0, 0, 0, none, []),
  (19, .iload_n 3, 20, 3, 0, 0, 0, 0, none, []),
  (20, .iconst 0, 21, 0, 0, 0, 0, 0, none, []),
  (21, .sipush 1000, 24, 0, 0, 0, 0, 1000, none, []),
  (24, .invokestatic 37, 27, 1, 3, 1, 0, 0, (some mX5_within), []),
  (27, .ifCond .eq 23, 30, 50, 0, 0, 0, 0, none, []),
  (30, .iload 4, 32, 4, 0, 0, 0, 0, none, [])]
theorem oX4_take_1 : ∀ q ∈ tX4_take_1, hy_ok mX4_take q.1 q.2 = true := by decide +kernel
def tX4_take_2 : List (Nat × hyE) := [(32, .iconst 1, 33, 0, 0, 0, 0, 1, none, []),
  (33, .bipush 9, 35, 0, 0, 0, 0, 9, none, []),
  (35, .invokestatic 37, 38, 1, 3, 1, 0, 0, (some mX5_within), []),
  (38, .ifCond .eq 12, 41, 50, 0, 0, 0, 0, none, []),
  (41, .aload_n 0, 42, 0, 0, 0, 0, 0, none, []),
  (42, .getfield 34, 45, 4, 6, 0, 0, 0, none, []),
  (45, .bipush 7, 47, 0, 0, 0, 0, 7, none, []),
  (47, .if_icmp .lt 5, 50, 52, 0, 0, 0, 0, none, [])]
theorem oX4_take_2 : ∀ q ∈ tX4_take_2, hy_ok mX4_take q.1 q.2 = true := by decide +kernel
def tX4_take_3 : List (Nat × hyE) := [(50, .iconst (-1), 51, 0, 0, 0, 0, (-1), none, []),
  (51, .ireturn, 52, 0, 0, 0, 0, 0, none, []),
  (52, .aload_n 0, 53, 0, 0, 0, 0, 0, none, []),
  (53, .getfield 11, 56, 4, 0, 0, 0, 0, none, []),
  (56, .aload_n 0, 57, 0, 0, 0, 0, 0, none, []),
  (57, .getfield 34, 60, 4, 6, 0, 0, 0, none, []),
  (60, .iload_n 1, 61, 1, 0, 0, 0, 0, none, []),
  (61, .iastore, 62, 0, 0, 0, 0, 0, none, []),
  (62, .aload_n 0, 63, 0, 0, 0, 0, 0, none, []),
  (63, .getfield 15, 66, 4, 1, 0, 0, 0, none, [])]
theorem oX4_take_3 : ∀ q ∈ tX4_take_3, hy_ok mX4_take q.1 q.2 = true := by decide +kernel
def tX4_take_4 : List (Nat × hyE) := [(66, .aload_n 0, 67, 0, 0, 0, 0, 0, none, []),
  (67, .getfield 34, 70, 4, 6, 0, 0, 0, none, []),
  (70, .iload_n 2, 71, 2, 0, 0, 0, 0, none, []),
  (71, .iastore, 72, 0, 0, 0, 0, 0, none, []),
  (72, .aload_n 0, 73, 0, 0, 0, 0, 0, none, []),
  (73, .getfield 18, 76, 4, 2, 0, 0, 0, none, []),
  (76, .aload_n 0, 77, 0, 0, 0, 0, 0, none, []),
  (77, .getfield 34, 80, 4, 6, 0, 0, 0, none, [])]
theorem oX4_take_4 : ∀ q ∈ tX4_take_4, hy_ok mX4_take q.1 q.2 = true := by decide +kernel
def tX4_take_5 : List (Nat × hyE) := [(80, .iload_n 3, 81, 3, 0, 0, 0, 0, none, []),
  (81, .iastore, 82, 0, 0, 0, 0, 0, none, []),
  (82, .aload_n 0, 83, 0, 0, 0, 0, 0, none, []),
  (83, .getfield 21, 86, 4, 3, 0, 0, 0, none, []),
  (86, .aload_n 0, 87, 0, 0, 0, 0, 0, none, []),
  (87, .getfield 34, 90, 4, 6, 0, 0, 0, none, []),
  (90, .iload 4, 92, 4, 0, 0, 0, 0, none, []),
  (92, .iastore, 93, 0, 0, 0, 0, 0, none, []),
  (93, .aload_n 0, 94, 0, 0, 0, 0, 0, none, []),
  (94, .dup, 95, 0, 0, 0, 0, 0, none, []),
  (95, .getfield 34, 98, 4, 6, 0, 0, 0, none, [])]
theorem oX4_take_5 : ∀ q ∈ tX4_take_5, hy_ok mX4_take q.1 q.2 = true := by decide +kernel
def tX4_take_6 : List (Nat × hyE) := [(98, .iconst 1, 99, 0, 0, 0, 0, 1, none, []),
  (99, .iadd, 100, 0, 0, 0, 0, 0, none, []),
  (100, .putfield 34, 103, 4, 6, 0, 0, 0, none, []),
  (103, .aload_n 0, 104, 0, 0, 0, 0, 0, none, []),
  (104, .iconst 0, 105, 0, 0, 0, 0, 0, none, []),
  (105, .putfield 41, 108, 4, 9, 1, 0, 0, none, []),
  (108, .aload_n 0, 109, 0, 0, 0, 0, 0, none, []),
  (109, .getfield 34, 112, 4, 6, 0, 0, 0, none, [])]
theorem oX4_take_6 : ∀ q ∈ tX4_take_6, hy_ok mX4_take q.1 q.2 = true := by decide +kernel
def tX4_take_7 : List (Nat × hyE) := [(112, .iconst 1, 113, 0, 0, 0, 0, 1, none, []),
  (113, .isub, 114, 0, 0, 0, 0, 0, none, []),
  (114, .ireturn, 115, 0, 0, 0, 0, 0, none, [])]
theorem oX4_take_7 : ∀ q ∈ tX4_take_7, hy_ok mX4_take q.1 q.2 = true := by decide +kernel
def tX4_take : hyT := [tX4_take_0, tX4_take_1, tX4_take_2, tX4_take_3, tX4_take_4, tX4_take_5, tX4_take_6, tX4_take_7]
theorem oX4_take : hy_tok mX4_take tX4_take := List.forall_mem_cons.mpr ⟨oX4_take_0, List.forall_mem_cons.mpr ⟨oX4_take_1, List.forall_mem_cons.mpr ⟨oX4_take_2, List.forall_mem_cons.mpr ⟨oX4_take_3, List.forall_mem_cons.mpr ⟨oX4_take_4, List.forall_mem_cons.mpr ⟨oX4_take_5, List.forall_mem_cons.mpr ⟨oX4_take_6, List.forall_mem_cons.mpr ⟨oX4_take_7, fun _ h => absurd h List.not_mem_nil⟩⟩⟩⟩⟩⟩⟩⟩
def tX4_setChange_0 : List (Nat × hyE) := [(0, .iload_n 1, 1, 1, 0, 0, 0, 0, none, []),
  (1, .iconst 0, 2, 0, 0, 0, 0, 0, none, []),
  (2, .bipush 50, 4, 0, 0, 0, 0, 50, none, []),
  (4, .invokestatic 37, 7, 1, 3, 1, 0, 0, (some mX5_within), []),
  (7, .ifCond .ne 5, 10, 12, 0, 0, 0, 0, none, []),
  (10, .iconst 0, 11, 0, 0, 0, 0, 0, none, []),
  (11, .ireturn, 12, 0, 0, 0, 0, 0, none, []),
  (12, .aload_n 0, 13, 0, 0, 0, 0, 0, none, []),
  (13, .iload_n 1, 14, 1, 0, 0, 0, 0, none, []),
  (14, .putfield 30, 17, 4, 7, 0, 0, 0, none, [])]
theorem oX4_setChange_0 : ∀ q ∈ tX4_setChange_0, hy_ok mX4_setChange q.1 q.2 = true := by decide +kernel
def tX4_setChange_1 : List (Nat × hyE) := [(17, .aload_n 0, 18, 0, 0, 0, 0, 0, none, []),
  (18, .iconst 0, 19, 0, 0, 0, 0, 0, none, []),
  (19, .putfield 41, 22, 4, 9, 1, 0, 0, none, []),
  (22, .iconst 1, 23, 0, 0, 0, 0, 1, none, []),
  (23, .ireturn, 24, 0, 0, 0, 0, 0, none, [])]
theorem oX4_setChange_1 : ∀ q ∈ tX4_setChange_1, hy_ok mX4_setChange q.1 q.2 = true := by decide +kernel
def tX4_setChange : hyT := [tX4_setChange_0, tX4_setChange_1]
theorem oX4_setChange : hy_tok mX4_setChange tX4_setChange := List.forall_mem_cons.mpr ⟨oX4_setChange_0, List.forall_mem_cons.mpr ⟨oX4_setChange_1, fun _ h => absurd h List.not_mem_nil⟩⟩
def tX4_dropOrders_0 : List (Nat × hyE) := [(0, .aload_n 0, 1, 0, 0, 0, 0, 0, none, []),
  (1, .getfield 34, 4, 4, 6, 0, 0, 0, none, []),
  (4, .istore_n 1, 5, 1, 0, 0, 0, 0, none, []),
  (5, .aload_n 0, 6, 0, 0, 0, 0, 0, none, []),
  (6, .iconst 0, 7, 0, 0, 0, 0, 0, none, []),
  (7, .putfield 34, 10, 4, 6, 0, 0, 0, none, []),
  (10, .aload_n 0, 11, 0, 0, 0, 0, 0, none, []),
  (11, .iconst 0, 12, 0, 0, 0, 0, 0, none, []),
  (12, .putfield 41, 15, 4, 9, 1, 0, 0, none, []),
  (15, .iload_n 1, 16, 1, 0, 0, 0, 0, none, [])]
theorem oX4_dropOrders_0 : ∀ q ∈ tX4_dropOrders_0, hy_ok mX4_dropOrders q.1 q.2 = true := by decide +kernel
def tX4_dropOrders_1 : List (Nat × hyE) := [(16, .ireturn, 17, 0, 0, 0, 0, 0, none, [])]
theorem oX4_dropOrders_1 : ∀ q ∈ tX4_dropOrders_1, hy_ok mX4_dropOrders q.1 q.2 = true := by decide +kernel
def tX4_dropOrders : hyT := [tX4_dropOrders_0, tX4_dropOrders_1]
theorem oX4_dropOrders : hy_tok mX4_dropOrders tX4_dropOrders := List.forall_mem_cons.mpr ⟨oX4_dropOrders_0, List.forall_mem_cons.mpr ⟨oX4_dropOrders_1, fun _ h => absurd h List.not_mem_nil⟩⟩
def tX4_leastLate_0 : List (Nat × hyE) := [(0, .aload_n 0, 1, 0, 0, 0, 0, 0, none, []),
  (1, .invokevirtual 45, 4, 0, 0, 0, 4, 0, (some mX4_plan), []),
  (4, .aload_n 0, 5, 0, 0, 0, 0, 0, none, []),
  (5, .getfield 48, 8, 4, 8, 0, 0, 0, none, []),
  (8, .ireturn, 9, 0, 0, 0, 0, 0, none, [])]
theorem oX4_leastLate_0 : ∀ q ∈ tX4_leastLate_0, hy_ok mX4_leastLate q.1 q.2 = true := by decide +kernel
def tX4_leastLate : hyT := [tX4_leastLate_0]
theorem oX4_leastLate : hy_tok mX4_leastLate tX4_leastLate := List.forall_mem_cons.mpr ⟨oX4_leastLate_0, fun _ h => absurd h List.not_mem_nil⟩
def tX4_orderAt_0 : List (Nat × hyE) := [(0, .iload_n 1, 1, 1, 0, 0, 0, 0, none, []),
  (1, .iconst 0, 2, 0, 0, 0, 0, 0, none, []),
  (2, .aload_n 0, 3, 0, 0, 0, 0, 0, none, []),
  (3, .getfield 34, 6, 4, 6, 0, 0, 0, none, []),
  (6, .iconst 1, 7, 0, 0, 0, 0, 1, none, []),
  (7, .isub, 8, 0, 0, 0, 0, 0, none, []),
  (8, .invokestatic 37, 11, 1, 3, 1, 0, 0, (some mX5_within), []),
  (11, .ifCond .ne 5, 14, 16, 0, 0, 0, 0, none, []),
  (14, .iconst (-1), 15, 0, 0, 0, 0, (-1), none, []),
  (15, .ireturn, 16, 0, 0, 0, 0, 0, none, [])]
theorem oX4_orderAt_0 : ∀ q ∈ tX4_orderAt_0, hy_ok mX4_orderAt q.1 q.2 = true := by decide +kernel
def tX4_orderAt_1 : List (Nat × hyE) := [(16, .aload_n 0, 17, 0, 0, 0, 0, 0, none, []),
  (17, .invokevirtual 45, 20, 0, 0, 0, 4, 0, (some mX4_plan), []),
  (20, .aload_n 0, 21, 0, 0, 0, 0, 0, none, []),
  (21, .getfield 27, 24, 4, 5, 0, 0, 0, none, []),
  (24, .iload_n 1, 25, 1, 0, 0, 0, 0, none, []),
  (25, .iaload, 26, 0, 0, 0, 0, 0, none, []),
  (26, .ireturn, 27, 0, 0, 0, 0, 0, none, [])]
theorem oX4_orderAt_1 : ∀ q ∈ tX4_orderAt_1, hy_ok mX4_orderAt q.1 q.2 = true := by decide +kernel
def tX4_orderAt : hyT := [tX4_orderAt_0, tX4_orderAt_1]
theorem oX4_orderAt : hy_tok mX4_orderAt tX4_orderAt := List.forall_mem_cons.mpr ⟨oX4_orderAt_0, List.forall_mem_cons.mpr ⟨oX4_orderAt_1, fun _ h => absurd h List.not_mem_nil⟩⟩
def tX4_endAt_0 : List (Nat × hyE) := [(0, .iload_n 1, 1, 1, 0, 0, 0, 0, none, []),
  (1, .iconst 0, 2, 0, 0, 0, 0, 0, none, []),
  (2, .aload_n 0, 3, 0, 0, 0, 0, 0, none, []),
  (3, .getfield 34, 6, 4, 6, 0, 0, 0, none, []),
  (6, .iconst 1, 7, 0, 0, 0, 0, 1, none, []),
  (7, .isub, 8, 0, 0, 0, 0, 0, none, []),
  (8, .invokestatic 37, 11, 1, 3, 1, 0, 0, (some mX5_within), []),
  (11, .ifCond .ne 5, 14, 16, 0, 0, 0, 0, none, []),
  (14, .iconst (-1), 15, 0, 0, 0, 0, (-1), none, []),
  (15, .ireturn, 16, 0, 0, 0, 0, 0, none, [])]
theorem oX4_endAt_0 : ∀ q ∈ tX4_endAt_0, hy_ok mX4_endAt q.1 q.2 = true := by decide +kernel
def tX4_endAt_1 : List (Nat × hyE) := [(16, .aload_n 0, 17, 0, 0, 0, 0, 0, none, []),
  (17, .invokevirtual 45, 20, 0, 0, 0, 4, 0, (some mX4_plan), []),
  (20, .iconst 0, 21, 0, 0, 0, 0, 0, none, []),
  (21, .istore_n 2, 22, 2, 0, 0, 0, 0, none, []),
  (22, .iconst 0, 23, 0, 0, 0, 0, 0, none, []),
  (23, .istore_n 3, 24, 3, 0, 0, 0, 0, none, []),
  (24, .iconst 0, 25, 0, 0, 0, 0, 0, none, []),
  (25, .istore 4, 27, 4, 0, 0, 0, 0, none, []),
  (27, .iload 4, 29, 4, 0, 0, 0, 0, none, []),
  (29, .iload_n 1, 30, 1, 0, 0, 0, 0, none, []),
  (30, .if_icmp .gt 36, 33, 66, 0, 0, 0, 0, none, [])]
theorem oX4_endAt_1 : ∀ q ∈ tX4_endAt_1, hy_ok mX4_endAt q.1 q.2 = true := by decide +kernel
def tX4_endAt_2 : List (Nat × hyE) := [(33, .aload_n 0, 34, 0, 0, 0, 0, 0, none, []),
  (34, .aload_n 0, 35, 0, 0, 0, 0, 0, none, []),
  (35, .getfield 27, 38, 4, 5, 0, 0, 0, none, []),
  (38, .iload 4, 40, 4, 0, 0, 0, 0, none, []),
  (40, .iaload, 41, 0, 0, 0, 0, 0, none, []),
  (41, .iload_n 2, 42, 2, 0, 0, 0, 0, none, []),
  (42, .iload_n 3, 43, 3, 0, 0, 0, 0, none, []),
  (43, .invokevirtual 51, 46, 0, 3, 0, 4, 0, (some mX4_endOf), []),
  (46, .istore_n 2, 47, 2, 0, 0, 0, 0, none, []),
  (47, .aload_n 0, 48, 0, 0, 0, 0, 0, none, [])]
theorem oX4_endAt_2 : ∀ q ∈ tX4_endAt_2, hy_ok mX4_endAt q.1 q.2 = true := by decide +kernel
def tX4_endAt_3 : List (Nat × hyE) := [(48, .getfield 11, 51, 4, 0, 0, 0, 0, none, []),
  (51, .aload_n 0, 52, 0, 0, 0, 0, 0, none, []),
  (52, .getfield 27, 55, 4, 5, 0, 0, 0, none, []),
  (55, .iload 4, 57, 4, 0, 0, 0, 0, none, []),
  (57, .iaload, 58, 0, 0, 0, 0, 0, none, []),
  (58, .iaload, 59, 0, 0, 0, 0, 0, none, []),
  (59, .istore_n 3, 60, 3, 0, 0, 0, 0, none, []),
  (60, .iinc 4 1, 63, 4, 0, 0, 0, 1, none, []),
  (63, .goto (-36), 66, 27, 0, 0, 0, 0, none, [])]
theorem oX4_endAt_3 : ∀ q ∈ tX4_endAt_3, hy_ok mX4_endAt q.1 q.2 = true := by decide +kernel
def tX4_endAt_4 : List (Nat × hyE) := [(66, .iload_n 2, 67, 2, 0, 0, 0, 0, none, []),
  (67, .ireturn, 68, 0, 0, 0, 0, 0, none, [])]
theorem oX4_endAt_4 : ∀ q ∈ tX4_endAt_4, hy_ok mX4_endAt q.1 q.2 = true := by decide +kernel
def tX4_endAt : hyT := [tX4_endAt_0, tX4_endAt_1, tX4_endAt_2, tX4_endAt_3, tX4_endAt_4]
theorem oX4_endAt : hy_tok mX4_endAt tX4_endAt := List.forall_mem_cons.mpr ⟨oX4_endAt_0, List.forall_mem_cons.mpr ⟨oX4_endAt_1, List.forall_mem_cons.mpr ⟨oX4_endAt_2, List.forall_mem_cons.mpr ⟨oX4_endAt_3, List.forall_mem_cons.mpr ⟨oX4_endAt_4, fun _ h => absurd h List.not_mem_nil⟩⟩⟩⟩⟩
def tX4_plan_0 : List (Nat × hyE) := [(0, .aload_n 0, 1, 0, 0, 0, 0, 0, none, []),
  (1, .getfield 41, 4, 4, 9, 0, 0, 0, none, []),
  (4, .ifCond .eq 4, 7, 8, 0, 0, 0, 0, none, []),
  (7, .return_, 8, 0, 0, 0, 0, 0, none, []),
  (8, .aload_n 0, 9, 0, 0, 0, 0, 0, none, []),
  (9, .iconst 1, 10, 0, 0, 0, 0, 1, none, []),
  (10, .putfield 41, 13, 4, 9, 1, 0, 0, none, []),
  (13, .aload_n 0, 14, 0, 0, 0, 0, 0, none, []),
  (14, .ldc 55, 16, 0, 0, 0, 0, 1000000, none, [])]
theorem oX4_plan_0 : ∀ q ∈ tX4_plan_0, hy_ok mX4_plan q.1 q.2 = true := by decide +kernel
def tX4_plan_1 : List (Nat × hyE) := [(16, .putfield 48, 19, 4, 8, 0, 0, 0, none, []),
  (19, .aload_n 0, 20, 0, 0, 0, 0, 0, none, []),
  (20, .iconst 0, 21, 0, 0, 0, 0, 0, none, []),
  (21, .iconst 0, 22, 0, 0, 0, 0, 0, none, []),
  (22, .iconst 0, 23, 0, 0, 0, 0, 0, none, []),
  (23, .iconst 0, 24, 0, 0, 0, 0, 0, none, []),
  (24, .iconst 0, 25, 0, 0, 0, 0, 0, none, []),
  (25, .invokevirtual 56, 28, 0, 5, 0, 4, 0, (some mX4_tryPlace), []),
  (28, .return_, 29, 0, 0, 0, 0, 0, none, [])]
theorem oX4_plan_1 : ∀ q ∈ tX4_plan_1, hy_ok mX4_plan q.1 q.2 = true := by decide +kernel
def tX4_plan : hyT := [tX4_plan_0, tX4_plan_1]
theorem oX4_plan : hy_tok mX4_plan tX4_plan := List.forall_mem_cons.mpr ⟨oX4_plan_0, List.forall_mem_cons.mpr ⟨oX4_plan_1, fun _ h => absurd h List.not_mem_nil⟩⟩
def tX4_tryPlace_0 : List (Nat × hyE) := [(0, .iload_n 1, 1, 1, 0, 0, 0, 0, none, []),
  (1, .aload_n 0, 2, 0, 0, 0, 0, 0, none, []),
  (2, .getfield 34, 5, 4, 6, 0, 0, 0, none, []),
  (5, .if_icmp .lt 10, 8, 15, 0, 0, 0, 0, none, []),
  (8, .aload_n 0, 9, 0, 0, 0, 0, 0, none, []),
  (9, .iload 5, 11, 5, 0, 0, 0, 0, none, []),
  (11, .invokevirtual 60, 14, 0, 1, 0, 4, 0, (some mX4_keepRow), []),
  (14, .return_, 15, 0, 0, 0, 0, 0, none, []),
  (15, .iconst 0, 16, 0, 0, 0, 0, 0, none, [])]
theorem oX4_tryPlace_0 : ∀ q ∈ tX4_tryPlace_0, hy_ok mX4_tryPlace q.1 q.2 = true := by decide +kernel
def tX4_tryPlace_1 : List (Nat × hyE) := [(16, .istore 6, 18, 6, 0, 0, 0, 0, none, []),
  (18, .iload 6, 20, 6, 0, 0, 0, 0, none, []),
  (20, .aload_n 0, 21, 0, 0, 0, 0, 0, none, []),
  (21, .getfield 34, 24, 4, 6, 0, 0, 0, none, []),
  (24, .if_icmp .ge 42, 27, 66, 0, 0, 0, 0, none, []),
  (27, .iload_n 2, 28, 2, 0, 0, 0, 0, none, []),
  (28, .iload 6, 30, 6, 0, 0, 0, 0, none, []),
  (30, .ishr, 31, 0, 0, 0, 0, 0, none, []),
  (31, .iconst 1, 32, 0, 0, 0, 0, 1, none, [])]
theorem oX4_tryPlace_1 : ∀ q ∈ tX4_tryPlace_1, hy_ok mX4_tryPlace q.1 q.2 = true := by decide +kernel
def tX4_tryPlace_2 : List (Nat × hyE) := [(32, .iand, 33, 0, 0, 0, 0, 0, none, []),
  (33, .ifCond .ne 27, 36, 60, 0, 0, 0, 0, none, []),
  (36, .aload_n 0, 37, 0, 0, 0, 0, 0, none, []),
  (37, .getfield 24, 40, 4, 4, 0, 0, 0, none, []),
  (40, .iload_n 1, 41, 1, 0, 0, 0, 0, none, []),
  (41, .iload 6, 43, 6, 0, 0, 0, 0, none, []),
  (43, .iastore, 44, 0, 0, 0, 0, 0, none, []),
  (44, .aload_n 0, 45, 0, 0, 0, 0, 0, none, []),
  (45, .iload_n 1, 46, 1, 0, 0, 0, 0, none, []),
  (46, .iload_n 2, 47, 2, 0, 0, 0, 0, none, []),
  (47, .iconst 1, 48, 0, 0, 0, 0, 1, none, [])]
theorem oX4_tryPlace_2 : ∀ q ∈ tX4_tryPlace_2, hy_ok mX4_tryPlace q.1 q.2 = true := by decide +kernel
def tX4_tryPlace_3 : List (Nat × hyE) := [(48, .iload 6, 50, 6, 0, 0, 0, 0, none, []),
  (50, .ishl, 51, 0, 0, 0, 0, 0, none, []),
  (51, .ior, 52, 0, 0, 0, 0, 0, none, []),
  (52, .iload_n 3, 53, 3, 0, 0, 0, 0, none, []),
  (53, .iload 4, 55, 4, 0, 0, 0, 0, none, []),
  (55, .iload 5, 57, 5, 0, 0, 0, 0, none, []),
  (57, .invokevirtual 64, 60, 0, 5, 0, 4, 0, (some mX4_tryRest), []),
  (60, .iinc 6 1, 63, 6, 0, 0, 0, 1, none, []),
  (63, .goto (-45), 66, 18, 0, 0, 0, 0, none, [])]
theorem oX4_tryPlace_3 : ∀ q ∈ tX4_tryPlace_3, hy_ok mX4_tryPlace q.1 q.2 = true := by decide +kernel
def tX4_tryPlace_4 : List (Nat × hyE) := [(66, .return_, 67, 0, 0, 0, 0, 0, none, [])]
theorem oX4_tryPlace_4 : ∀ q ∈ tX4_tryPlace_4, hy_ok mX4_tryPlace q.1 q.2 = true := by decide +kernel
def tX4_tryPlace : hyT := [tX4_tryPlace_0, tX4_tryPlace_1, tX4_tryPlace_2, tX4_tryPlace_3, tX4_tryPlace_4]
theorem oX4_tryPlace : hy_tok mX4_tryPlace tX4_tryPlace := List.forall_mem_cons.mpr ⟨oX4_tryPlace_0, List.forall_mem_cons.mpr ⟨oX4_tryPlace_1, List.forall_mem_cons.mpr ⟨oX4_tryPlace_2, List.forall_mem_cons.mpr ⟨oX4_tryPlace_3, List.forall_mem_cons.mpr ⟨oX4_tryPlace_4, fun _ h => absurd h List.not_mem_nil⟩⟩⟩⟩⟩
def tX4_tryRest_0 : List (Nat × hyE) := [(0, .aload_n 0, 1, 0, 0, 0, 0, 0, none, []),
  (1, .getfield 24, 4, 4, 4, 0, 0, 0, none, []),
  (4, .iload_n 1, 5, 1, 0, 0, 0, 0, none, []),
  (5, .iaload, 6, 0, 0, 0, 0, 0, none, []),
  (6, .istore 6, 8, 6, 0, 0, 0, 0, none, []),
  (8, .aload_n 0, 9, 0, 0, 0, 0, 0, none, []),
  (9, .iload 6, 11, 6, 0, 0, 0, 0, none, []),
  (11, .iload_n 3, 12, 3, 0, 0, 0, 0, none, []),
  (12, .iload 4, 14, 4, 0, 0, 0, 0, none, []),
  (14, .invokevirtual 51, 17, 0, 3, 0, 4, 0, (some mX4_endOf), [])]
theorem oX4_tryRest_0 : ∀ q ∈ tX4_tryRest_0, hy_ok mX4_tryRest q.1 q.2 = true := by decide +kernel
def tX4_tryRest_1 : List (Nat × hyE) := [(17, .istore 7, 19, 7, 0, 0, 0, 0, none, []),
  (19, .iload 5, 21, 5, 0, 0, 0, 0, none, []),
  (21, .iconst 0, 22, 0, 0, 0, 0, 0, none, []),
  (22, .iload 7, 24, 7, 0, 0, 0, 0, none, []),
  (24, .aload_n 0, 25, 0, 0, 0, 0, 0, none, []),
  (25, .getfield 18, 28, 4, 2, 0, 0, 0, none, []),
  (28, .iload 6, 30, 6, 0, 0, 0, 0, none, []),
  (30, .iaload, 31, 0, 0, 0, 0, 0, none, []),
  (31, .isub, 32, 0, 0, 0, 0, 0, none, [])]
theorem oX4_tryRest_1 : ∀ q ∈ tX4_tryRest_1, hy_ok mX4_tryRest q.1 q.2 = true := by decide +kernel
def tX4_tryRest_2 : List (Nat × hyE) := [(32, .invokestatic 67, 35, 0, 2, 0, 1, 0, (some mJ9_max_7cf53), []),
  (35, .aload_n 0, 36, 0, 0, 0, 0, 0, none, []),
  (36, .getfield 21, 39, 4, 3, 0, 0, 0, none, []),
  (39, .iload 6, 41, 6, 0, 0, 0, 0, none, []),
  (41, .iaload, 42, 0, 0, 0, 0, 0, none, []),
  (42, .imul, 43, 0, 0, 0, 0, 0, none, []),
  (43, .iadd, 44, 0, 0, 0, 0, 0, none, []),
  (44, .istore 8, 46, 8, 0, 0, 0, 0, none, []),
  (46, .iload 8, 48, 8, 0, 0, 0, 0, none, [])]
theorem oX4_tryRest_2 : ∀ q ∈ tX4_tryRest_2, hy_ok mX4_tryRest q.1 q.2 = true := by decide +kernel
def tX4_tryRest_3 : List (Nat × hyE) := [(48, .aload_n 0, 49, 0, 0, 0, 0, 0, none, []),
  (49, .getfield 48, 52, 4, 8, 0, 0, 0, none, []),
  (52, .if_icmp .ge 22, 55, 74, 0, 0, 0, 0, none, []),
  (55, .aload_n 0, 56, 0, 0, 0, 0, 0, none, []),
  (56, .iload_n 1, 57, 1, 0, 0, 0, 0, none, []),
  (57, .iconst 1, 58, 0, 0, 0, 0, 1, none, []),
  (58, .iadd, 59, 0, 0, 0, 0, 0, none, []),
  (59, .iload_n 2, 60, 2, 0, 0, 0, 0, none, []),
  (60, .iload 7, 62, 7, 0, 0, 0, 0, none, []),
  (62, .aload_n 0, 63, 0, 0, 0, 0, 0, none, []),
  (63, .getfield 11, 66, 4, 0, 0, 0, 0, none, [])]
theorem oX4_tryRest_3 : ∀ q ∈ tX4_tryRest_3, hy_ok mX4_tryRest q.1 q.2 = true := by decide +kernel
def tX4_tryRest_4 : List (Nat × hyE) := [(66, .iload 6, 68, 6, 0, 0, 0, 0, none, []),
  (68, .iaload, 69, 0, 0, 0, 0, 0, none, []),
  (69, .iload 8, 71, 8, 0, 0, 0, 0, none, []),
  (71, .invokevirtual 56, 74, 0, 5, 0, 4, 0, (some mX4_tryPlace), []),
  (74, .return_, 75, 0, 0, 0, 0, 0, none, [])]
theorem oX4_tryRest_4 : ∀ q ∈ tX4_tryRest_4, hy_ok mX4_tryRest q.1 q.2 = true := by decide +kernel
def tX4_tryRest : hyT := [tX4_tryRest_0, tX4_tryRest_1, tX4_tryRest_2, tX4_tryRest_3, tX4_tryRest_4]
theorem oX4_tryRest : hy_tok mX4_tryRest tX4_tryRest := List.forall_mem_cons.mpr ⟨oX4_tryRest_0, List.forall_mem_cons.mpr ⟨oX4_tryRest_1, List.forall_mem_cons.mpr ⟨oX4_tryRest_2, List.forall_mem_cons.mpr ⟨oX4_tryRest_3, List.forall_mem_cons.mpr ⟨oX4_tryRest_4, fun _ h => absurd h List.not_mem_nil⟩⟩⟩⟩⟩
def tX4_keepRow_0 : List (Nat × hyE) := [(0, .aload_n 0, 1, 0, 0, 0, 0, 0, none, []),
  (1, .iload_n 1, 2, 1, 0, 0, 0, 0, none, []),
  (2, .putfield 48, 5, 4, 8, 0, 0, 0, none, []),
  (5, .iconst 0, 6, 0, 0, 0, 0, 0, none, []),
  (6, .istore_n 2, 7, 2, 0, 0, 0, 0, none, []),
  (7, .iload_n 2, 8, 2, 0, 0, 0, 0, none, []),
  (8, .aload_n 0, 9, 0, 0, 0, 0, 0, none, []),
  (9, .getfield 34, 12, 4, 6, 0, 0, 0, none, []),
  (12, .if_icmp .ge 21, 15, 33, 0, 0, 0, 0, none, []),
  (15, .aload_n 0, 16, 0, 0, 0, 0, 0, none, [])]
theorem oX4_keepRow_0 : ∀ q ∈ tX4_keepRow_0, hy_ok mX4_keepRow q.1 q.2 = true := by decide +kernel
def tX4_keepRow_1 : List (Nat × hyE) := [(16, .getfield 27, 19, 4, 5, 0, 0, 0, none, []),
  (19, .iload_n 2, 20, 2, 0, 0, 0, 0, none, []),
  (20, .aload_n 0, 21, 0, 0, 0, 0, 0, none, []),
  (21, .getfield 24, 24, 4, 4, 0, 0, 0, none, []),
  (24, .iload_n 2, 25, 2, 0, 0, 0, 0, none, []),
  (25, .iaload, 26, 0, 0, 0, 0, 0, none, []),
  (26, .iastore, 27, 0, 0, 0, 0, 0, none, []),
  (27, .iinc 2 1, 30, 2, 0, 0, 0, 1, none, []),
  (30, .goto (-23), 33, 7, 0, 0, 0, 0, none, [])]
theorem oX4_keepRow_1 : ∀ q ∈ tX4_keepRow_1, hy_ok mX4_keepRow q.1 q.2 = true := by decide +kernel
def tX4_keepRow_2 : List (Nat × hyE) := [(33, .return_, 34, 0, 0, 0, 0, 0, none, [])]
theorem oX4_keepRow_2 : ∀ q ∈ tX4_keepRow_2, hy_ok mX4_keepRow q.1 q.2 = true := by decide +kernel
def tX4_keepRow : hyT := [tX4_keepRow_0, tX4_keepRow_1, tX4_keepRow_2]
theorem oX4_keepRow : hy_tok mX4_keepRow tX4_keepRow := List.forall_mem_cons.mpr ⟨oX4_keepRow_0, List.forall_mem_cons.mpr ⟨oX4_keepRow_1, List.forall_mem_cons.mpr ⟨oX4_keepRow_2, fun _ h => absurd h List.not_mem_nil⟩⟩⟩
def tX4_endOf_0 : List (Nat × hyE) := [(0, .aload_n 0, 1, 0, 0, 0, 0, 0, none, []),
  (1, .getfield 11, 4, 4, 0, 0, 0, 0, none, []),
  (4, .iload_n 1, 5, 1, 0, 0, 0, 0, none, []),
  (5, .iaload, 6, 0, 0, 0, 0, 0, none, []),
  (6, .iload_n 3, 7, 3, 0, 0, 0, 0, none, []),
  (7, .if_icmp .ne 7, 10, 14, 0, 0, 0, 0, none, []),
  (10, .iload_n 2, 11, 2, 0, 0, 0, 0, none, []),
  (11, .goto 9, 14, 20, 0, 0, 0, 0, none, []),
  (14, .iload_n 2, 15, 2, 0, 0, 0, 0, none, []),
  (15, .aload_n 0, 16, 0, 0, 0, 0, 0, none, [])]
theorem oX4_endOf_0 : ∀ q ∈ tX4_endOf_0, hy_ok mX4_endOf q.1 q.2 = true := by decide +kernel
def tX4_endOf_1 : List (Nat × hyE) := [(16, .getfield 30, 19, 4, 7, 0, 0, 0, none, []),
  (19, .iadd, 20, 0, 0, 0, 0, 0, none, []),
  (20, .istore 4, 22, 4, 0, 0, 0, 0, none, []),
  (22, .iload 4, 24, 4, 0, 0, 0, 0, none, []),
  (24, .aload_n 0, 25, 0, 0, 0, 0, 0, none, []),
  (25, .getfield 15, 28, 4, 1, 0, 0, 0, none, []),
  (28, .iload_n 1, 29, 1, 0, 0, 0, 0, none, []),
  (29, .iaload, 30, 0, 0, 0, 0, 0, none, []),
  (30, .iadd, 31, 0, 0, 0, 0, 0, none, []),
  (31, .ireturn, 32, 0, 0, 0, 0, 0, none, [])]
theorem oX4_endOf_1 : ∀ q ∈ tX4_endOf_1, hy_ok mX4_endOf q.1 q.2 = true := by decide +kernel
def tX4_endOf : hyT := [tX4_endOf_0, tX4_endOf_1]
theorem oX4_endOf : hy_tok mX4_endOf tX4_endOf := List.forall_mem_cons.mpr ⟨oX4_endOf_0, List.forall_mem_cons.mpr ⟨oX4_endOf_1, fun _ h => absurd h List.not_mem_nil⟩⟩
def tX1_init_0 : List (Nat × hyE) := [(0, .aload_n 0, 1, 0, 0, 0, 0, 0, none, []),
  (1, .invokespecial 5, 4, 0, 0, 0, 0, 0, none, []),
  (4, .aload_n 0, 5, 0, 0, 0, 0, 0, none, []),
  (5, .bipush 6, 7, 0, 0, 0, 0, 6, none, []),
  (7, .newarray .int, 9, 0, 0, 0, 0, 0, none, []),
  (9, .putfield 11, 12, 1, 0, 2, 0, 0, none, []),
  (12, .aload_n 0, 13, 0, 0, 0, 0, 0, none, []),
  (13, .bipush 6, 15, 0, 0, 0, 0, 6, none, []),
  (15, .newarray .int, 17, 0, 0, 0, 0, 0, none, [])]
theorem oX1_init_0 : ∀ q ∈ tX1_init_0, hy_ok mX1_init q.1 q.2 = true := by decide +kernel
def tX1_init_1 : List (Nat × hyE) := [(17, .putfield 15, 20, 1, 1, 2, 0, 0, none, []),
  (20, .aload_n 0, 21, 0, 0, 0, 0, 0, none, []),
  (21, .bipush 8, 23, 0, 0, 0, 0, 8, none, []),
  (23, .newarray .int, 25, 0, 0, 0, 0, 0, none, []),
  (25, .putfield 18, 28, 1, 2, 2, 0, 0, none, []),
  (28, .aload_n 0, 29, 0, 0, 0, 0, 0, none, []),
  (29, .bipush 8, 31, 0, 0, 0, 0, 8, none, []),
  (31, .newarray .int, 33, 0, 0, 0, 0, 0, none, [])]
theorem oX1_init_1 : ∀ q ∈ tX1_init_1, hy_ok mX1_init q.1 q.2 = true := by decide +kernel
def tX1_init_2 : List (Nat × hyE) := [(33, .putfield 21, 36, 1, 3, 2, 0, 0, none, []),
  (36, .aload_n 0, 37, 0, 0, 0, 0, 0, none, []),
  (37, .bipush 8, 39, 0, 0, 0, 0, 8, none, []),
  (39, .newarray .int, 41, 0, 0, 0, 0, 0, none, []),
  (41, .putfield 24, 44, 1, 4, 2, 0, 0, none, []),
  (44, .aload_n 0, 45, 0, 0, 0, 0, 0, none, []),
  (45, .sipush 256, 48, 0, 0, 0, 0, 256, none, [])]
theorem oX1_init_2 : ∀ q ∈ tX1_init_2, hy_ok mX1_init q.1 q.2 = true := by decide +kernel
def tX1_init_3 : List (Nat × hyE) := [(48, .newarray .int, 50, 0, 0, 0, 0, 0, none, []),
  (50, .putfield 27, 53, 1, 5, 2, 0, 0, none, []),
  (53, .aload_n 0, 54, 0, 0, 0, 0, 0, none, []),
  (54, .sipush 256, 57, 0, 0, 0, 0, 256, none, []),
  (57, .newarray .int, 59, 0, 0, 0, 0, 0, none, []),
  (59, .putfield 30, 62, 1, 6, 2, 0, 0, none, []),
  (62, .aload_n 0, 63, 0, 0, 0, 0, 0, none, []),
  (63, .bipush 16, 65, 0, 0, 0, 0, 16, none, [])]
theorem oX1_init_3 : ∀ q ∈ tX1_init_3, hy_ok mX1_init q.1 q.2 = true := by decide +kernel
def tX1_init_4 : List (Nat × hyE) := [(65, .newarray .int, 67, 0, 0, 0, 0, 0, none, []),
  (67, .putfield 33, 70, 1, 7, 2, 0, 0, none, []),
  (70, .return_, 71, 0, 0, 0, 0, 0, none, [])]
theorem oX1_init_4 : ∀ q ∈ tX1_init_4, hy_ok mX1_init q.1 q.2 = true := by decide +kernel
def tX1_init : hyT := [tX1_init_0, tX1_init_1, tX1_init_2, tX1_init_3, tX1_init_4]
theorem oX1_init : hy_tok mX1_init tX1_init := List.forall_mem_cons.mpr ⟨oX1_init_0, List.forall_mem_cons.mpr ⟨oX1_init_1, List.forall_mem_cons.mpr ⟨oX1_init_2, List.forall_mem_cons.mpr ⟨oX1_init_3, List.forall_mem_cons.mpr ⟨oX1_init_4, fun _ h => absurd h List.not_mem_nil⟩⟩⟩⟩⟩
def tX1_rollCount_0 : List (Nat × hyE) := [(0, .aload_n 0, 1, 0, 0, 0, 0, 0, none, []),
  (1, .getfield 36, 4, 1, 8, 0, 0, 0, none, []),
  (4, .ireturn, 5, 0, 0, 0, 0, 0, none, [])]
theorem oX1_rollCount_0 : ∀ q ∈ tX1_rollCount_0, hy_ok mX1_rollCount q.1 q.2 = true := by decide +kernel
def tX1_rollCount : hyT := [tX1_rollCount_0]
theorem oX1_rollCount : hy_tok mX1_rollCount tX1_rollCount := List.forall_mem_cons.mpr ⟨oX1_rollCount_0, fun _ h => absurd h List.not_mem_nil⟩
def tX1_cutCount_0 : List (Nat × hyE) := [(0, .aload_n 0, 1, 0, 0, 0, 0, 0, none, []),
  (1, .getfield 40, 4, 1, 9, 0, 0, 0, none, []),
  (4, .ireturn, 5, 0, 0, 0, 0, 0, none, [])]
theorem oX1_cutCount_0 : ∀ q ∈ tX1_cutCount_0, hy_ok mX1_cutCount q.1 q.2 = true := by decide +kernel
def tX1_cutCount : hyT := [tX1_cutCount_0]
theorem oX1_cutCount : hy_tok mX1_cutCount tX1_cutCount := List.forall_mem_cons.mpr ⟨oX1_cutCount_0, fun _ h => absurd h List.not_mem_nil⟩
def tX1_addRoll_0 : List (Nat × hyE) := [(0, .iload_n 1, 1, 1, 0, 0, 0, 0, none, []),
  (1, .iconst 1, 2, 0, 0, 0, 0, 1, none, []),
  (2, .sipush 1000, 5, 0, 0, 0, 0, 1000, none, []),
  (5, .invokestatic 43, 8, 1, 3, 1, 0, 0, (some mX5_within), []),
  (8, .ifCond .eq 21, 11, 29, 0, 0, 0, 0, none, []),
  (11, .iload_n 2, 12, 2, 0, 0, 0, 0, none, []),
  (12, .iconst 0, 13, 0, 0, 0, 0, 0, none, []),
  (13, .iconst 2, 14, 0, 0, 0, 0, 2, none, []),
  (14, .invokestatic 43, 17, 1, 3, 1, 0, 0, (some mX5_within), [])]
theorem oX1_addRoll_0 : ∀ q ∈ tX1_addRoll_0, hy_ok mX1_addRoll q.1 q.2 = true := by decide +kernel
def tX1_addRoll_1 : List (Nat × hyE) := [(17, .ifCond .eq 12, 20, 29, 0, 0, 0, 0, none, []),
  (20, .aload_n 0, 21, 0, 0, 0, 0, 0, none, []),
  (21, .getfield 36, 24, 1, 8, 0, 0, 0, none, []),
  (24, .bipush 6, 26, 0, 0, 0, 0, 6, none, []),
  (26, .if_icmp .lt 5, 29, 31, 0, 0, 0, 0, none, []),
  (29, .iconst (-1), 30, 0, 0, 0, 0, (-1), none, []),
  (30, .ireturn, 31, 0, 0, 0, 0, 0, none, []),
  (31, .aload_n 0, 32, 0, 0, 0, 0, 0, none, [])]
theorem oX1_addRoll_1 : ∀ q ∈ tX1_addRoll_1, hy_ok mX1_addRoll q.1 q.2 = true := by decide +kernel
def tX1_addRoll_2 : List (Nat × hyE) := [(32, .getfield 11, 35, 1, 0, 0, 0, 0, none, []),
  (35, .aload_n 0, 36, 0, 0, 0, 0, 0, none, []),
  (36, .getfield 36, 39, 1, 8, 0, 0, 0, none, []),
  (39, .iload_n 1, 40, 1, 0, 0, 0, 0, none, []),
  (40, .iastore, 41, 0, 0, 0, 0, 0, none, []),
  (41, .aload_n 0, 42, 0, 0, 0, 0, 0, none, []),
  (42, .getfield 15, 45, 1, 1, 0, 0, 0, none, []),
  (45, .aload_n 0, 46, 0, 0, 0, 0, 0, none, []),
  (46, .getfield 36, 49, 1, 8, 0, 0, 0, none, [])]
theorem oX1_addRoll_2 : ∀ q ∈ tX1_addRoll_2, hy_ok mX1_addRoll q.1 q.2 = true := by decide +kernel
def tX1_addRoll_3 : List (Nat × hyE) := [(49, .iload_n 2, 50, 2, 0, 0, 0, 0, none, []),
  (50, .iastore, 51, 0, 0, 0, 0, 0, none, []),
  (51, .aload_n 0, 52, 0, 0, 0, 0, 0, none, []),
  (52, .dup, 53, 0, 0, 0, 0, 0, none, []),
  (53, .getfield 36, 56, 1, 8, 0, 0, 0, none, []),
  (56, .iconst 1, 57, 0, 0, 0, 0, 1, none, []),
  (57, .iadd, 58, 0, 0, 0, 0, 0, none, []),
  (58, .putfield 36, 61, 1, 8, 0, 0, 0, none, []),
  (61, .aload_n 0, 62, 0, 0, 0, 0, 0, none, []),
  (62, .iconst 0, 63, 0, 0, 0, 0, 0, none, []),
  (63, .putfield 47, 66, 1, 11, 1, 0, 0, none, [])]
theorem oX1_addRoll_3 : ∀ q ∈ tX1_addRoll_3, hy_ok mX1_addRoll q.1 q.2 = true := by decide +kernel
def tX1_addRoll_4 : List (Nat × hyE) := [(66, .aload_n 0, 67, 0, 0, 0, 0, 0, none, []),
  (67, .getfield 36, 70, 1, 8, 0, 0, 0, none, []),
  (70, .iconst 1, 71, 0, 0, 0, 0, 1, none, []),
  (71, .isub, 72, 0, 0, 0, 0, 0, none, []),
  (72, .ireturn, 73, 0, 0, 0, 0, 0, none, [])]
theorem oX1_addRoll_4 : ∀ q ∈ tX1_addRoll_4, hy_ok mX1_addRoll q.1 q.2 = true := by decide +kernel
def tX1_addRoll : hyT := [tX1_addRoll_0, tX1_addRoll_1, tX1_addRoll_2, tX1_addRoll_3, tX1_addRoll_4]
theorem oX1_addRoll : hy_tok mX1_addRoll tX1_addRoll := List.forall_mem_cons.mpr ⟨oX1_addRoll_0, List.forall_mem_cons.mpr ⟨oX1_addRoll_1, List.forall_mem_cons.mpr ⟨oX1_addRoll_2, List.forall_mem_cons.mpr ⟨oX1_addRoll_3, List.forall_mem_cons.mpr ⟨oX1_addRoll_4, fun _ h => absurd h List.not_mem_nil⟩⟩⟩⟩⟩
def tX1_addCut_0 : List (Nat × hyE) := [(0, .iload_n 1, 1, 1, 0, 0, 0, 0, none, []),
  (1, .iconst 1, 2, 0, 0, 0, 0, 1, none, []),
  (2, .sipush 500, 5, 0, 0, 0, 0, 500, none, []),
  (5, .invokestatic 43, 8, 1, 3, 1, 0, 0, (some mX5_within), []),
  (8, .ifCond .eq 21, 11, 29, 0, 0, 0, 0, none, []),
  (11, .iload_n 2, 12, 2, 0, 0, 0, 0, none, []),
  (12, .iconst 0, 13, 0, 0, 0, 0, 0, none, []),
  (13, .iconst 3, 14, 0, 0, 0, 0, 3, none, []),
  (14, .invokestatic 43, 17, 1, 3, 1, 0, 0, (some mX5_within), [])]
theorem oX1_addCut_0 : ∀ q ∈ tX1_addCut_0, hy_ok mX1_addCut q.1 q.2 = true := by decide +kernel
def tX1_addCut_1 : List (Nat × hyE) := [(17, .ifCond .eq 12, 20, 29, 0, 0, 0, 0, none, []),
  (20, .aload_n 0, 21, 0, 0, 0, 0, 0, none, []),
  (21, .getfield 40, 24, 1, 9, 0, 0, 0, none, []),
  (24, .bipush 8, 26, 0, 0, 0, 0, 8, none, []),
  (26, .if_icmp .lt 5, 29, 31, 0, 0, 0, 0, none, []),
  (29, .iconst (-1), 30, 0, 0, 0, 0, (-1), none, []),
  (30, .ireturn, 31, 0, 0, 0, 0, 0, none, []),
  (31, .aload_n 0, 32, 0, 0, 0, 0, 0, none, [])]
theorem oX1_addCut_1 : ∀ q ∈ tX1_addCut_1, hy_ok mX1_addCut q.1 q.2 = true := by decide +kernel
def tX1_addCut_2 : List (Nat × hyE) := [(32, .getfield 18, 35, 1, 2, 0, 0, 0, none, []),
  (35, .aload_n 0, 36, 0, 0, 0, 0, 0, none, []),
  (36, .getfield 40, 39, 1, 9, 0, 0, 0, none, []),
  (39, .iload_n 1, 40, 1, 0, 0, 0, 0, none, []),
  (40, .iastore, 41, 0, 0, 0, 0, 0, none, []),
  (41, .aload_n 0, 42, 0, 0, 0, 0, 0, none, []),
  (42, .getfield 21, 45, 1, 3, 0, 0, 0, none, []),
  (45, .aload_n 0, 46, 0, 0, 0, 0, 0, none, []),
  (46, .getfield 40, 49, 1, 9, 0, 0, 0, none, [])]
theorem oX1_addCut_2 : ∀ q ∈ tX1_addCut_2, hy_ok mX1_addCut q.1 q.2 = true := by decide +kernel
def tX1_addCut_3 : List (Nat × hyE) := [(49, .iload_n 2, 50, 2, 0, 0, 0, 0, none, []),
  (50, .iastore, 51, 0, 0, 0, 0, 0, none, []),
  (51, .aload_n 0, 52, 0, 0, 0, 0, 0, none, []),
  (52, .dup, 53, 0, 0, 0, 0, 0, none, []),
  (53, .getfield 40, 56, 1, 9, 0, 0, 0, none, []),
  (56, .iconst 1, 57, 0, 0, 0, 0, 1, none, []),
  (57, .iadd, 58, 0, 0, 0, 0, 0, none, []),
  (58, .putfield 40, 61, 1, 9, 0, 0, 0, none, []),
  (61, .aload_n 0, 62, 0, 0, 0, 0, 0, none, []),
  (62, .iconst 0, 63, 0, 0, 0, 0, 0, none, []),
  (63, .putfield 47, 66, 1, 11, 1, 0, 0, none, [])]
theorem oX1_addCut_3 : ∀ q ∈ tX1_addCut_3, hy_ok mX1_addCut q.1 q.2 = true := by decide +kernel
def tX1_addCut_4 : List (Nat × hyE) := [(66, .aload_n 0, 67, 0, 0, 0, 0, 0, none, []),
  (67, .getfield 40, 70, 1, 9, 0, 0, 0, none, []),
  (70, .iconst 1, 71, 0, 0, 0, 0, 1, none, []),
  (71, .isub, 72, 0, 0, 0, 0, 0, none, []),
  (72, .ireturn, 73, 0, 0, 0, 0, 0, none, [])]
theorem oX1_addCut_4 : ∀ q ∈ tX1_addCut_4, hy_ok mX1_addCut q.1 q.2 = true := by decide +kernel
def tX1_addCut : hyT := [tX1_addCut_0, tX1_addCut_1, tX1_addCut_2, tX1_addCut_3, tX1_addCut_4]
theorem oX1_addCut : hy_tok mX1_addCut tX1_addCut := List.forall_mem_cons.mpr ⟨oX1_addCut_0, List.forall_mem_cons.mpr ⟨oX1_addCut_1, List.forall_mem_cons.mpr ⟨oX1_addCut_2, List.forall_mem_cons.mpr ⟨oX1_addCut_3, List.forall_mem_cons.mpr ⟨oX1_addCut_4, fun _ h => absurd h List.not_mem_nil⟩⟩⟩⟩⟩
def tX1_dropAll_0 : List (Nat × hyE) := [(0, .aload_n 0, 1, 0, 0, 0, 0, 0, none, []),
  (1, .getfield 40, 4, 1, 9, 0, 0, 0, none, []),
  (4, .istore_n 1, 5, 1, 0, 0, 0, 0, none, []),
  (5, .aload_n 0, 6, 0, 0, 0, 0, 0, none, []),
  (6, .iconst 0, 7, 0, 0, 0, 0, 0, none, []),
  (7, .putfield 36, 10, 1, 8, 0, 0, 0, none, []),
  (10, .aload_n 0, 11, 0, 0, 0, 0, 0, none, []),
  (11, .iconst 0, 12, 0, 0, 0, 0, 0, none, []),
  (12, .putfield 40, 15, 1, 9, 0, 0, 0, none, []),
  (15, .aload_n 0, 16, 0, 0, 0, 0, 0, none, [])]
theorem oX1_dropAll_0 : ∀ q ∈ tX1_dropAll_0, hy_ok mX1_dropAll q.1 q.2 = true := by decide +kernel
def tX1_dropAll_1 : List (Nat × hyE) := [(16, .iconst 0, 17, 0, 0, 0, 0, 0, none, []),
  (17, .putfield 47, 20, 1, 11, 1, 0, 0, none, []),
  (20, .iload_n 1, 21, 1, 0, 0, 0, 0, none, []),
  (21, .ireturn, 22, 0, 0, 0, 0, 0, none, [])]
theorem oX1_dropAll_1 : ∀ q ∈ tX1_dropAll_1, hy_ok mX1_dropAll q.1 q.2 = true := by decide +kernel
def tX1_dropAll : hyT := [tX1_dropAll_0, tX1_dropAll_1]
theorem oX1_dropAll : hy_tok mX1_dropAll tX1_dropAll := List.forall_mem_cons.mpr ⟨oX1_dropAll_0, List.forall_mem_cons.mpr ⟨oX1_dropAll_1, fun _ h => absurd h List.not_mem_nil⟩⟩
def tX1_leastOpened_0 : List (Nat × hyE) := [(0, .aload_n 0, 1, 0, 0, 0, 0, 0, none, []),
  (1, .invokevirtual 51, 4, 0, 0, 0, 1, 0, (some mX1_lay), []),
  (4, .aload_n 0, 5, 0, 0, 0, 0, 0, none, []),
  (5, .getfield 54, 8, 1, 10, 0, 0, 0, none, []),
  (8, .ireturn, 9, 0, 0, 0, 0, 0, none, [])]
theorem oX1_leastOpened_0 : ∀ q ∈ tX1_leastOpened_0, hy_ok mX1_leastOpened q.1 q.2 = true := by decide +kernel
def tX1_leastOpened : hyT := [tX1_leastOpened_0]
theorem oX1_leastOpened : hy_tok mX1_leastOpened tX1_leastOpened := List.forall_mem_cons.mpr ⟨oX1_leastOpened_0, fun _ h => absurd h List.not_mem_nil⟩
def tX1_rollUnder_0 : List (Nat × hyE) := [(0, .iload_n 1, 1, 1, 0, 0, 0, 0, none, []),
  (1, .iconst 0, 2, 0, 0, 0, 0, 0, none, []),
  (2, .aload_n 0, 3, 0, 0, 0, 0, 0, none, []),
  (3, .getfield 40, 6, 1, 9, 0, 0, 0, none, []),
  (6, .iconst 1, 7, 0, 0, 0, 0, 1, none, []),
  (7, .isub, 8, 0, 0, 0, 0, 0, none, []),
  (8, .invokestatic 43, 11, 1, 3, 1, 0, 0, (some mX5_within), []),
  (11, .ifCond .ne 5, 14, 16, 0, 0, 0, 0, none, []),
  (14, .iconst (-1), 15, 0, 0, 0, 0, (-1), none, []),
  (15, .ireturn, 16, 0, 0, 0, 0, 0, none, [])]
theorem oX1_rollUnder_0 : ∀ q ∈ tX1_rollUnder_0, hy_ok mX1_rollUnder q.1 q.2 = true := by decide +kernel
def tX1_rollUnder_1 : List (Nat × hyE) := [(16, .aload_n 0, 17, 0, 0, 0, 0, 0, none, []),
  (17, .invokevirtual 51, 20, 0, 0, 0, 1, 0, (some mX1_lay), []),
  (20, .aload_n 0, 21, 0, 0, 0, 0, 0, none, []),
  (21, .getfield 54, 24, 1, 10, 0, 0, 0, none, []),
  (24, .iconst (-1), 25, 0, 0, 0, 0, (-1), none, []),
  (25, .if_icmp .ne 7, 28, 32, 0, 0, 0, 0, none, []),
  (28, .iconst (-1), 29, 0, 0, 0, 0, (-1), none, []),
  (29, .goto 9, 32, 38, 0, 0, 0, 0, none, [])]
theorem oX1_rollUnder_1 : ∀ q ∈ tX1_rollUnder_1, hy_ok mX1_rollUnder q.1 q.2 = true := by decide +kernel
def tX1_rollUnder_2 : List (Nat × hyE) := [(32, .aload_n 0, 33, 0, 0, 0, 0, 0, none, []),
  (33, .getfield 24, 36, 1, 4, 0, 0, 0, none, []),
  (36, .iload_n 1, 37, 1, 0, 0, 0, 0, none, []),
  (37, .iaload, 38, 0, 0, 0, 0, 0, none, []),
  (38, .ireturn, 39, 0, 0, 0, 0, 0, none, [])]
theorem oX1_rollUnder_2 : ∀ q ∈ tX1_rollUnder_2, hy_ok mX1_rollUnder q.1 q.2 = true := by decide +kernel
def tX1_rollUnder : hyT := [tX1_rollUnder_0, tX1_rollUnder_1, tX1_rollUnder_2]
theorem oX1_rollUnder : hy_tok mX1_rollUnder tX1_rollUnder := List.forall_mem_cons.mpr ⟨oX1_rollUnder_0, List.forall_mem_cons.mpr ⟨oX1_rollUnder_1, List.forall_mem_cons.mpr ⟨oX1_rollUnder_2, fun _ h => absurd h List.not_mem_nil⟩⟩⟩
def tX1_lay_0 : List (Nat × hyE) := [(0, .aload_n 0, 1, 0, 0, 0, 0, 0, none, []),
  (1, .getfield 47, 4, 1, 11, 0, 0, 0, none, []),
  (4, .ifCond .eq 4, 7, 8, 0, 0, 0, 0, none, []),
  (7, .return_, 8, 0, 0, 0, 0, 0, none, []),
  (8, .aload_n 0, 9, 0, 0, 0, 0, 0, none, []),
  (9, .iconst 1, 10, 0, 0, 0, 0, 1, none, []),
  (10, .putfield 47, 13, 1, 11, 1, 0, 0, none, []),
  (13, .aload_n 0, 14, 0, 0, 0, 0, 0, none, []),
  (14, .invokevirtual 57, 17, 0, 0, 0, 1, 0, (some mX1_measureSets), [])]
theorem oX1_lay_0 : ∀ q ∈ tX1_lay_0, hy_ok mX1_lay q.1 q.2 = true := by decide +kernel
def tX1_lay_1 : List (Nat × hyE) := [(17, .aload_n 0, 18, 0, 0, 0, 0, 0, none, []),
  (18, .aload_n 0, 19, 0, 0, 0, 0, 0, none, []),
  (19, .iconst 0, 20, 0, 0, 0, 0, 0, none, []),
  (20, .invokevirtual 60, 23, 0, 1, 0, 1, 0, (some mX1_leastWith), []),
  (23, .putfield 54, 26, 1, 10, 0, 0, 0, none, []),
  (26, .aload_n 0, 27, 0, 0, 0, 0, 0, none, []),
  (27, .getfield 54, 30, 1, 10, 0, 0, 0, none, []),
  (30, .ldc 64, 32, 0, 0, 0, 0, 1000000, none, [])]
theorem oX1_lay_1 : ∀ q ∈ tX1_lay_1, hy_ok mX1_lay q.1 q.2 = true := by decide +kernel
def tX1_lay_2 : List (Nat × hyE) := [(32, .if_icmp .lt 9, 35, 41, 0, 0, 0, 0, none, []),
  (35, .aload_n 0, 36, 0, 0, 0, 0, 0, none, []),
  (36, .iconst (-1), 37, 0, 0, 0, 0, (-1), none, []),
  (37, .putfield 54, 40, 1, 10, 0, 0, 0, none, []),
  (40, .return_, 41, 0, 0, 0, 0, 0, none, []),
  (41, .iconst 0, 42, 0, 0, 0, 0, 0, none, []),
  (42, .istore_n 1, 43, 1, 0, 0, 0, 0, none, []),
  (43, .iload_n 1, 44, 1, 0, 0, 0, 0, none, []),
  (44, .aload_n 0, 45, 0, 0, 0, 0, 0, none, []),
  (45, .getfield 40, 48, 1, 9, 0, 0, 0, none, [])]
theorem oX1_lay_2 : ∀ q ∈ tX1_lay_2, hy_ok mX1_lay q.1 q.2 = true := by decide +kernel
def tX1_lay_3 : List (Nat × hyE) := [(48, .if_icmp .ge 14, 51, 62, 0, 0, 0, 0, none, []),
  (51, .aload_n 0, 52, 0, 0, 0, 0, 0, none, []),
  (52, .iload_n 1, 53, 1, 0, 0, 0, 0, none, []),
  (53, .invokevirtual 65, 56, 0, 1, 0, 1, 0, (some mX1_layOnLowestRoll), []),
  (56, .iinc 1 1, 59, 1, 0, 0, 0, 1, none, []),
  (59, .goto (-16), 62, 43, 0, 0, 0, 0, none, []),
  (62, .return_, 63, 0, 0, 0, 0, 0, none, [])]
theorem oX1_lay_3 : ∀ q ∈ tX1_lay_3, hy_ok mX1_lay q.1 q.2 = true := by decide +kernel
def tX1_lay : hyT := [tX1_lay_0, tX1_lay_1, tX1_lay_2, tX1_lay_3]
theorem oX1_lay : hy_tok mX1_lay tX1_lay := List.forall_mem_cons.mpr ⟨oX1_lay_0, List.forall_mem_cons.mpr ⟨oX1_lay_1, List.forall_mem_cons.mpr ⟨oX1_lay_2, List.forall_mem_cons.mpr ⟨oX1_lay_3, fun _ h => absurd h List.not_mem_nil⟩⟩⟩⟩
def tX1_measureSets_0 : List (Nat × hyE) := [(0, .iconst 1, 1, 0, 0, 0, 0, 1, none, []),
  (1, .aload_n 0, 2, 0, 0, 0, 0, 0, none, []),
  (2, .getfield 40, 5, 1, 9, 0, 0, 0, none, []),
  (5, .ishl, 6, 0, 0, 0, 0, 0, none, []),
  (6, .istore_n 1, 7, 1, 0, 0, 0, 0, none, []),
  (7, .iconst 0, 8, 0, 0, 0, 0, 0, none, []),
  (8, .istore_n 2, 9, 2, 0, 0, 0, 0, none, []),
  (9, .iload_n 2, 10, 2, 0, 0, 0, 0, none, []),
  (10, .iload_n 1, 11, 1, 0, 0, 0, 0, none, []),
  (11, .if_icmp .ge 53, 14, 64, 0, 0, 0, 0, none, []),
  (14, .iconst 0, 15, 0, 0, 0, 0, 0, none, []),
  (15, .istore_n 3, 16, 3, 0, 0, 0, 0, none, [])]
theorem oX1_measureSets_0 : ∀ q ∈ tX1_measureSets_0, hy_ok mX1_measureSets q.1 q.2 = true := by decide +kernel
def tX1_measureSets_1 : List (Nat × hyE) := [(16, .iconst 0, 17, 0, 0, 0, 0, 0, none, []),
  (17, .istore 4, 19, 4, 0, 0, 0, 0, none, []),
  (19, .iload 4, 21, 4, 0, 0, 0, 0, none, []),
  (21, .aload_n 0, 22, 0, 0, 0, 0, 0, none, []),
  (22, .getfield 40, 25, 1, 9, 0, 0, 0, none, []),
  (25, .if_icmp .ge 26, 28, 51, 0, 0, 0, 0, none, []),
  (28, .iload_n 3, 29, 3, 0, 0, 0, 0, none, []),
  (29, .iload_n 2, 30, 2, 0, 0, 0, 0, none, []),
  (30, .iload 4, 32, 4, 0, 0, 0, 0, none, [])]
theorem oX1_measureSets_1 : ∀ q ∈ tX1_measureSets_1, hy_ok mX1_measureSets q.1 q.2 = true := by decide +kernel
def tX1_measureSets_2 : List (Nat × hyE) := [(32, .ishr, 33, 0, 0, 0, 0, 0, none, []),
  (33, .iconst 1, 34, 0, 0, 0, 0, 1, none, []),
  (34, .iand, 35, 0, 0, 0, 0, 0, none, []),
  (35, .aload_n 0, 36, 0, 0, 0, 0, 0, none, []),
  (36, .getfield 18, 39, 1, 2, 0, 0, 0, none, []),
  (39, .iload 4, 41, 4, 0, 0, 0, 0, none, []),
  (41, .iaload, 42, 0, 0, 0, 0, 0, none, []),
  (42, .imul, 43, 0, 0, 0, 0, 0, none, []),
  (43, .iadd, 44, 0, 0, 0, 0, 0, none, []),
  (44, .istore_n 3, 45, 3, 0, 0, 0, 0, none, []),
  (45, .iinc 4 1, 48, 4, 0, 0, 0, 1, none, [])]
theorem oX1_measureSets_2 : ∀ q ∈ tX1_measureSets_2, hy_ok mX1_measureSets q.1 q.2 = true := by decide +kernel
def tX1_measureSets_3 : List (Nat × hyE) := [(48, .goto (-29), 51, 19, 0, 0, 0, 0, none, []),
  (51, .aload_n 0, 52, 0, 0, 0, 0, 0, none, []),
  (52, .getfield 27, 55, 1, 5, 0, 0, 0, none, []),
  (55, .iload_n 2, 56, 2, 0, 0, 0, 0, none, []),
  (56, .iload_n 3, 57, 3, 0, 0, 0, 0, none, []),
  (57, .iastore, 58, 0, 0, 0, 0, 0, none, []),
  (58, .iinc 2 1, 61, 2, 0, 0, 0, 1, none, []),
  (61, .goto (-52), 64, 9, 0, 0, 0, 0, none, [])]
theorem oX1_measureSets_3 : ∀ q ∈ tX1_measureSets_3, hy_ok mX1_measureSets q.1 q.2 = true := by decide +kernel
def tX1_measureSets_4 : List (Nat × hyE) := [(64, .return_, 65, 0, 0, 0, 0, 0, none, [])]
theorem oX1_measureSets_4 : ∀ q ∈ tX1_measureSets_4, hy_ok mX1_measureSets q.1 q.2 = true := by decide +kernel
def tX1_measureSets : hyT := [tX1_measureSets_0, tX1_measureSets_1, tX1_measureSets_2, tX1_measureSets_3, tX1_measureSets_4]
theorem oX1_measureSets : hy_tok mX1_measureSets tX1_measureSets := List.forall_mem_cons.mpr ⟨oX1_measureSets_0, List.forall_mem_cons.mpr ⟨oX1_measureSets_1, List.forall_mem_cons.mpr ⟨oX1_measureSets_2, List.forall_mem_cons.mpr ⟨oX1_measureSets_3, List.forall_mem_cons.mpr ⟨oX1_measureSets_4, fun _ h => absurd h List.not_mem_nil⟩⟩⟩⟩⟩
def tX1_layOnLowestRoll_0 : List (Nat × hyE) := [(0, .iconst 0, 1, 0, 0, 0, 0, 0, none, []),
  (1, .istore_n 2, 2, 2, 0, 0, 0, 0, none, []),
  (2, .iload_n 2, 3, 2, 0, 0, 0, 0, none, []),
  (3, .aload_n 0, 4, 0, 0, 0, 0, 0, none, []),
  (4, .getfield 36, 7, 1, 8, 0, 0, 0, none, []),
  (7, .if_icmp .ge 31, 10, 38, 0, 0, 0, 0, none, []),
  (10, .aload_n 0, 11, 0, 0, 0, 0, 0, none, []),
  (11, .getfield 24, 14, 1, 4, 0, 0, 0, none, []),
  (14, .iload_n 1, 15, 1, 0, 0, 0, 0, none, []),
  (15, .iload_n 2, 16, 2, 0, 0, 0, 0, none, [])]
theorem oX1_layOnLowestRoll_0 : ∀ q ∈ tX1_layOnLowestRoll_0, hy_ok mX1_layOnLowestRoll q.1 q.2 = true := by decide +kernel
def tX1_layOnLowestRoll_1 : List (Nat × hyE) := [(16, .iastore, 17, 0, 0, 0, 0, 0, none, []),
  (17, .aload_n 0, 18, 0, 0, 0, 0, 0, none, []),
  (18, .iload_n 1, 19, 1, 0, 0, 0, 0, none, []),
  (19, .iconst 1, 20, 0, 0, 0, 0, 1, none, []),
  (20, .iadd, 21, 0, 0, 0, 0, 0, none, []),
  (21, .invokevirtual 60, 24, 0, 1, 0, 1, 0, (some mX1_leastWith), []),
  (24, .aload_n 0, 25, 0, 0, 0, 0, 0, none, []),
  (25, .getfield 54, 28, 1, 10, 0, 0, 0, none, []),
  (28, .if_icmp .ne 4, 31, 32, 0, 0, 0, 0, none, []),
  (31, .return_, 32, 0, 0, 0, 0, 0, none, [])]
theorem oX1_layOnLowestRoll_1 : ∀ q ∈ tX1_layOnLowestRoll_1, hy_ok mX1_layOnLowestRoll q.1 q.2 = true := by decide +kernel
def tX1_layOnLowestRoll_2 : List (Nat × hyE) := [(32, .iinc 2 1, 35, 2, 0, 0, 0, 1, none, []),
  (35, .goto (-33), 38, 2, 0, 0, 0, 0, none, []),
  (38, .return_, 39, 0, 0, 0, 0, 0, none, [])]
theorem oX1_layOnLowestRoll_2 : ∀ q ∈ tX1_layOnLowestRoll_2, hy_ok mX1_layOnLowestRoll q.1 q.2 = true := by decide +kernel
def tX1_layOnLowestRoll : hyT := [tX1_layOnLowestRoll_0, tX1_layOnLowestRoll_1, tX1_layOnLowestRoll_2]
theorem oX1_layOnLowestRoll : hy_tok mX1_layOnLowestRoll tX1_layOnLowestRoll := List.forall_mem_cons.mpr ⟨oX1_layOnLowestRoll_0, List.forall_mem_cons.mpr ⟨oX1_layOnLowestRoll_1, List.forall_mem_cons.mpr ⟨oX1_layOnLowestRoll_2, fun _ h => absurd h List.not_mem_nil⟩⟩⟩
def tX1_leastWith_0 : List (Nat × hyE) := [(0, .iconst 0, 1, 0, 0, 0, 0, 0, none, []),
  (1, .istore_n 2, 2, 2, 0, 0, 0, 0, none, []),
  (2, .iconst 0, 3, 0, 0, 0, 0, 0, none, []),
  (3, .istore_n 3, 4, 3, 0, 0, 0, 0, none, []),
  (4, .iload_n 3, 5, 3, 0, 0, 0, 0, none, []),
  (5, .aload_n 0, 6, 0, 0, 0, 0, 0, none, []),
  (6, .getfield 36, 9, 1, 8, 0, 0, 0, none, []),
  (9, .if_icmp .ge 49, 12, 58, 0, 0, 0, 0, none, []),
  (12, .aload_n 0, 13, 0, 0, 0, 0, 0, none, []),
  (13, .iload_n 3, 14, 3, 0, 0, 0, 0, none, []),
  (14, .iload_n 1, 15, 1, 0, 0, 0, 0, none, []),
  (15, .invokevirtual 69, 18, 0, 2, 0, 1, 0, (some mX1_usedOf), [])]
theorem oX1_leastWith_0 : ∀ q ∈ tX1_leastWith_0, hy_ok mX1_leastWith q.1 q.2 = true := by decide +kernel
def tX1_leastWith_1 : List (Nat × hyE) := [(18, .istore 4, 20, 4, 0, 0, 0, 0, none, []),
  (20, .iload 4, 22, 4, 0, 0, 0, 0, none, []),
  (22, .aload_n 0, 23, 0, 0, 0, 0, 0, none, []),
  (23, .getfield 11, 26, 1, 0, 0, 0, 0, none, []),
  (26, .iload_n 3, 27, 3, 0, 0, 0, 0, none, []),
  (27, .iaload, 28, 0, 0, 0, 0, 0, none, []),
  (28, .if_icmp .le 6, 31, 34, 0, 0, 0, 0, none, []),
  (31, .ldc 64, 33, 0, 0, 0, 0, 1000000, none, [])]
theorem oX1_leastWith_1 : ∀ q ∈ tX1_leastWith_1, hy_ok mX1_leastWith q.1 q.2 = true := by decide +kernel
def tX1_leastWith_2 : List (Nat × hyE) := [(33, .ireturn, 34, 0, 0, 0, 0, 0, none, []),
  (34, .iload_n 2, 35, 2, 0, 0, 0, 0, none, []),
  (35, .iload 4, 37, 4, 0, 0, 0, 0, none, []),
  (37, .ifCond .le 12, 40, 49, 0, 0, 0, 0, none, []),
  (40, .aload_n 0, 41, 0, 0, 0, 0, 0, none, []),
  (41, .getfield 11, 44, 1, 0, 0, 0, 0, none, []),
  (44, .iload_n 3, 45, 3, 0, 0, 0, 0, none, []),
  (45, .iaload, 46, 0, 0, 0, 0, 0, none, []),
  (46, .goto 4, 49, 50, 0, 0, 0, 0, none, [])]
theorem oX1_leastWith_2 : ∀ q ∈ tX1_leastWith_2, hy_ok mX1_leastWith q.1 q.2 = true := by decide +kernel
def tX1_leastWith_3 : List (Nat × hyE) := [(49, .iconst 0, 50, 0, 0, 0, 0, 0, none, []),
  (50, .iadd, 51, 0, 0, 0, 0, 0, none, []),
  (51, .istore_n 2, 52, 2, 0, 0, 0, 0, none, []),
  (52, .iinc 3 1, 55, 3, 0, 0, 0, 1, none, []),
  (55, .goto (-51), 58, 4, 0, 0, 0, 0, none, []),
  (58, .iconst 1, 59, 0, 0, 0, 0, 1, none, []),
  (59, .istore_n 3, 60, 3, 0, 0, 0, 0, none, []),
  (60, .iload_n 3, 61, 3, 0, 0, 0, 0, none, []),
  (61, .bipush 16, 63, 0, 0, 0, 0, 16, none, []),
  (63, .if_icmp .ge 17, 66, 80, 0, 0, 0, 0, none, [])]
theorem oX1_leastWith_3 : ∀ q ∈ tX1_leastWith_3, hy_ok mX1_leastWith q.1 q.2 = true := by decide +kernel
def tX1_leastWith_4 : List (Nat × hyE) := [(66, .aload_n 0, 67, 0, 0, 0, 0, 0, none, []),
  (67, .getfield 33, 70, 1, 7, 0, 0, 0, none, []),
  (70, .iload_n 3, 71, 3, 0, 0, 0, 0, none, []),
  (71, .ldc 64, 73, 0, 0, 0, 0, 1000000, none, []),
  (73, .iastore, 74, 0, 0, 0, 0, 0, none, []),
  (74, .iinc 3 1, 77, 3, 0, 0, 0, 1, none, []),
  (77, .goto (-17), 80, 60, 0, 0, 0, 0, none, [])]
theorem oX1_leastWith_4 : ∀ q ∈ tX1_leastWith_4, hy_ok mX1_leastWith q.1 q.2 = true := by decide +kernel
def tX1_leastWith_5 : List (Nat × hyE) := [(80, .aload_n 0, 81, 0, 0, 0, 0, 0, none, []),
  (81, .getfield 33, 84, 1, 7, 0, 0, 0, none, []),
  (84, .iconst 0, 85, 0, 0, 0, 0, 0, none, []),
  (85, .iconst 0, 86, 0, 0, 0, 0, 0, none, []),
  (86, .iastore, 87, 0, 0, 0, 0, 0, none, []),
  (87, .iconst 0, 88, 0, 0, 0, 0, 0, none, []),
  (88, .istore_n 3, 89, 3, 0, 0, 0, 0, none, []),
  (89, .iload_n 3, 90, 3, 0, 0, 0, 0, none, []),
  (90, .iconst 3, 91, 0, 0, 0, 0, 3, none, []),
  (91, .if_icmp .ge 21, 94, 112, 0, 0, 0, 0, none, []),
  (94, .aload_n 0, 95, 0, 0, 0, 0, 0, none, []),
  (95, .iload_n 3, 96, 3, 0, 0, 0, 0, none, [])]
theorem oX1_leastWith_5 : ∀ q ∈ tX1_leastWith_5, hy_ok mX1_leastWith q.1 q.2 = true := by decide +kernel
def tX1_leastWith_6 : List (Nat × hyE) := [(96, .iload_n 1, 97, 1, 0, 0, 0, 0, none, []),
  (97, .invokevirtual 73, 100, 0, 2, 0, 1, 0, (some mX1_packLot), []),
  (100, .aload_n 0, 101, 0, 0, 0, 0, 0, none, []),
  (101, .iload_n 3, 102, 3, 0, 0, 0, 0, none, []),
  (102, .iload_n 1, 103, 1, 0, 0, 0, 0, none, []),
  (103, .invokevirtual 77, 106, 0, 2, 0, 1, 0, (some mX1_joinLot), []),
  (106, .iinc 3 1, 109, 3, 0, 0, 0, 1, none, []),
  (109, .goto (-20), 112, 89, 0, 0, 0, 0, none, [])]
theorem oX1_leastWith_6 : ∀ q ∈ tX1_leastWith_6, hy_ok mX1_leastWith q.1 q.2 = true := by decide +kernel
def tX1_leastWith_7 : List (Nat × hyE) := [(112, .ldc 64, 114, 0, 0, 0, 0, 1000000, none, []),
  (114, .iload_n 2, 115, 2, 0, 0, 0, 0, none, []),
  (115, .aload_n 0, 116, 0, 0, 0, 0, 0, none, []),
  (116, .getfield 33, 119, 1, 7, 0, 0, 0, none, []),
  (119, .bipush 15, 121, 0, 0, 0, 0, 15, none, []),
  (121, .iaload, 122, 0, 0, 0, 0, 0, none, []),
  (122, .iadd, 123, 0, 0, 0, 0, 0, none, []),
  (123, .invokestatic 80, 126, 0, 2, 0, 2, 0, (some mJ9_min_7cf53), []),
  (126, .ireturn, 127, 0, 0, 0, 0, 0, none, [])]
theorem oX1_leastWith_7 : ∀ q ∈ tX1_leastWith_7, hy_ok mX1_leastWith q.1 q.2 = true := by decide +kernel
def tX1_leastWith : hyT := [tX1_leastWith_0, tX1_leastWith_1, tX1_leastWith_2, tX1_leastWith_3, tX1_leastWith_4, tX1_leastWith_5, tX1_leastWith_6, tX1_leastWith_7]
theorem oX1_leastWith : hy_tok mX1_leastWith tX1_leastWith := List.forall_mem_cons.mpr ⟨oX1_leastWith_0, List.forall_mem_cons.mpr ⟨oX1_leastWith_1, List.forall_mem_cons.mpr ⟨oX1_leastWith_2, List.forall_mem_cons.mpr ⟨oX1_leastWith_3, List.forall_mem_cons.mpr ⟨oX1_leastWith_4, List.forall_mem_cons.mpr ⟨oX1_leastWith_5, List.forall_mem_cons.mpr ⟨oX1_leastWith_6, List.forall_mem_cons.mpr ⟨oX1_leastWith_7, fun _ h => absurd h List.not_mem_nil⟩⟩⟩⟩⟩⟩⟩⟩
def tX1_usedOf_0 : List (Nat × hyE) := [(0, .iconst 0, 1, 0, 0, 0, 0, 0, none, []),
  (1, .istore_n 3, 2, 3, 0, 0, 0, 0, none, []),
  (2, .iconst 0, 3, 0, 0, 0, 0, 0, none, []),
  (3, .istore 4, 5, 4, 0, 0, 0, 0, none, []),
  (5, .iload 4, 7, 4, 0, 0, 0, 0, none, []),
  (7, .iload_n 2, 8, 2, 0, 0, 0, 0, none, []),
  (8, .if_icmp .ge 30, 11, 38, 0, 0, 0, 0, none, []),
  (11, .aload_n 0, 12, 0, 0, 0, 0, 0, none, []),
  (12, .getfield 24, 15, 1, 4, 0, 0, 0, none, []),
  (15, .iload 4, 17, 4, 0, 0, 0, 0, none, [])]
theorem oX1_usedOf_0 : ∀ q ∈ tX1_usedOf_0, hy_ok mX1_usedOf q.1 q.2 = true := by decide +kernel
def tX1_usedOf_1 : List (Nat × hyE) := [(17, .iaload, 18, 0, 0, 0, 0, 0, none, []),
  (18, .iload_n 1, 19, 1, 0, 0, 0, 0, none, []),
  (19, .if_icmp .ne 13, 22, 32, 0, 0, 0, 0, none, []),
  (22, .iload_n 3, 23, 3, 0, 0, 0, 0, none, []),
  (23, .aload_n 0, 24, 0, 0, 0, 0, 0, none, []),
  (24, .getfield 18, 27, 1, 2, 0, 0, 0, none, []),
  (27, .iload 4, 29, 4, 0, 0, 0, 0, none, []),
  (29, .iaload, 30, 0, 0, 0, 0, 0, none, []),
  (30, .iadd, 31, 0, 0, 0, 0, 0, none, []),
  (31, .istore_n 3, 32, 3, 0, 0, 0, 0, none, [])]
theorem oX1_usedOf_1 : ∀ q ∈ tX1_usedOf_1, hy_ok mX1_usedOf q.1 q.2 = true := by decide +kernel
def tX1_usedOf_2 : List (Nat × hyE) := [(32, .iinc 4 1, 35, 4, 0, 0, 0, 1, none, []),
  (35, .goto (-30), 38, 5, 0, 0, 0, 0, none, []),
  (38, .iload_n 3, 39, 3, 0, 0, 0, 0, none, []),
  (39, .ireturn, 40, 0, 0, 0, 0, 0, none, [])]
theorem oX1_usedOf_2 : ∀ q ∈ tX1_usedOf_2, hy_ok mX1_usedOf q.1 q.2 = true := by decide +kernel
def tX1_usedOf : hyT := [tX1_usedOf_0, tX1_usedOf_1, tX1_usedOf_2]
theorem oX1_usedOf : hy_tok mX1_usedOf tX1_usedOf := List.forall_mem_cons.mpr ⟨oX1_usedOf_0, List.forall_mem_cons.mpr ⟨oX1_usedOf_1, List.forall_mem_cons.mpr ⟨oX1_usedOf_2, fun _ h => absurd h List.not_mem_nil⟩⟩⟩
def tX1_packLot_0 : List (Nat × hyE) := [(0, .iconst 1, 1, 0, 0, 0, 0, 1, none, []),
  (1, .aload_n 0, 2, 0, 0, 0, 0, 0, none, []),
  (2, .getfield 40, 5, 1, 9, 0, 0, 0, none, []),
  (5, .iload_n 2, 6, 2, 0, 0, 0, 0, none, []),
  (6, .isub, 7, 0, 0, 0, 0, 0, none, []),
  (7, .ishl, 8, 0, 0, 0, 0, 0, none, []),
  (8, .iconst 1, 9, 0, 0, 0, 0, 1, none, []),
  (9, .isub, 10, 0, 0, 0, 0, 0, none, []),
  (10, .istore_n 3, 11, 3, 0, 0, 0, 0, none, []),
  (11, .iconst 1, 12, 0, 0, 0, 0, 1, none, []),
  (12, .istore 4, 14, 4, 0, 0, 0, 0, none, []),
  (14, .iload 4, 16, 4, 0, 0, 0, 0, none, [])]
theorem oX1_packLot_0 : ∀ q ∈ tX1_packLot_0, hy_ok mX1_packLot q.1 q.2 = true := by decide +kernel
def tX1_packLot_1 : List (Nat × hyE) := [(16, .iload_n 3, 17, 3, 0, 0, 0, 0, none, []),
  (17, .if_icmp .gt 18, 20, 35, 0, 0, 0, 0, none, []),
  (20, .aload_n 0, 21, 0, 0, 0, 0, 0, none, []),
  (21, .getfield 30, 24, 1, 6, 0, 0, 0, none, []),
  (24, .iload 4, 26, 4, 0, 0, 0, 0, none, []),
  (26, .ldc 64, 28, 0, 0, 0, 0, 1000000, none, []),
  (28, .iastore, 29, 0, 0, 0, 0, 0, none, []),
  (29, .iinc 4 1, 32, 4, 0, 0, 0, 1, none, [])]
theorem oX1_packLot_1 : ∀ q ∈ tX1_packLot_1, hy_ok mX1_packLot q.1 q.2 = true := by decide +kernel
def tX1_packLot_2 : List (Nat × hyE) := [(32, .goto (-18), 35, 14, 0, 0, 0, 0, none, []),
  (35, .aload_n 0, 36, 0, 0, 0, 0, 0, none, []),
  (36, .getfield 30, 39, 1, 6, 0, 0, 0, none, []),
  (39, .iconst 0, 40, 0, 0, 0, 0, 0, none, []),
  (40, .iconst 0, 41, 0, 0, 0, 0, 0, none, []),
  (41, .iastore, 42, 0, 0, 0, 0, 0, none, []),
  (42, .iconst 0, 43, 0, 0, 0, 0, 0, none, []),
  (43, .istore 4, 45, 4, 0, 0, 0, 0, none, []),
  (45, .iload 4, 47, 4, 0, 0, 0, 0, none, []),
  (47, .aload_n 0, 48, 0, 0, 0, 0, 0, none, [])]
theorem oX1_packLot_2 : ∀ q ∈ tX1_packLot_2, hy_ok mX1_packLot q.1 q.2 = true := by decide +kernel
def tX1_packLot_3 : List (Nat × hyE) := [(48, .getfield 36, 51, 1, 8, 0, 0, 0, none, []),
  (51, .if_icmp .ge 65, 54, 116, 0, 0, 0, 0, none, []),
  (54, .aload_n 0, 55, 0, 0, 0, 0, 0, none, []),
  (55, .getfield 15, 58, 1, 1, 0, 0, 0, none, []),
  (58, .iload 4, 60, 4, 0, 0, 0, 0, none, []),
  (60, .iaload, 61, 0, 0, 0, 0, 0, none, []),
  (61, .iload_n 1, 62, 1, 0, 0, 0, 0, none, []),
  (62, .if_icmp .ne 48, 65, 110, 0, 0, 0, 0, none, [])]
theorem oX1_packLot_3 : ∀ q ∈ tX1_packLot_3, hy_ok mX1_packLot q.1 q.2 = true := by decide +kernel
def tX1_packLot_4 : List (Nat × hyE) := [(65, .aload_n 0, 66, 0, 0, 0, 0, 0, none, []),
  (66, .iload 4, 68, 4, 0, 0, 0, 0, none, []),
  (68, .iload_n 2, 69, 2, 0, 0, 0, 0, none, []),
  (69, .invokevirtual 69, 72, 0, 2, 0, 1, 0, (some mX1_usedOf), []),
  (72, .istore 5, 74, 5, 0, 0, 0, 0, none, []),
  (74, .iload 5, 76, 5, 0, 0, 0, 0, none, []),
  (76, .ifCond .le 7, 79, 83, 0, 0, 0, 0, none, []),
  (79, .iconst 0, 80, 0, 0, 0, 0, 0, none, [])]
theorem oX1_packLot_4 : ∀ q ∈ tX1_packLot_4, hy_ok mX1_packLot q.1 q.2 = true := by decide +kernel
def tX1_packLot_5 : List (Nat × hyE) := [(80, .goto 10, 83, 90, 0, 0, 0, 0, none, []),
  (83, .aload_n 0, 84, 0, 0, 0, 0, 0, none, []),
  (84, .getfield 11, 87, 1, 0, 0, 0, 0, none, []),
  (87, .iload 4, 89, 4, 0, 0, 0, 0, none, []),
  (89, .iaload, 90, 0, 0, 0, 0, 0, none, []),
  (90, .istore 6, 92, 6, 0, 0, 0, 0, none, []),
  (92, .aload_n 0, 93, 0, 0, 0, 0, 0, none, []),
  (93, .aload_n 0, 94, 0, 0, 0, 0, 0, none, []),
  (94, .getfield 11, 97, 1, 0, 0, 0, 0, none, [])]
theorem oX1_packLot_5 : ∀ q ∈ tX1_packLot_5, hy_ok mX1_packLot q.1 q.2 = true := by decide +kernel
def tX1_packLot_6 : List (Nat × hyE) := [(97, .iload 4, 99, 4, 0, 0, 0, 0, none, []),
  (99, .iaload, 100, 0, 0, 0, 0, 0, none, []),
  (100, .iload 5, 102, 5, 0, 0, 0, 0, none, []),
  (102, .isub, 103, 0, 0, 0, 0, 0, none, []),
  (103, .iload 6, 105, 6, 0, 0, 0, 0, none, []),
  (105, .iload_n 2, 106, 2, 0, 0, 0, 0, none, []),
  (106, .iload_n 3, 107, 3, 0, 0, 0, 0, none, []),
  (107, .invokevirtual 85, 110, 0, 4, 0, 1, 0, (some mX1_packRoll), []),
  (110, .iinc 4 1, 113, 4, 0, 0, 0, 1, none, [])]
theorem oX1_packLot_6 : ∀ q ∈ tX1_packLot_6, hy_ok mX1_packLot q.1 q.2 = true := by decide +kernel
def tX1_packLot_7 : List (Nat × hyE) := [(113, .goto (-68), 116, 45, 0, 0, 0, 0, none, []),
  (116, .return_, 117, 0, 0, 0, 0, 0, none, [])]
theorem oX1_packLot_7 : ∀ q ∈ tX1_packLot_7, hy_ok mX1_packLot q.1 q.2 = true := by decide +kernel
def tX1_packLot : hyT := [tX1_packLot_0, tX1_packLot_1, tX1_packLot_2, tX1_packLot_3, tX1_packLot_4, tX1_packLot_5, tX1_packLot_6, tX1_packLot_7]
theorem oX1_packLot : hy_tok mX1_packLot tX1_packLot := List.forall_mem_cons.mpr ⟨oX1_packLot_0, List.forall_mem_cons.mpr ⟨oX1_packLot_1, List.forall_mem_cons.mpr ⟨oX1_packLot_2, List.forall_mem_cons.mpr ⟨oX1_packLot_3, List.forall_mem_cons.mpr ⟨oX1_packLot_4, List.forall_mem_cons.mpr ⟨oX1_packLot_5, List.forall_mem_cons.mpr ⟨oX1_packLot_6, List.forall_mem_cons.mpr ⟨oX1_packLot_7, fun _ h => absurd h List.not_mem_nil⟩⟩⟩⟩⟩⟩⟩⟩
def tX1_packRoll_0 : List (Nat × hyE) := [(0, .iload 4, 2, 4, 0, 0, 0, 0, none, []),
  (2, .istore 5, 4, 5, 0, 0, 0, 0, none, []),
  (4, .iload 5, 6, 5, 0, 0, 0, 0, none, []),
  (6, .ifCond .le 86, 9, 92, 0, 0, 0, 0, none, []),
  (9, .aload_n 0, 10, 0, 0, 0, 0, 0, none, []),
  (10, .getfield 30, 13, 1, 6, 0, 0, 0, none, []),
  (13, .iload 5, 15, 5, 0, 0, 0, 0, none, []),
  (15, .iaload, 16, 0, 0, 0, 0, 0, none, [])]
theorem oX1_packRoll_0 : ∀ q ∈ tX1_packRoll_0, hy_ok mX1_packRoll q.1 q.2 = true := by decide +kernel
def tX1_packRoll_1 : List (Nat × hyE) := [(16, .istore 6, 18, 6, 0, 0, 0, 0, none, []),
  (18, .iload 5, 20, 5, 0, 0, 0, 0, none, []),
  (20, .istore 7, 22, 7, 0, 0, 0, 0, none, []),
  (22, .iload 7, 24, 7, 0, 0, 0, 0, none, []),
  (24, .ifCond .le 53, 27, 77, 0, 0, 0, 0, none, []),
  (27, .aload_n 0, 28, 0, 0, 0, 0, 0, none, []),
  (28, .getfield 30, 31, 1, 6, 0, 0, 0, none, []),
  (31, .iload 5, 33, 5, 0, 0, 0, 0, none, [])]
theorem oX1_packRoll_1 : ∀ q ∈ tX1_packRoll_1, hy_ok mX1_packRoll q.1 q.2 = true := by decide +kernel
def tX1_packRoll_2 : List (Nat × hyE) := [(33, .iload 7, 35, 7, 0, 0, 0, 0, none, []),
  (35, .ixor, 36, 0, 0, 0, 0, 0, none, []),
  (36, .iaload, 37, 0, 0, 0, 0, 0, none, []),
  (37, .iload_n 2, 38, 2, 0, 0, 0, 0, none, []),
  (38, .iadd, 39, 0, 0, 0, 0, 0, none, []),
  (39, .istore 8, 41, 8, 0, 0, 0, 0, none, []),
  (41, .iload 8, 43, 8, 0, 0, 0, 0, none, []),
  (43, .iload 6, 45, 6, 0, 0, 0, 0, none, []),
  (45, .if_icmp .ge 20, 48, 65, 0, 0, 0, 0, none, [])]
theorem oX1_packRoll_2 : ∀ q ∈ tX1_packRoll_2, hy_ok mX1_packRoll q.1 q.2 = true := by decide +kernel
def tX1_packRoll_3 : List (Nat × hyE) := [(48, .aload_n 0, 49, 0, 0, 0, 0, 0, none, []),
  (49, .getfield 27, 52, 1, 5, 0, 0, 0, none, []),
  (52, .iload 7, 54, 7, 0, 0, 0, 0, none, []),
  (54, .iload_n 3, 55, 3, 0, 0, 0, 0, none, []),
  (55, .ishl, 56, 0, 0, 0, 0, 0, none, []),
  (56, .iaload, 57, 0, 0, 0, 0, 0, none, []),
  (57, .iload_n 1, 58, 1, 0, 0, 0, 0, none, []),
  (58, .if_icmp .gt 7, 61, 65, 0, 0, 0, 0, none, []),
  (61, .iload 8, 63, 8, 0, 0, 0, 0, none, []),
  (63, .istore 6, 65, 6, 0, 0, 0, 0, none, [])]
theorem oX1_packRoll_3 : ∀ q ∈ tX1_packRoll_3, hy_ok mX1_packRoll q.1 q.2 = true := by decide +kernel
def tX1_packRoll_4 : List (Nat × hyE) := [(65, .iload 7, 67, 7, 0, 0, 0, 0, none, []),
  (67, .iconst 1, 68, 0, 0, 0, 0, 1, none, []),
  (68, .isub, 69, 0, 0, 0, 0, 0, none, []),
  (69, .iload 5, 71, 5, 0, 0, 0, 0, none, []),
  (71, .iand, 72, 0, 0, 0, 0, 0, none, []),
  (72, .istore 7, 74, 7, 0, 0, 0, 0, none, []),
  (74, .goto (-52), 77, 22, 0, 0, 0, 0, none, []),
  (77, .aload_n 0, 78, 0, 0, 0, 0, 0, none, []),
  (78, .getfield 30, 81, 1, 6, 0, 0, 0, none, [])]
theorem oX1_packRoll_4 : ∀ q ∈ tX1_packRoll_4, hy_ok mX1_packRoll q.1 q.2 = true := by decide +kernel
def tX1_packRoll_5 : List (Nat × hyE) := [(81, .iload 5, 83, 5, 0, 0, 0, 0, none, []),
  (83, .iload 6, 85, 6, 0, 0, 0, 0, none, []),
  (85, .iastore, 86, 0, 0, 0, 0, 0, none, []),
  (86, .iinc 5 (-1), 89, 5, 0, 0, 0, (-1), none, []),
  (89, .goto (-85), 92, 4, 0, 0, 0, 0, none, []),
  (92, .return_, 93, 0, 0, 0, 0, 0, none, [])]
theorem oX1_packRoll_5 : ∀ q ∈ tX1_packRoll_5, hy_ok mX1_packRoll q.1 q.2 = true := by decide +kernel
def tX1_packRoll : hyT := [tX1_packRoll_0, tX1_packRoll_1, tX1_packRoll_2, tX1_packRoll_3, tX1_packRoll_4, tX1_packRoll_5]
theorem oX1_packRoll : hy_tok mX1_packRoll tX1_packRoll := List.forall_mem_cons.mpr ⟨oX1_packRoll_0, List.forall_mem_cons.mpr ⟨oX1_packRoll_1, List.forall_mem_cons.mpr ⟨oX1_packRoll_2, List.forall_mem_cons.mpr ⟨oX1_packRoll_3, List.forall_mem_cons.mpr ⟨oX1_packRoll_4, List.forall_mem_cons.mpr ⟨oX1_packRoll_5, fun _ h => absurd h List.not_mem_nil⟩⟩⟩⟩⟩⟩
def tX1_joinLot_0 : List (Nat × hyE) := [(0, .bipush 15, 2, 0, 0, 0, 0, 15, none, []),
  (2, .istore_n 3, 3, 3, 0, 0, 0, 0, none, []),
  (3, .iload_n 3, 4, 3, 0, 0, 0, 0, none, []),
  (4, .ifCond .le 84, 7, 88, 0, 0, 0, 0, none, []),
  (7, .aload_n 0, 8, 0, 0, 0, 0, 0, none, []),
  (8, .getfield 33, 11, 1, 7, 0, 0, 0, none, []),
  (11, .iload_n 3, 12, 3, 0, 0, 0, 0, none, []),
  (12, .iaload, 13, 0, 0, 0, 0, 0, none, []),
  (13, .istore 4, 15, 4, 0, 0, 0, 0, none, []),
  (15, .iload_n 3, 16, 3, 0, 0, 0, 0, none, [])]
theorem oX1_joinLot_0 : ∀ q ∈ tX1_joinLot_0, hy_ok mX1_joinLot q.1 q.2 = true := by decide +kernel
def tX1_joinLot_1 : List (Nat × hyE) := [(16, .istore 5, 18, 5, 0, 0, 0, 0, none, []),
  (18, .iload 5, 20, 5, 0, 0, 0, 0, none, []),
  (20, .ifCond .le 54, 23, 74, 0, 0, 0, 0, none, []),
  (23, .aload_n 0, 24, 0, 0, 0, 0, 0, none, []),
  (24, .iload 5, 26, 5, 0, 0, 0, 0, none, []),
  (26, .iload_n 1, 27, 1, 0, 0, 0, 0, none, []),
  (27, .iload_n 2, 28, 2, 0, 0, 0, 0, none, []),
  (28, .invokevirtual 89, 31, 0, 3, 0, 1, 0, (some mX1_cutsToLay), []),
  (31, .istore 6, 33, 6, 0, 0, 0, 0, none, [])]
theorem oX1_joinLot_1 : ∀ q ∈ tX1_joinLot_1, hy_ok mX1_joinLot q.1 q.2 = true := by decide +kernel
def tX1_joinLot_2 : List (Nat × hyE) := [(33, .iload 6, 35, 6, 0, 0, 0, 0, none, []),
  (35, .iconst (-1), 36, 0, 0, 0, 0, (-1), none, []),
  (36, .if_icmp .eq 27, 39, 63, 0, 0, 0, 0, none, []),
  (39, .iload 4, 41, 4, 0, 0, 0, 0, none, []),
  (41, .aload_n 0, 42, 0, 0, 0, 0, 0, none, []),
  (42, .getfield 33, 45, 1, 7, 0, 0, 0, none, []),
  (45, .iload_n 3, 46, 3, 0, 0, 0, 0, none, []),
  (46, .iload 5, 48, 5, 0, 0, 0, 0, none, [])]
theorem oX1_joinLot_2 : ∀ q ∈ tX1_joinLot_2, hy_ok mX1_joinLot q.1 q.2 = true := by decide +kernel
def tX1_joinLot_3 : List (Nat × hyE) := [(48, .ixor, 49, 0, 0, 0, 0, 0, none, []),
  (49, .iaload, 50, 0, 0, 0, 0, 0, none, []),
  (50, .aload_n 0, 51, 0, 0, 0, 0, 0, none, []),
  (51, .getfield 30, 54, 1, 6, 0, 0, 0, none, []),
  (54, .iload 6, 56, 6, 0, 0, 0, 0, none, []),
  (56, .iaload, 57, 0, 0, 0, 0, 0, none, []),
  (57, .iadd, 58, 0, 0, 0, 0, 0, none, []),
  (58, .invokestatic 80, 61, 0, 2, 0, 2, 0, (some mJ9_min_7cf53), []),
  (61, .istore 4, 63, 4, 0, 0, 0, 0, none, []),
  (63, .iload 5, 65, 5, 0, 0, 0, 0, none, [])]
theorem oX1_joinLot_3 : ∀ q ∈ tX1_joinLot_3, hy_ok mX1_joinLot q.1 q.2 = true := by decide +kernel
def tX1_joinLot_4 : List (Nat × hyE) := [(65, .iconst 1, 66, 0, 0, 0, 0, 1, none, []),
  (66, .isub, 67, 0, 0, 0, 0, 0, none, []),
  (67, .iload_n 3, 68, 3, 0, 0, 0, 0, none, []),
  (68, .iand, 69, 0, 0, 0, 0, 0, none, []),
  (69, .istore 5, 71, 5, 0, 0, 0, 0, none, []),
  (71, .goto (-53), 74, 18, 0, 0, 0, 0, none, []),
  (74, .aload_n 0, 75, 0, 0, 0, 0, 0, none, []),
  (75, .getfield 33, 78, 1, 7, 0, 0, 0, none, []),
  (78, .iload_n 3, 79, 3, 0, 0, 0, 0, none, []),
  (79, .iload 4, 81, 4, 0, 0, 0, 0, none, [])]
theorem oX1_joinLot_4 : ∀ q ∈ tX1_joinLot_4, hy_ok mX1_joinLot q.1 q.2 = true := by decide +kernel
def tX1_joinLot_5 : List (Nat × hyE) := [(81, .iastore, 82, 0, 0, 0, 0, 0, none, []),
  (82, .iinc 3 (-1), 85, 3, 0, 0, 0, (-1), none, []),
  (85, .goto (-82), 88, 3, 0, 0, 0, 0, none, []),
  (88, .return_, 89, 0, 0, 0, 0, 0, none, [])]
theorem oX1_joinLot_5 : ∀ q ∈ tX1_joinLot_5, hy_ok mX1_joinLot q.1 q.2 = true := by decide +kernel
def tX1_joinLot : hyT := [tX1_joinLot_0, tX1_joinLot_1, tX1_joinLot_2, tX1_joinLot_3, tX1_joinLot_4, tX1_joinLot_5]
theorem oX1_joinLot : hy_tok mX1_joinLot tX1_joinLot := List.forall_mem_cons.mpr ⟨oX1_joinLot_0, List.forall_mem_cons.mpr ⟨oX1_joinLot_1, List.forall_mem_cons.mpr ⟨oX1_joinLot_2, List.forall_mem_cons.mpr ⟨oX1_joinLot_3, List.forall_mem_cons.mpr ⟨oX1_joinLot_4, List.forall_mem_cons.mpr ⟨oX1_joinLot_5, fun _ h => absurd h List.not_mem_nil⟩⟩⟩⟩⟩⟩
def tX1_cutsToLay_0 : List (Nat × hyE) := [(0, .iconst 0, 1, 0, 0, 0, 0, 0, none, []),
  (1, .istore 4, 3, 4, 0, 0, 0, 0, none, []),
  (3, .iconst 0, 4, 0, 0, 0, 0, 0, none, []),
  (4, .istore 5, 6, 5, 0, 0, 0, 0, none, []),
  (6, .iload 5, 8, 5, 0, 0, 0, 0, none, []),
  (8, .aload_n 0, 9, 0, 0, 0, 0, 0, none, []),
  (9, .getfield 40, 12, 1, 9, 0, 0, 0, none, []),
  (12, .if_icmp .ge 61, 15, 73, 0, 0, 0, 0, none, []),
  (15, .iload_n 1, 16, 1, 0, 0, 0, 0, none, [])]
theorem oX1_cutsToLay_0 : ∀ q ∈ tX1_cutsToLay_0, hy_ok mX1_cutsToLay q.1 q.2 = true := by decide +kernel
def tX1_cutsToLay_1 : List (Nat × hyE) := [(16, .aload_n 0, 17, 0, 0, 0, 0, 0, none, []),
  (17, .getfield 21, 20, 1, 3, 0, 0, 0, none, []),
  (20, .iload 5, 22, 5, 0, 0, 0, 0, none, []),
  (22, .iaload, 23, 0, 0, 0, 0, 0, none, []),
  (23, .ishr, 24, 0, 0, 0, 0, 0, none, []),
  (24, .iconst 1, 25, 0, 0, 0, 0, 1, none, []),
  (25, .iand, 26, 0, 0, 0, 0, 0, none, []),
  (26, .ifCond .eq 41, 29, 67, 0, 0, 0, 0, none, []),
  (29, .iload 5, 31, 5, 0, 0, 0, 0, none, []),
  (31, .iload_n 3, 32, 3, 0, 0, 0, 0, none, [])]
theorem oX1_cutsToLay_1 : ∀ q ∈ tX1_cutsToLay_1, hy_ok mX1_cutsToLay q.1 q.2 = true := by decide +kernel
def tX1_cutsToLay_2 : List (Nat × hyE) := [(32, .if_icmp .lt 17, 35, 49, 0, 0, 0, 0, none, []),
  (35, .iload 4, 37, 4, 0, 0, 0, 0, none, []),
  (37, .iconst 1, 38, 0, 0, 0, 0, 1, none, []),
  (38, .iload 5, 40, 5, 0, 0, 0, 0, none, []),
  (40, .iload_n 3, 41, 3, 0, 0, 0, 0, none, []),
  (41, .isub, 42, 0, 0, 0, 0, 0, none, []),
  (42, .ishl, 43, 0, 0, 0, 0, 0, none, []),
  (43, .ior, 44, 0, 0, 0, 0, 0, none, []),
  (44, .istore 4, 46, 4, 0, 0, 0, 0, none, []),
  (46, .goto 21, 49, 67, 0, 0, 0, 0, none, [])]
theorem oX1_cutsToLay_2 : ∀ q ∈ tX1_cutsToLay_2, hy_ok mX1_cutsToLay q.1 q.2 = true := by decide +kernel
def tX1_cutsToLay_3 : List (Nat × hyE) := [(49, .aload_n 0, 50, 0, 0, 0, 0, 0, none, []),
  (50, .getfield 15, 53, 1, 1, 0, 0, 0, none, []),
  (53, .aload_n 0, 54, 0, 0, 0, 0, 0, none, []),
  (54, .getfield 24, 57, 1, 4, 0, 0, 0, none, []),
  (57, .iload 5, 59, 5, 0, 0, 0, 0, none, []),
  (59, .iaload, 60, 0, 0, 0, 0, 0, none, []),
  (60, .iaload, 61, 0, 0, 0, 0, 0, none, []),
  (61, .iload_n 2, 62, 2, 0, 0, 0, 0, none, []),
  (62, .if_icmp .eq 5, 65, 67, 0, 0, 0, 0, none, [])]
theorem oX1_cutsToLay_3 : ∀ q ∈ tX1_cutsToLay_3, hy_ok mX1_cutsToLay q.1 q.2 = true := by decide +kernel
def tX1_cutsToLay_4 : List (Nat × hyE) := [(65, .iconst (-1), 66, 0, 0, 0, 0, (-1), none, []),
  (66, .ireturn, 67, 0, 0, 0, 0, 0, none, []),
  (67, .iinc 5 1, 70, 5, 0, 0, 0, 1, none, []),
  (70, .goto (-64), 73, 6, 0, 0, 0, 0, none, []),
  (73, .iload 4, 75, 4, 0, 0, 0, 0, none, []),
  (75, .ireturn, 76, 0, 0, 0, 0, 0, none, [])]
theorem oX1_cutsToLay_4 : ∀ q ∈ tX1_cutsToLay_4, hy_ok mX1_cutsToLay q.1 q.2 = true := by decide +kernel
def tX1_cutsToLay : hyT := [tX1_cutsToLay_0, tX1_cutsToLay_1, tX1_cutsToLay_2, tX1_cutsToLay_3, tX1_cutsToLay_4]
theorem oX1_cutsToLay : hy_tok mX1_cutsToLay tX1_cutsToLay := List.forall_mem_cons.mpr ⟨oX1_cutsToLay_0, List.forall_mem_cons.mpr ⟨oX1_cutsToLay_1, List.forall_mem_cons.mpr ⟨oX1_cutsToLay_2, List.forall_mem_cons.mpr ⟨oX1_cutsToLay_3, List.forall_mem_cons.mpr ⟨oX1_cutsToLay_4, fun _ h => absurd h List.not_mem_nil⟩⟩⟩⟩⟩
def tX5_init_0 : List (Nat × hyE) := [(0, .aload_n 0, 1, 0, 0, 0, 0, 0, none, []),
  (1, .invokespecial 1, 4, 0, 0, 0, 0, 0, none, []),
  (4, .aload_n 0, 5, 0, 0, 0, 0, 0, none, []),
  (5, .new 7, 8, 2, 11, 0, 0, 0, none, []),
  (8, .dup, 9, 0, 0, 0, 0, 0, none, []),
  (9, .invokespecial 9, 12, 0, 0, 0, 0, 0, (some mX2_init), []),
  (12, .putfield 10, 15, 5, 0, 2, 0, 0, none, []),
  (15, .aload_n 0, 16, 0, 0, 0, 0, 0, none, [])]
theorem oX5_init_0 : ∀ q ∈ tX5_init_0, hy_ok mX5_init q.1 q.2 = true := by decide +kernel
def tX5_init_1 : List (Nat × hyE) := [(16, .new 16, 19, 0, 3, 0, 0, 0, none, []),
  (19, .dup, 20, 0, 0, 0, 0, 0, none, []),
  (20, .invokespecial 18, 23, 0, 0, 1, 0, 0, (some mX0_init), []),
  (23, .putfield 19, 26, 5, 1, 2, 0, 0, none, []),
  (26, .aload_n 0, 27, 0, 0, 0, 0, 0, none, []),
  (27, .new 23, 30, 4, 10, 0, 0, 0, none, []),
  (30, .dup, 31, 0, 0, 0, 0, 0, none, []),
  (31, .invokespecial 25, 34, 0, 0, 1, 0, 0, (some mX4_init), [])]
theorem oX5_init_1 : ∀ q ∈ tX5_init_1, hy_ok mX5_init q.1 q.2 = true := by decide +kernel
def tX5_init_2 : List (Nat × hyE) := [(34, .putfield 26, 37, 5, 2, 2, 0, 0, none, []),
  (37, .aload_n 0, 38, 0, 0, 0, 0, 0, none, []),
  (38, .new 30, 41, 1, 12, 0, 0, 0, none, []),
  (41, .dup, 42, 0, 0, 0, 0, 0, none, []),
  (42, .invokespecial 32, 45, 0, 0, 1, 0, 0, (some mX1_init), []),
  (45, .putfield 33, 48, 5, 3, 2, 0, 0, none, [])]
theorem oX5_init_2 : ∀ q ∈ tX5_init_2, hy_ok mX5_init q.1 q.2 = true := by decide +kernel
def tX5_init_3 : List (Nat × hyE) := [(48, .aload_n 0, 49, 0, 0, 0, 0, 0, none, []),
  (49, .new 37, 52, 3, 3, 0, 0, 0, none, []),
  (52, .dup, 53, 0, 0, 0, 0, 0, none, []),
  (53, .invokespecial 39, 56, 0, 0, 1, 0, 0, (some mX3_init), []),
  (56, .putfield 40, 59, 5, 4, 2, 0, 0, none, []),
  (59, .return_, 60, 0, 0, 0, 0, 0, none, [])]
theorem oX5_init_3 : ∀ q ∈ tX5_init_3, hy_ok mX5_init q.1 q.2 = true := by decide +kernel
def tX5_init : hyT := [tX5_init_0, tX5_init_1, tX5_init_2, tX5_init_3]
theorem oX5_init : hy_tok mX5_init tX5_init := List.forall_mem_cons.mpr ⟨oX5_init_0, List.forall_mem_cons.mpr ⟨oX5_init_1, List.forall_mem_cons.mpr ⟨oX5_init_2, List.forall_mem_cons.mpr ⟨oX5_init_3, fun _ h => absurd h List.not_mem_nil⟩⟩⟩⟩
def tX5_salt_0 : List (Nat × hyE) := [(0, .aload_n 0, 1, 0, 0, 0, 0, 0, none, []),
  (1, .getfield 10, 4, 5, 0, 0, 0, 0, none, []),
  (4, .iload_n 1, 5, 1, 0, 0, 0, 0, none, []),
  (5, .iload_n 2, 6, 2, 0, 0, 0, 0, none, []),
  (6, .invokevirtual 44, 9, 0, 2, 0, 2, 0, (some mX2_setSalt), []),
  (9, .ireturn, 10, 0, 0, 0, 0, 0, none, [])]
theorem oX5_salt_0 : ∀ q ∈ tX5_salt_0, hy_ok mX5_salt q.1 q.2 = true := by decide +kernel
def tX5_salt : hyT := [tX5_salt_0]
theorem oX5_salt : hy_tok mX5_salt tX5_salt := List.forall_mem_cons.mpr ⟨oX5_salt_0, fun _ h => absurd h List.not_mem_nil⟩
def tX5_ripens_0 : List (Nat × hyE) := [(0, .aload_n 0, 1, 0, 0, 0, 0, 0, none, []),
  (1, .getfield 10, 4, 5, 0, 0, 0, 0, none, []),
  (4, .iload_n 1, 5, 1, 0, 0, 0, 0, none, []),
  (5, .iload_n 2, 6, 2, 0, 0, 0, 0, none, []),
  (6, .invokevirtual 48, 9, 0, 2, 0, 2, 0, (some mX2_setRipens), []),
  (9, .ireturn, 10, 0, 0, 0, 0, 0, none, [])]
theorem oX5_ripens_0 : ∀ q ∈ tX5_ripens_0, hy_ok mX5_ripens q.1 q.2 = true := by decide +kernel
def tX5_ripens : hyT := [tX5_ripens_0]
theorem oX5_ripens : hy_tok mX5_ripens tX5_ripens := List.forall_mem_cons.mpr ⟨oX5_ripens_0, fun _ h => absurd h List.not_mem_nil⟩
def tX5_net_0 : List (Nat × hyE) := [(0, .aload_n 0, 1, 0, 0, 0, 0, 0, none, []),
  (1, .getfield 10, 4, 5, 0, 0, 0, 0, none, []),
  (4, .iload_n 1, 5, 1, 0, 0, 0, 0, none, []),
  (5, .iload_n 2, 6, 2, 0, 0, 0, 0, none, []),
  (6, .iload_n 3, 7, 3, 0, 0, 0, 0, none, []),
  (7, .iload 4, 9, 4, 0, 0, 0, 0, none, []),
  (9, .invokevirtual 51, 12, 0, 4, 0, 2, 0, (some mX2_putIn), []),
  (12, .ireturn, 13, 0, 0, 0, 0, 0, none, [])]
theorem oX5_net_0 : ∀ q ∈ tX5_net_0, hy_ok mX5_net q.1 q.2 = true := by decide +kernel
def tX5_net : hyT := [tX5_net_0]
theorem oX5_net : hy_tok mX5_net tX5_net := List.forall_mem_cons.mpr ⟨oX5_net_0, fun _ h => absurd h List.not_mem_nil⟩
def tX5_weeks_0 : List (Nat × hyE) := [(0, .aload_n 0, 1, 0, 0, 0, 0, 0, none, []),
  (1, .getfield 10, 4, 5, 0, 0, 0, 0, none, []),
  (4, .iload_n 1, 5, 1, 0, 0, 0, 0, none, []),
  (5, .invokevirtual 55, 8, 0, 1, 0, 2, 0, (some mX2_goBy), []),
  (8, .ireturn, 9, 0, 0, 0, 0, 0, none, [])]
theorem oX5_weeks_0 : ∀ q ∈ tX5_weeks_0, hy_ok mX5_weeks q.1 q.2 = true := by decide +kernel
def tX5_weeks : hyT := [tX5_weeks_0]
theorem oX5_weeks : hy_tok mX5_weeks tX5_weeks := List.forall_mem_cons.mpr ⟨oX5_weeks_0, fun _ h => absurd h List.not_mem_nil⟩
def tX5_pull_0 : List (Nat × hyE) := [(0, .aload_n 0, 1, 0, 0, 0, 0, 0, none, []),
  (1, .getfield 10, 4, 5, 0, 0, 0, 0, none, []),
  (4, .iload_n 1, 5, 1, 0, 0, 0, 0, none, []),
  (5, .invokevirtual 59, 8, 0, 1, 0, 2, 0, (some mX2_takeOut), []),
  (8, .ireturn, 9, 0, 0, 0, 0, 0, none, [])]
theorem oX5_pull_0 : ∀ q ∈ tX5_pull_0, hy_ok mX5_pull q.1 q.2 = true := by decide +kernel
def tX5_pull : hyT := [tX5_pull_0]
theorem oX5_pull : hy_tok mX5_pull tX5_pull := List.forall_mem_cons.mpr ⟨oX5_pull_0, fun _ h => absurd h List.not_mem_nil⟩
def tX5_flood_0 : List (Nat × hyE) := [(0, .aload_n 0, 1, 0, 0, 0, 0, 0, none, []),
  (1, .getfield 10, 4, 5, 0, 0, 0, 0, none, []),
  (4, .iload_n 1, 5, 1, 0, 0, 0, 0, none, []),
  (5, .invokevirtual 62, 8, 0, 1, 0, 2, 0, (some mX2_floatOff), []),
  (8, .ireturn, 9, 0, 0, 0, 0, 0, none, [])]
theorem oX5_flood_0 : ∀ q ∈ tX5_flood_0, hy_ok mX5_flood q.1 q.2 = true := by decide +kernel
def tX5_flood : hyT := [tX5_flood_0]
theorem oX5_flood : hy_tok mX5_flood tX5_flood := List.forall_mem_cons.mpr ⟨oX5_flood_0, fun _ h => absurd h List.not_mem_nil⟩
def tX5_find_0 : List (Nat × hyE) := [(0, .iload_n 1, 1, 1, 0, 0, 0, 0, none, []),
  (1, .invokestatic 65, 4, 10, 1, 0, 0, 0, (some mX5_isMarks), []),
  (4, .ifCond .eq 16, 7, 20, 0, 0, 0, 0, none, []),
  (7, .iload_n 2, 8, 2, 0, 0, 0, 0, none, []),
  (8, .invokestatic 65, 11, 10, 1, 0, 0, 0, (some mX5_isMarks), []),
  (11, .ifCond .eq 9, 14, 20, 0, 0, 0, 0, none, []),
  (14, .iload_n 1, 15, 1, 0, 0, 0, 0, none, []),
  (15, .iload_n 2, 16, 2, 0, 0, 0, 0, none, [])]
theorem oX5_find_0 : ∀ q ∈ tX5_find_0, hy_ok mX5_find q.1 q.2 = true := by decide +kernel
def tX5_find_1 : List (Nat × hyE) := [(16, .iand, 17, 0, 0, 0, 0, 0, none, []),
  (17, .ifCond .eq 5, 20, 22, 0, 0, 0, 0, none, []),
  (20, .iconst (-1), 21, 0, 0, 0, 0, (-1), none, []),
  (21, .ireturn, 22, 0, 0, 0, 0, 0, none, []),
  (22, .aload_n 0, 23, 0, 0, 0, 0, 0, none, []),
  (23, .getfield 19, 26, 5, 1, 0, 0, 0, none, []),
  (26, .aload_n 0, 27, 0, 0, 0, 0, 0, none, []),
  (27, .getfield 10, 30, 5, 0, 0, 0, 0, none, []),
  (30, .iload_n 1, 31, 1, 0, 0, 0, 0, none, []),
  (31, .iload_n 2, 32, 2, 0, 0, 0, 0, none, [])]
theorem oX5_find_1 : ∀ q ∈ tX5_find_1, hy_ok mX5_find q.1 q.2 = true := by decide +kernel
def tX5_find_2 : List (Nat × hyE) := [(32, .invokevirtual 69, 35, 0, 2, 0, 2, 0, (some mX2_afloatWith), []),
  (35, .invokevirtual 73, 38, 0, 1, 0, 0, 0, (some mX0_tell), []),
  (38, .istore_n 3, 39, 3, 0, 0, 0, 0, none, []),
  (39, .iload_n 3, 40, 3, 0, 0, 0, 0, none, []),
  (40, .iconst (-1), 41, 0, 0, 0, 0, (-1), none, []),
  (41, .if_icmp .eq 7, 44, 48, 0, 0, 0, 0, none, []),
  (44, .aload_n 0, 45, 0, 0, 0, 0, 0, none, []),
  (45, .invokevirtual 76, 48, 0, 0, 0, 5, 0, (some mX5_bringBackTheSure), [])]
theorem oX5_find_2 : ∀ q ∈ tX5_find_2, hy_ok mX5_find q.1 q.2 = true := by decide +kernel
def tX5_find_3 : List (Nat × hyE) := [(48, .iload_n 3, 49, 3, 0, 0, 0, 0, none, []),
  (49, .ireturn, 50, 0, 0, 0, 0, 0, none, [])]
theorem oX5_find_3 : ∀ q ∈ tX5_find_3, hy_ok mX5_find q.1 q.2 = true := by decide +kernel
def tX5_find : hyT := [tX5_find_0, tX5_find_1, tX5_find_2, tX5_find_3]
theorem oX5_find : hy_tok mX5_find tX5_find := List.forall_mem_cons.mpr ⟨oX5_find_0, List.forall_mem_cons.mpr ⟨oX5_find_1, List.forall_mem_cons.mpr ⟨oX5_find_2, List.forall_mem_cons.mpr ⟨oX5_find_3, fun _ h => absurd h List.not_mem_nil⟩⟩⟩⟩
def tX5_found_0 : List (Nat × hyE) := [(0, .iload_n 2, 1, 2, 0, 0, 0, 0, none, []),
  (1, .lookupswitch 45 #[(0, 27), (1, 36)], 28, 46, 0, 27, 0, 0, none, [(0, 28), (1, 37)])]
theorem oX5_found_0 : ∀ q ∈ tX5_found_0, hy_ok mX5_found q.1 q.2 = true := by decide +kernel
def tX5_found_1 : List (Nat × hyE) := [(28, .aload_n 0, 29, 0, 0, 0, 0, 0, none, []),
  (29, .getfield 19, 32, 5, 1, 0, 0, 0, none, [])]
theorem oX5_found_1 : ∀ q ∈ tX5_found_1, hy_ok mX5_found q.1 q.2 = true := by decide +kernel
def tX5_found_2 : List (Nat × hyE) := [(32, .iload_n 1, 33, 1, 0, 0, 0, 0, none, []),
  (33, .invokevirtual 79, 36, 0, 1, 0, 0, 0, (some mX0_howManyFit), []),
  (36, .ireturn, 37, 0, 0, 0, 0, 0, none, []),
  (37, .aload_n 0, 38, 0, 0, 0, 0, 0, none, []),
  (38, .getfield 19, 41, 5, 1, 0, 0, 0, none, []),
  (41, .iload_n 1, 42, 1, 0, 0, 0, 0, none, []),
  (42, .invokevirtual 82, 45, 0, 1, 0, 0, 0, (some mX0_sureNet), []),
  (45, .ireturn, 46, 0, 0, 0, 0, 0, none, []),
  (46, .iconst (-1), 47, 0, 0, 0, 0, (-1), none, []),
  (47, .ireturn, 48, 0, 0, 0, 0, 0, none, [])]
theorem oX5_found_2 : ∀ q ∈ tX5_found_2, hy_ok mX5_found q.1 q.2 = true := by decide +kernel
def tX5_found : hyT := [tX5_found_0, tX5_found_1, tX5_found_2]
theorem oX5_found : hy_tok mX5_found tX5_found := List.forall_mem_cons.mpr ⟨oX5_found_0, List.forall_mem_cons.mpr ⟨oX5_found_1, List.forall_mem_cons.mpr ⟨oX5_found_2, fun _ h => absurd h List.not_mem_nil⟩⟩⟩
def tX5_netOf_0 : List (Nat × hyE) := [(0, .iload_n 2, 1, 2, 0, 0, 0, 0, none, []),
  (1, .bipush 6, 3, 0, 0, 0, 0, 6, none, []),
  (3, .if_icmp .ne 14, 6, 17, 0, 0, 0, 0, none, []),
  (6, .aload_n 0, 7, 0, 0, 0, 0, 0, none, []),
  (7, .getfield 19, 10, 5, 1, 0, 0, 0, none, []),
  (10, .iload_n 1, 11, 1, 0, 0, 0, 0, none, []),
  (11, .invokevirtual 85, 14, 0, 1, 0, 0, 0, (some mX0_sureFind), []),
  (14, .goto 12, 17, 26, 0, 0, 0, 0, none, [])]
theorem oX5_netOf_0 : ∀ q ∈ tX5_netOf_0, hy_ok mX5_netOf q.1 q.2 = true := by decide +kernel
def tX5_netOf_1 : List (Nat × hyE) := [(17, .aload_n 0, 18, 0, 0, 0, 0, 0, none, []),
  (18, .getfield 10, 21, 5, 0, 0, 0, 0, none, []),
  (21, .iload_n 1, 22, 1, 0, 0, 0, 0, none, []),
  (22, .iload_n 2, 23, 2, 0, 0, 0, 0, none, []),
  (23, .invokevirtual 88, 26, 0, 2, 0, 2, 0, (some mX2_tellOf), []),
  (26, .ireturn, 27, 0, 0, 0, 0, 0, none, [])]
theorem oX5_netOf_1 : ∀ q ∈ tX5_netOf_1, hy_ok mX5_netOf q.1 q.2 = true := by decide +kernel
def tX5_netOf : hyT := [tX5_netOf_0, tX5_netOf_1]
theorem oX5_netOf : hy_tok mX5_netOf tX5_netOf := List.forall_mem_cons.mpr ⟨oX5_netOf_0, List.forall_mem_cons.mpr ⟨oX5_netOf_1, fun _ h => absurd h List.not_mem_nil⟩⟩
def tX5_order_0 : List (Nat × hyE) := [(0, .aload_n 0, 1, 0, 0, 0, 0, 0, none, []),
  (1, .getfield 26, 4, 5, 2, 0, 0, 0, none, []),
  (4, .iload_n 1, 5, 1, 0, 0, 0, 0, none, []),
  (5, .iload_n 2, 6, 2, 0, 0, 0, 0, none, []),
  (6, .iload_n 3, 7, 3, 0, 0, 0, 0, none, []),
  (7, .iload 4, 9, 4, 0, 0, 0, 0, none, []),
  (9, .invokevirtual 91, 12, 0, 4, 0, 4, 0, (some mX4_take), []),
  (12, .ireturn, 13, 0, 0, 0, 0, 0, none, [])]
theorem oX5_order_0 : ∀ q ∈ tX5_order_0, hy_ok mX5_order q.1 q.2 = true := by decide +kernel
def tX5_order : hyT := [tX5_order_0]
theorem oX5_order : hy_tok mX5_order tX5_order := List.forall_mem_cons.mpr ⟨oX5_order_0, fun _ h => absurd h List.not_mem_nil⟩
def tX5_change_0 : List (Nat × hyE) := [(0, .aload_n 0, 1, 0, 0, 0, 0, 0, none, []),
  (1, .getfield 26, 4, 5, 2, 0, 0, 0, none, []),
  (4, .iload_n 1, 5, 1, 0, 0, 0, 0, none, []),
  (5, .invokevirtual 94, 8, 0, 1, 0, 4, 0, (some mX4_setChange), []),
  (8, .ireturn, 9, 0, 0, 0, 0, 0, none, [])]
theorem oX5_change_0 : ∀ q ∈ tX5_change_0, hy_ok mX5_change q.1 q.2 = true := by decide +kernel
def tX5_change : hyT := [tX5_change_0]
theorem oX5_change : hy_tok mX5_change tX5_change := List.forall_mem_cons.mpr ⟨oX5_change_0, fun _ h => absurd h List.not_mem_nil⟩
def tX5_late_0 : List (Nat × hyE) := [(0, .aload_n 0, 1, 0, 0, 0, 0, 0, none, []),
  (1, .getfield 26, 4, 5, 2, 0, 0, 0, none, []),
  (4, .invokevirtual 97, 7, 0, 0, 0, 4, 0, (some mX4_leastLate), []),
  (7, .ireturn, 8, 0, 0, 0, 0, 0, none, [])]
theorem oX5_late_0 : ∀ q ∈ tX5_late_0, hy_ok mX5_late q.1 q.2 = true := by decide +kernel
def tX5_late : hyT := [tX5_late_0]
theorem oX5_late : hy_tok mX5_late tX5_late := List.forall_mem_cons.mpr ⟨oX5_late_0, fun _ h => absurd h List.not_mem_nil⟩
def tX5_spun_0 : List (Nat × hyE) := [(0, .iload_n 2, 1, 2, 0, 0, 0, 0, none, []),
  (1, .lookupswitch 45 #[(0, 27), (1, 36)], 28, 46, 0, 27, 0, 0, none, [(0, 28), (1, 37)])]
theorem oX5_spun_0 : ∀ q ∈ tX5_spun_0, hy_ok mX5_spun q.1 q.2 = true := by decide +kernel
def tX5_spun_1 : List (Nat × hyE) := [(28, .aload_n 0, 29, 0, 0, 0, 0, 0, none, []),
  (29, .getfield 26, 32, 5, 2, 0, 0, 0, none, [])]
theorem oX5_spun_1 : ∀ q ∈ tX5_spun_1, hy_ok mX5_spun q.1 q.2 = true := by decide +kernel
def tX5_spun_2 : List (Nat × hyE) := [(32, .iload_n 1, 33, 1, 0, 0, 0, 0, none, []),
  (33, .invokevirtual 101, 36, 0, 1, 0, 4, 0, (some mX4_orderAt), []),
  (36, .ireturn, 37, 0, 0, 0, 0, 0, none, []),
  (37, .aload_n 0, 38, 0, 0, 0, 0, 0, none, []),
  (38, .getfield 26, 41, 5, 2, 0, 0, 0, none, []),
  (41, .iload_n 1, 42, 1, 0, 0, 0, 0, none, []),
  (42, .invokevirtual 104, 45, 0, 1, 0, 4, 0, (some mX4_endAt), []),
  (45, .ireturn, 46, 0, 0, 0, 0, 0, none, []),
  (46, .iconst (-1), 47, 0, 0, 0, 0, (-1), none, []),
  (47, .ireturn, 48, 0, 0, 0, 0, 0, none, [])]
theorem oX5_spun_2 : ∀ q ∈ tX5_spun_2, hy_ok mX5_spun q.1 q.2 = true := by decide +kernel
def tX5_spun : hyT := [tX5_spun_0, tX5_spun_1, tX5_spun_2]
theorem oX5_spun : hy_tok mX5_spun tX5_spun := List.forall_mem_cons.mpr ⟨oX5_spun_0, List.forall_mem_cons.mpr ⟨oX5_spun_1, List.forall_mem_cons.mpr ⟨oX5_spun_2, fun _ h => absurd h List.not_mem_nil⟩⟩⟩
def tX5_clear_0 : List (Nat × hyE) := [(0, .aload_n 0, 1, 0, 0, 0, 0, 0, none, []),
  (1, .getfield 26, 4, 5, 2, 0, 0, 0, none, []),
  (4, .invokevirtual 107, 7, 0, 0, 0, 4, 0, (some mX4_dropOrders), []),
  (7, .ireturn, 8, 0, 0, 0, 0, 0, none, [])]
theorem oX5_clear_0 : ∀ q ∈ tX5_clear_0, hy_ok mX5_clear q.1 q.2 = true := by decide +kernel
def tX5_clear : hyT := [tX5_clear_0]
theorem oX5_clear : hy_tok mX5_clear tX5_clear := List.forall_mem_cons.mpr ⟨oX5_clear_0, fun _ h => absurd h List.not_mem_nil⟩
def tX5_roll_0 : List (Nat × hyE) := [(0, .aload_n 0, 1, 0, 0, 0, 0, 0, none, []),
  (1, .getfield 33, 4, 5, 3, 0, 0, 0, none, []),
  (4, .iload_n 1, 5, 1, 0, 0, 0, 0, none, []),
  (5, .iload_n 2, 6, 2, 0, 0, 0, 0, none, []),
  (6, .invokevirtual 110, 9, 0, 2, 0, 1, 0, (some mX1_addRoll), []),
  (9, .ireturn, 10, 0, 0, 0, 0, 0, none, [])]
theorem oX5_roll_0 : ∀ q ∈ tX5_roll_0, hy_ok mX5_roll q.1 q.2 = true := by decide +kernel
def tX5_roll : hyT := [tX5_roll_0]
theorem oX5_roll : hy_tok mX5_roll tX5_roll := List.forall_mem_cons.mpr ⟨oX5_roll_0, fun _ h => absurd h List.not_mem_nil⟩
def tX5_cut_0 : List (Nat × hyE) := [(0, .aload_n 0, 1, 0, 0, 0, 0, 0, none, []),
  (1, .getfield 33, 4, 5, 3, 0, 0, 0, none, []),
  (4, .iload_n 1, 5, 1, 0, 0, 0, 0, none, []),
  (5, .iload_n 2, 6, 2, 0, 0, 0, 0, none, []),
  (6, .invokevirtual 113, 9, 0, 2, 0, 1, 0, (some mX1_addCut), []),
  (9, .ireturn, 10, 0, 0, 0, 0, 0, none, [])]
theorem oX5_cut_0 : ∀ q ∈ tX5_cut_0, hy_ok mX5_cut q.1 q.2 = true := by decide +kernel
def tX5_cut : hyT := [tX5_cut_0]
theorem oX5_cut : hy_tok mX5_cut tX5_cut := List.forall_mem_cons.mpr ⟨oX5_cut_0, fun _ h => absurd h List.not_mem_nil⟩
def tX5_opened_0 : List (Nat × hyE) := [(0, .aload_n 0, 1, 0, 0, 0, 0, 0, none, []),
  (1, .getfield 33, 4, 5, 3, 0, 0, 0, none, []),
  (4, .invokevirtual 116, 7, 0, 0, 0, 1, 0, (some mX1_leastOpened), []),
  (7, .ireturn, 8, 0, 0, 0, 0, 0, none, [])]
theorem oX5_opened_0 : ∀ q ∈ tX5_opened_0, hy_ok mX5_opened q.1 q.2 = true := by decide +kernel
def tX5_opened : hyT := [tX5_opened_0]
theorem oX5_opened : hy_tok mX5_opened tX5_opened := List.forall_mem_cons.mpr ⟨oX5_opened_0, fun _ h => absurd h List.not_mem_nil⟩
def tX5_from_0 : List (Nat × hyE) := [(0, .aload_n 0, 1, 0, 0, 0, 0, 0, none, []),
  (1, .getfield 33, 4, 5, 3, 0, 0, 0, none, []),
  (4, .iload_n 1, 5, 1, 0, 0, 0, 0, none, []),
  (5, .invokevirtual 119, 8, 0, 1, 0, 1, 0, (some mX1_rollUnder), []),
  (8, .ireturn, 9, 0, 0, 0, 0, 0, none, [])]
theorem oX5_from_0 : ∀ q ∈ tX5_from_0, hy_ok mX5_from q.1 q.2 = true := by decide +kernel
def tX5_from : hyT := [tX5_from_0]
theorem oX5_from : hy_tok mX5_from tX5_from := List.forall_mem_cons.mpr ⟨oX5_from_0, fun _ h => absurd h List.not_mem_nil⟩
def tX5_away_0 : List (Nat × hyE) := [(0, .aload_n 0, 1, 0, 0, 0, 0, 0, none, []),
  (1, .getfield 33, 4, 5, 3, 0, 0, 0, none, []),
  (4, .invokevirtual 122, 7, 0, 0, 0, 1, 0, (some mX1_dropAll), []),
  (7, .ireturn, 8, 0, 0, 0, 0, 0, none, [])]
theorem oX5_away_0 : ∀ q ∈ tX5_away_0, hy_ok mX5_away q.1 q.2 = true := by decide +kernel
def tX5_away : hyT := [tX5_away_0]
theorem oX5_away : hy_tok mX5_away tX5_away := List.forall_mem_cons.mpr ⟨oX5_away_0, fun _ h => absurd h List.not_mem_nil⟩
def tX5_reading_0 : List (Nat × hyE) := [(0, .aload_n 0, 1, 0, 0, 0, 0, 0, none, []),
  (1, .getfield 40, 4, 5, 4, 0, 0, 0, none, []),
  (4, .iload_n 1, 5, 1, 0, 0, 0, 0, none, []),
  (5, .iload_n 2, 6, 2, 0, 0, 0, 0, none, []),
  (6, .invokevirtual 125, 9, 0, 2, 0, 3, 0, (some mX3_tell), []),
  (9, .ireturn, 10, 0, 0, 0, 0, 0, none, [])]
theorem oX5_reading_0 : ∀ q ∈ tX5_reading_0, hy_ok mX5_reading q.1 q.2 = true := by decide +kernel
def tX5_reading : hyT := [tX5_reading_0]
theorem oX5_reading : hy_tok mX5_reading tX5_reading := List.forall_mem_cons.mpr ⟨oX5_reading_0, fun _ h => absurd h List.not_mem_nil⟩
def tX5_errs_0 : List (Nat × hyE) := [(0, .aload_n 0, 1, 0, 0, 0, 0, 0, none, []),
  (1, .getfield 40, 4, 5, 4, 0, 0, 0, none, []),
  (4, .iload_n 1, 5, 1, 0, 0, 0, 0, none, []),
  (5, .invokevirtual 127, 8, 0, 1, 0, 3, 0, (some mX3_bound), []),
  (8, .ireturn, 9, 0, 0, 0, 0, 0, none, [])]
theorem oX5_errs_0 : ∀ q ∈ tX5_errs_0, hy_ok mX5_errs q.1 q.2 = true := by decide +kernel
def tX5_errs : hyT := [tX5_errs_0]
theorem oX5_errs : hy_tok mX5_errs tX5_errs := List.forall_mem_cons.mpr ⟨oX5_errs_0, fun _ h => absurd h List.not_mem_nil⟩
def tX5_back_0 : List (Nat × hyE) := [(0, .aload_n 0, 1, 0, 0, 0, 0, 0, none, []),
  (1, .getfield 40, 4, 5, 4, 0, 0, 0, none, []),
  (4, .iload_n 1, 5, 1, 0, 0, 0, 0, none, []),
  (5, .iload_n 2, 6, 2, 0, 0, 0, 0, none, []),
  (6, .invokevirtual 131, 9, 0, 2, 0, 3, 0, (some mX3_weightFor), []),
  (9, .ireturn, 10, 0, 0, 0, 0, 0, none, [])]
theorem oX5_back_0 : ∀ q ∈ tX5_back_0, hy_ok mX5_back q.1 q.2 = true := by decide +kernel
def tX5_back : hyT := [tX5_back_0]
theorem oX5_back : hy_tok mX5_back tX5_back := List.forall_mem_cons.mpr ⟨oX5_back_0, fun _ h => absurd h List.not_mem_nil⟩
def tX5_about_0 : List (Nat × hyE) := [(0, .iload_n 1, 1, 1, 0, 0, 0, 0, none, []),
  (1, .tableswitch 137 0 9 #[55, 63, 71, 79, 87, 95, 103, 111, 119, 128], 56, 138, 0, 55, 0, 0, none, [(0, 56), (1, 64), (2, 72), (3, 80), (4, 88), (5, 96), (6, 104), (7, 112), (8, 120), (9, 129)])]
theorem oX5_about_0 : ∀ q ∈ tX5_about_0, hy_ok mX5_about q.1 q.2 = true := by decide +kernel
def tX5_about_1 : List (Nat × hyE) := []
theorem oX5_about_1 : ∀ q ∈ tX5_about_1, hy_ok mX5_about q.1 q.2 = true := by decide +kernel
def tX5_about_2 : List (Nat × hyE) := []
theorem oX5_about_2 : ∀ q ∈ tX5_about_2, hy_ok mX5_about q.1 q.2 = true := by decide +kernel
def tX5_about_3 : List (Nat × hyE) := [(56, .aload_n 0, 57, 0, 0, 0, 0, 0, none, []),
  (57, .getfield 10, 60, 5, 0, 0, 0, 0, none, []),
  (60, .invokevirtual 135, 63, 0, 0, 0, 2, 0, (some mX2_clock), []),
  (63, .ireturn, 64, 0, 0, 0, 0, 0, none, [])]
theorem oX5_about_3 : ∀ q ∈ tX5_about_3, hy_ok mX5_about q.1 q.2 = true := by decide +kernel
def tX5_about_4 : List (Nat × hyE) := [(64, .aload_n 0, 65, 0, 0, 0, 0, 0, none, []),
  (65, .getfield 10, 68, 5, 0, 0, 0, 0, none, []),
  (68, .invokevirtual 138, 71, 0, 0, 0, 2, 0, (some mX2_count), []),
  (71, .ireturn, 72, 0, 0, 0, 0, 0, none, []),
  (72, .aload_n 0, 73, 0, 0, 0, 0, 0, none, []),
  (73, .getfield 19, 76, 5, 1, 0, 0, 0, none, []),
  (76, .invokevirtual 141, 79, 0, 0, 0, 0, 0, (some mX0_count), []),
  (79, .ireturn, 80, 0, 0, 0, 0, 0, none, [])]
theorem oX5_about_4 : ∀ q ∈ tX5_about_4, hy_ok mX5_about q.1 q.2 = true := by decide +kernel
def tX5_about_5 : List (Nat × hyE) := [(80, .aload_n 0, 81, 0, 0, 0, 0, 0, none, []),
  (81, .getfield 26, 84, 5, 2, 0, 0, 0, none, []),
  (84, .invokevirtual 142, 87, 0, 0, 0, 4, 0, (some mX4_count), []),
  (87, .ireturn, 88, 0, 0, 0, 0, 0, none, []),
  (88, .aload_n 0, 89, 0, 0, 0, 0, 0, none, []),
  (89, .getfield 33, 92, 5, 3, 0, 0, 0, none, []),
  (92, .invokevirtual 143, 95, 0, 0, 0, 1, 0, (some mX1_rollCount), []),
  (95, .ireturn, 96, 0, 0, 0, 0, 0, none, [])]
theorem oX5_about_5 : ∀ q ∈ tX5_about_5, hy_ok mX5_about q.1 q.2 = true := by decide +kernel
def tX5_about_6 : List (Nat × hyE) := [(96, .aload_n 0, 97, 0, 0, 0, 0, 0, none, []),
  (97, .getfield 33, 100, 5, 3, 0, 0, 0, none, []),
  (100, .invokevirtual 146, 103, 0, 0, 0, 1, 0, (some mX1_cutCount), []),
  (103, .ireturn, 104, 0, 0, 0, 0, 0, none, []),
  (104, .aload_n 0, 105, 0, 0, 0, 0, 0, none, []),
  (105, .getfield 40, 108, 5, 4, 0, 0, 0, none, []),
  (108, .invokevirtual 149, 111, 0, 0, 0, 3, 0, (some mX3_count), []),
  (111, .ireturn, 112, 0, 0, 0, 0, 0, none, [])]
theorem oX5_about_6 : ∀ q ∈ tX5_about_6, hy_ok mX5_about q.1 q.2 = true := by decide +kernel
def tX5_about_7 : List (Nat × hyE) := [(112, .aload_n 0, 113, 0, 0, 0, 0, 0, none, []),
  (113, .getfield 10, 116, 5, 0, 0, 0, 0, none, []),
  (116, .invokevirtual 150, 119, 0, 0, 0, 2, 0, (some mX2_huskTotal), []),
  (119, .ireturn, 120, 0, 0, 0, 0, 0, none, []),
  (120, .aload_n 0, 121, 0, 0, 0, 0, 0, none, []),
  (121, .getfield 10, 124, 5, 0, 0, 0, 0, none, []),
  (124, .iconst 2, 125, 0, 0, 0, 0, 2, none, []),
  (125, .invokevirtual 153, 128, 0, 1, 0, 2, 0, (some mX2_countIn), [])]
theorem oX5_about_7 : ∀ q ∈ tX5_about_7, hy_ok mX5_about q.1 q.2 = true := by decide +kernel
def tX5_about_8 : List (Nat × hyE) := [(128, .ireturn, 129, 0, 0, 0, 0, 0, none, []),
  (129, .aload_n 0, 130, 0, 0, 0, 0, 0, none, []),
  (130, .getfield 10, 133, 5, 0, 0, 0, 0, none, []),
  (133, .iconst 3, 134, 0, 0, 0, 0, 3, none, []),
  (134, .invokevirtual 153, 137, 0, 1, 0, 2, 0, (some mX2_countIn), []),
  (137, .ireturn, 138, 0, 0, 0, 0, 0, none, []),
  (138, .iconst (-1), 139, 0, 0, 0, 0, (-1), none, []),
  (139, .ireturn, 140, 0, 0, 0, 0, 0, none, [])]
theorem oX5_about_8 : ∀ q ∈ tX5_about_8, hy_ok mX5_about q.1 q.2 = true := by decide +kernel
def tX5_about : hyT := [tX5_about_0, tX5_about_1, tX5_about_2, tX5_about_3, tX5_about_4, tX5_about_5, tX5_about_6, tX5_about_7, tX5_about_8]
theorem oX5_about : hy_tok mX5_about tX5_about := List.forall_mem_cons.mpr ⟨oX5_about_0, List.forall_mem_cons.mpr ⟨oX5_about_1, List.forall_mem_cons.mpr ⟨oX5_about_2, List.forall_mem_cons.mpr ⟨oX5_about_3, List.forall_mem_cons.mpr ⟨oX5_about_4, List.forall_mem_cons.mpr ⟨oX5_about_5, List.forall_mem_cons.mpr ⟨oX5_about_6, List.forall_mem_cons.mpr ⟨oX5_about_7, List.forall_mem_cons.mpr ⟨oX5_about_8, fun _ h => absurd h List.not_mem_nil⟩⟩⟩⟩⟩⟩⟩⟩⟩
def tX5_bringBackTheSure_0 : List (Nat × hyE) := [(0, .iconst 0, 1, 0, 0, 0, 0, 0, none, []),
  (1, .istore_n 1, 2, 1, 0, 0, 0, 0, none, []),
  (2, .iload_n 1, 3, 1, 0, 0, 0, 0, none, []),
  (3, .aload_n 0, 4, 0, 0, 0, 0, 0, none, []),
  (4, .getfield 19, 7, 5, 1, 0, 0, 0, none, []),
  (7, .invokevirtual 141, 10, 0, 0, 0, 0, 0, (some mX0_count), []),
  (10, .if_icmp .ge 24, 13, 34, 0, 0, 0, 0, none, []),
  (13, .aload_n 0, 14, 0, 0, 0, 0, 0, none, []),
  (14, .getfield 10, 17, 5, 0, 0, 0, 0, none, [])]
theorem oX5_bringBackTheSure_0 : ∀ q ∈ tX5_bringBackTheSure_0, hy_ok mX5_bringBackTheSure q.1 q.2 = true := by decide +kernel
def tX5_bringBackTheSure_1 : List (Nat × hyE) := [(17, .aload_n 0, 18, 0, 0, 0, 0, 0, none, []),
  (18, .getfield 19, 21, 5, 1, 0, 0, 0, none, []),
  (21, .iload_n 1, 22, 1, 0, 0, 0, 0, none, []),
  (22, .invokevirtual 82, 25, 0, 1, 0, 0, 0, (some mX0_sureNet), []),
  (25, .invokevirtual 156, 28, 0, 1, 0, 2, 0, (some mX2_comeBack), []),
  (28, .iinc 1 1, 31, 1, 0, 0, 0, 1, none, []),
  (31, .goto (-29), 34, 2, 0, 0, 0, 0, none, [])]
theorem oX5_bringBackTheSure_1 : ∀ q ∈ tX5_bringBackTheSure_1, hy_ok mX5_bringBackTheSure q.1 q.2 = true := by decide +kernel
def tX5_bringBackTheSure_2 : List (Nat × hyE) := [(34, .return_, 35, 0, 0, 0, 0, 0, none, [])]
theorem oX5_bringBackTheSure_2 : ∀ q ∈ tX5_bringBackTheSure_2, hy_ok mX5_bringBackTheSure q.1 q.2 = true := by decide +kernel
def tX5_bringBackTheSure : hyT := [tX5_bringBackTheSure_0, tX5_bringBackTheSure_1, tX5_bringBackTheSure_2]
theorem oX5_bringBackTheSure : hy_tok mX5_bringBackTheSure tX5_bringBackTheSure := List.forall_mem_cons.mpr ⟨oX5_bringBackTheSure_0, List.forall_mem_cons.mpr ⟨oX5_bringBackTheSure_1, List.forall_mem_cons.mpr ⟨oX5_bringBackTheSure_2, fun _ h => absurd h List.not_mem_nil⟩⟩⟩
def tX5_isMarks_0 : List (Nat × hyE) := [(0, .iload_n 0, 1, 0, 0, 0, 0, 0, none, []),
  (1, .iconst 0, 2, 0, 0, 0, 0, 0, none, []),
  (2, .sipush 255, 5, 0, 0, 0, 0, 255, none, []),
  (5, .invokestatic 160, 8, 1, 3, 0, 0, 0, (some mX5_within), []),
  (8, .ireturn, 9, 0, 0, 0, 0, 0, none, [])]
theorem oX5_isMarks_0 : ∀ q ∈ tX5_isMarks_0, hy_ok mX5_isMarks q.1 q.2 = true := by decide +kernel
def tX5_isMarks : hyT := [tX5_isMarks_0]
theorem oX5_isMarks : hy_tok mX5_isMarks tX5_isMarks := List.forall_mem_cons.mpr ⟨oX5_isMarks_0, fun _ h => absurd h List.not_mem_nil⟩
end
section
def tL_law_0 : List (Nat × hyE) := [(0, .new 7, 3, 5, 5, 0, 0, 0, none, []),
  (3, .dup, 4, 0, 0, 0, 0, 0, none, []),
  (4, .invokespecial 9, 7, 0, 0, 0, 0, 0, (some mX5_init), []),
  (7, .astore_n 1, 8, 1, 0, 0, 0, 0, none, []),
  (8, .new 10, 11, 6, 36, 0, 0, 0, none, []),
  (11, .dup, 12, 0, 0, 0, 0, 0, none, []),
  (12, .invokespecial 12, 15, 0, 0, 0, 0, 0, (some mX6_init), []),
  (15, .astore_n 2, 16, 2, 0, 0, 0, 0, none, [])]
theorem oL_law_0 : ∀ q ∈ tL_law_0, hy_ok mL_law q.1 q.2 = true := by decide +kernel
def tL_law_1 : List (Nat × hyE) := [(16, .iconst 0, 17, 0, 0, 0, 0, 0, none, []),
  (17, .istore_n 3, 18, 3, 0, 0, 0, 0, none, []),
  (18, .iload_n 3, 19, 3, 0, 0, 0, 0, none, []),
  (19, .aload_n 0, 20, 0, 0, 0, 0, 0, none, []),
  (20, .arraylength, 21, 0, 0, 0, 0, 0, none, []),
  (21, .iconst 5, 22, 0, 0, 0, 0, 5, none, []),
  (22, .isub, 23, 0, 0, 0, 0, 0, none, []),
  (23, .if_icmp .gt 804, 26, 827, 0, 0, 0, 0, none, []),
  (26, .aload_n 0, 27, 0, 0, 0, 0, 0, none, []),
  (27, .iload_n 3, 28, 3, 0, 0, 0, 0, none, []),
  (28, .iaload, 29, 0, 0, 0, 0, 0, none, []),
  (29, .bipush 31, 31, 0, 0, 0, 0, 31, none, []),
  (31, .iand, 32, 0, 0, 0, 0, 0, none, [])]
theorem oL_law_1 : ∀ q ∈ tL_law_1, hy_ok mL_law q.1 q.2 = true := by decide +kernel
def tL_law_2 : List (Nat × hyE) := [(32, .tableswitch 789 0 22 #[108, 141, 174, 227, 250, 273, 296, 329, 362, 395, 448, 471, 484, 517, 530, 563, 596, 609, 632, 645, 678, 717, 766], 140, 821, 0, 108, 0, 0, none, [(0, 140), (1, 173), (2, 206), (3, 259), (4, 282), (5, 305), (6, 328), (7, 361), (8, 394), (9, 427), (10, 480), (11, 503), (12, 516), (13, 549), (14, 562), (15, 595), (16, 628), (17, 641), (18, 664), (19, 677), (20, 710), (21, 749), (22, 798)])]
theorem oL_law_2 : ∀ q ∈ tL_law_2, hy_ok mL_law q.1 q.2 = true := by decide +kernel
def tL_law_3 : List (Nat × hyE) := []
theorem oL_law_3 : ∀ q ∈ tL_law_3, hy_ok mL_law q.1 q.2 = true := by decide +kernel
def tL_law_4 : List (Nat × hyE) := []
theorem oL_law_4 : ∀ q ∈ tL_law_4, hy_ok mL_law q.1 q.2 = true := by decide +kernel
def tL_law_5 : List (Nat × hyE) := []
theorem oL_law_5 : ∀ q ∈ tL_law_5, hy_ok mL_law q.1 q.2 = true := by decide +kernel
def tL_law_6 : List (Nat × hyE) := []
theorem oL_law_6 : ∀ q ∈ tL_law_6, hy_ok mL_law q.1 q.2 = true := by decide +kernel
def tL_law_7 : List (Nat × hyE) := []
theorem oL_law_7 : ∀ q ∈ tL_law_7, hy_ok mL_law q.1 q.2 = true := by decide +kernel
def tL_law_8 : List (Nat × hyE) := [(140, .aload_n 1, 141, 1, 0, 0, 0, 0, none, []),
  (141, .aload_n 0, 142, 0, 0, 0, 0, 0, none, []),
  (142, .iload_n 3, 143, 3, 0, 0, 0, 0, none, []),
  (143, .iconst 1, 144, 0, 0, 0, 0, 1, none, [])]
theorem oL_law_8 : ∀ q ∈ tL_law_8, hy_ok mL_law q.1 q.2 = true := by decide +kernel
def tL_law_9 : List (Nat × hyE) := [(144, .iadd, 145, 0, 0, 0, 0, 0, none, []),
  (145, .iaload, 146, 0, 0, 0, 0, 0, none, []),
  (146, .aload_n 0, 147, 0, 0, 0, 0, 0, none, []),
  (147, .iload_n 3, 148, 3, 0, 0, 0, 0, none, []),
  (148, .iconst 2, 149, 0, 0, 0, 0, 2, none, []),
  (149, .iadd, 150, 0, 0, 0, 0, 0, none, []),
  (150, .iaload, 151, 0, 0, 0, 0, 0, none, []),
  (151, .invokevirtual 13, 154, 0, 2, 0, 5, 0, (some mX5_salt), []),
  (154, .aload_n 2, 155, 2, 0, 0, 0, 0, none, []),
  (155, .aload_n 0, 156, 0, 0, 0, 0, 0, none, []),
  (156, .iload_n 3, 157, 3, 0, 0, 0, 0, none, []),
  (157, .iconst 1, 158, 0, 0, 0, 0, 1, none, []),
  (158, .iadd, 159, 0, 0, 0, 0, 0, none, []),
  (159, .iaload, 160, 0, 0, 0, 0, 0, none, [])]
theorem oL_law_9 : ∀ q ∈ tL_law_9, hy_ok mL_law q.1 q.2 = true := by decide +kernel
def tL_law_10 : List (Nat × hyE) := [(160, .aload_n 0, 161, 0, 0, 0, 0, 0, none, []),
  (161, .iload_n 3, 162, 3, 0, 0, 0, 0, none, []),
  (162, .iconst 2, 163, 0, 0, 0, 0, 2, none, []),
  (163, .iadd, 164, 0, 0, 0, 0, 0, none, []),
  (164, .iaload, 165, 0, 0, 0, 0, 0, none, []),
  (165, .invokevirtual 17, 168, 0, 2, 0, 6, 0, (some mX6_salt), []),
  (168, .if_icmp .eq 653, 171, 821, 0, 0, 0, 0, none, []),
  (171, .iconst 0, 172, 0, 0, 0, 0, 0, none, []),
  (172, .ireturn, 173, 0, 0, 0, 0, 0, none, []),
  (173, .aload_n 1, 174, 1, 0, 0, 0, 0, none, []),
  (174, .aload_n 0, 175, 0, 0, 0, 0, 0, none, []),
  (175, .iload_n 3, 176, 3, 0, 0, 0, 0, none, [])]
theorem oL_law_10 : ∀ q ∈ tL_law_10, hy_ok mL_law q.1 q.2 = true := by decide +kernel
def tL_law_11 : List (Nat × hyE) := [(176, .iconst 1, 177, 0, 0, 0, 0, 1, none, []),
  (177, .iadd, 178, 0, 0, 0, 0, 0, none, []),
  (178, .iaload, 179, 0, 0, 0, 0, 0, none, []),
  (179, .aload_n 0, 180, 0, 0, 0, 0, 0, none, []),
  (180, .iload_n 3, 181, 3, 0, 0, 0, 0, none, []),
  (181, .iconst 2, 182, 0, 0, 0, 0, 2, none, []),
  (182, .iadd, 183, 0, 0, 0, 0, 0, none, []),
  (183, .iaload, 184, 0, 0, 0, 0, 0, none, []),
  (184, .invokevirtual 18, 187, 0, 2, 0, 5, 0, (some mX5_ripens), []),
  (187, .aload_n 2, 188, 2, 0, 0, 0, 0, none, []),
  (188, .aload_n 0, 189, 0, 0, 0, 0, 0, none, []),
  (189, .iload_n 3, 190, 3, 0, 0, 0, 0, none, []),
  (190, .iconst 1, 191, 0, 0, 0, 0, 1, none, []),
  (191, .iadd, 192, 0, 0, 0, 0, 0, none, [])]
theorem oL_law_11 : ∀ q ∈ tL_law_11, hy_ok mL_law q.1 q.2 = true := by decide +kernel
def tL_law_12 : List (Nat × hyE) := [(192, .iaload, 193, 0, 0, 0, 0, 0, none, []),
  (193, .aload_n 0, 194, 0, 0, 0, 0, 0, none, []),
  (194, .iload_n 3, 195, 3, 0, 0, 0, 0, none, []),
  (195, .iconst 2, 196, 0, 0, 0, 0, 2, none, []),
  (196, .iadd, 197, 0, 0, 0, 0, 0, none, []),
  (197, .iaload, 198, 0, 0, 0, 0, 0, none, []),
  (198, .invokevirtual 21, 201, 0, 2, 0, 6, 0, (some mX6_ripens), []),
  (201, .if_icmp .eq 620, 204, 821, 0, 0, 0, 0, none, []),
  (204, .iconst 0, 205, 0, 0, 0, 0, 0, none, []),
  (205, .ireturn, 206, 0, 0, 0, 0, 0, none, []),
  (206, .aload_n 1, 207, 1, 0, 0, 0, 0, none, []),
  (207, .aload_n 0, 208, 0, 0, 0, 0, 0, none, [])]
theorem oL_law_12 : ∀ q ∈ tL_law_12, hy_ok mL_law q.1 q.2 = true := by decide +kernel
def tL_law_13 : List (Nat × hyE) := [(208, .iload_n 3, 209, 3, 0, 0, 0, 0, none, []),
  (209, .iconst 1, 210, 0, 0, 0, 0, 1, none, []),
  (210, .iadd, 211, 0, 0, 0, 0, 0, none, []),
  (211, .iaload, 212, 0, 0, 0, 0, 0, none, []),
  (212, .aload_n 0, 213, 0, 0, 0, 0, 0, none, []),
  (213, .iload_n 3, 214, 3, 0, 0, 0, 0, none, []),
  (214, .iconst 2, 215, 0, 0, 0, 0, 2, none, []),
  (215, .iadd, 216, 0, 0, 0, 0, 0, none, []),
  (216, .iaload, 217, 0, 0, 0, 0, 0, none, []),
  (217, .aload_n 0, 218, 0, 0, 0, 0, 0, none, []),
  (218, .iload_n 3, 219, 3, 0, 0, 0, 0, none, []),
  (219, .iconst 3, 220, 0, 0, 0, 0, 3, none, []),
  (220, .iadd, 221, 0, 0, 0, 0, 0, none, []),
  (221, .iaload, 222, 0, 0, 0, 0, 0, none, []),
  (222, .aload_n 0, 223, 0, 0, 0, 0, 0, none, []),
  (223, .iload_n 3, 224, 3, 0, 0, 0, 0, none, [])]
theorem oL_law_13 : ∀ q ∈ tL_law_13, hy_ok mL_law q.1 q.2 = true := by decide +kernel
def tL_law_14 : List (Nat × hyE) := [(224, .iconst 4, 225, 0, 0, 0, 0, 4, none, []),
  (225, .iadd, 226, 0, 0, 0, 0, 0, none, []),
  (226, .iaload, 227, 0, 0, 0, 0, 0, none, []),
  (227, .invokevirtual 22, 230, 0, 4, 0, 5, 0, (some mX5_net), []),
  (230, .aload_n 2, 231, 2, 0, 0, 0, 0, none, []),
  (231, .aload_n 0, 232, 0, 0, 0, 0, 0, none, []),
  (232, .iload_n 3, 233, 3, 0, 0, 0, 0, none, []),
  (233, .iconst 1, 234, 0, 0, 0, 0, 1, none, []),
  (234, .iadd, 235, 0, 0, 0, 0, 0, none, []),
  (235, .iaload, 236, 0, 0, 0, 0, 0, none, []),
  (236, .aload_n 0, 237, 0, 0, 0, 0, 0, none, []),
  (237, .iload_n 3, 238, 3, 0, 0, 0, 0, none, []),
  (238, .iconst 2, 239, 0, 0, 0, 0, 2, none, []),
  (239, .iadd, 240, 0, 0, 0, 0, 0, none, [])]
theorem oL_law_14 : ∀ q ∈ tL_law_14, hy_ok mL_law q.1 q.2 = true := by decide +kernel
def tL_law_15 : List (Nat × hyE) := [(240, .iaload, 241, 0, 0, 0, 0, 0, none, []),
  (241, .aload_n 0, 242, 0, 0, 0, 0, 0, none, []),
  (242, .iload_n 3, 243, 3, 0, 0, 0, 0, none, []),
  (243, .iconst 3, 244, 0, 0, 0, 0, 3, none, []),
  (244, .iadd, 245, 0, 0, 0, 0, 0, none, []),
  (245, .iaload, 246, 0, 0, 0, 0, 0, none, []),
  (246, .aload_n 0, 247, 0, 0, 0, 0, 0, none, []),
  (247, .iload_n 3, 248, 3, 0, 0, 0, 0, none, []),
  (248, .iconst 4, 249, 0, 0, 0, 0, 4, none, []),
  (249, .iadd, 250, 0, 0, 0, 0, 0, none, []),
  (250, .iaload, 251, 0, 0, 0, 0, 0, none, []),
  (251, .invokevirtual 26, 254, 0, 4, 0, 6, 0, (some mX6_net), []),
  (254, .if_icmp .eq 567, 257, 821, 0, 0, 0, 0, none, [])]
theorem oL_law_15 : ∀ q ∈ tL_law_15, hy_ok mL_law q.1 q.2 = true := by decide +kernel
def tL_law_16 : List (Nat × hyE) := [(257, .iconst 0, 258, 0, 0, 0, 0, 0, none, []),
  (258, .ireturn, 259, 0, 0, 0, 0, 0, none, []),
  (259, .aload_n 1, 260, 1, 0, 0, 0, 0, none, []),
  (260, .aload_n 0, 261, 0, 0, 0, 0, 0, none, []),
  (261, .iload_n 3, 262, 3, 0, 0, 0, 0, none, []),
  (262, .iconst 1, 263, 0, 0, 0, 0, 1, none, []),
  (263, .iadd, 264, 0, 0, 0, 0, 0, none, []),
  (264, .iaload, 265, 0, 0, 0, 0, 0, none, []),
  (265, .invokevirtual 27, 268, 0, 1, 0, 5, 0, (some mX5_weeks), []),
  (268, .aload_n 2, 269, 2, 0, 0, 0, 0, none, []),
  (269, .aload_n 0, 270, 0, 0, 0, 0, 0, none, []),
  (270, .iload_n 3, 271, 3, 0, 0, 0, 0, none, []),
  (271, .iconst 1, 272, 0, 0, 0, 0, 1, none, [])]
theorem oL_law_16 : ∀ q ∈ tL_law_16, hy_ok mL_law q.1 q.2 = true := by decide +kernel
def tL_law_17 : List (Nat × hyE) := [(272, .iadd, 273, 0, 0, 0, 0, 0, none, []),
  (273, .iaload, 274, 0, 0, 0, 0, 0, none, []),
  (274, .invokevirtual 31, 277, 0, 1, 0, 6, 0, (some mX6_weeks), []),
  (277, .if_icmp .eq 544, 280, 821, 0, 0, 0, 0, none, []),
  (280, .iconst 0, 281, 0, 0, 0, 0, 0, none, []),
  (281, .ireturn, 282, 0, 0, 0, 0, 0, none, []),
  (282, .aload_n 1, 283, 1, 0, 0, 0, 0, none, []),
  (283, .aload_n 0, 284, 0, 0, 0, 0, 0, none, []),
  (284, .iload_n 3, 285, 3, 0, 0, 0, 0, none, []),
  (285, .iconst 1, 286, 0, 0, 0, 0, 1, none, []),
  (286, .iadd, 287, 0, 0, 0, 0, 0, none, []),
  (287, .iaload, 288, 0, 0, 0, 0, 0, none, [])]
theorem oL_law_17 : ∀ q ∈ tL_law_17, hy_ok mL_law q.1 q.2 = true := by decide +kernel
def tL_law_18 : List (Nat × hyE) := [(288, .invokevirtual 32, 291, 0, 1, 0, 5, 0, (some mX5_pull), []),
  (291, .aload_n 2, 292, 2, 0, 0, 0, 0, none, []),
  (292, .aload_n 0, 293, 0, 0, 0, 0, 0, none, []),
  (293, .iload_n 3, 294, 3, 0, 0, 0, 0, none, []),
  (294, .iconst 1, 295, 0, 0, 0, 0, 1, none, []),
  (295, .iadd, 296, 0, 0, 0, 0, 0, none, []),
  (296, .iaload, 297, 0, 0, 0, 0, 0, none, []),
  (297, .invokevirtual 35, 300, 0, 1, 0, 6, 0, (some mX6_pull), []),
  (300, .if_icmp .eq 521, 303, 821, 0, 0, 0, 0, none, []),
  (303, .iconst 0, 304, 0, 0, 0, 0, 0, none, [])]
theorem oL_law_18 : ∀ q ∈ tL_law_18, hy_ok mL_law q.1 q.2 = true := by decide +kernel
def tL_law_19 : List (Nat × hyE) := [(304, .ireturn, 305, 0, 0, 0, 0, 0, none, []),
  (305, .aload_n 1, 306, 1, 0, 0, 0, 0, none, []),
  (306, .aload_n 0, 307, 0, 0, 0, 0, 0, none, []),
  (307, .iload_n 3, 308, 3, 0, 0, 0, 0, none, []),
  (308, .iconst 1, 309, 0, 0, 0, 0, 1, none, []),
  (309, .iadd, 310, 0, 0, 0, 0, 0, none, []),
  (310, .iaload, 311, 0, 0, 0, 0, 0, none, []),
  (311, .invokevirtual 36, 314, 0, 1, 0, 5, 0, (some mX5_flood), []),
  (314, .aload_n 2, 315, 2, 0, 0, 0, 0, none, []),
  (315, .aload_n 0, 316, 0, 0, 0, 0, 0, none, []),
  (316, .iload_n 3, 317, 3, 0, 0, 0, 0, none, []),
  (317, .iconst 1, 318, 0, 0, 0, 0, 1, none, []),
  (318, .iadd, 319, 0, 0, 0, 0, 0, none, []),
  (319, .iaload, 320, 0, 0, 0, 0, 0, none, [])]
theorem oL_law_19 : ∀ q ∈ tL_law_19, hy_ok mL_law q.1 q.2 = true := by decide +kernel
def tL_law_20 : List (Nat × hyE) := [(320, .invokevirtual 39, 323, 0, 1, 0, 6, 0, (some mX6_flood), []),
  (323, .if_icmp .eq 498, 326, 821, 0, 0, 0, 0, none, []),
  (326, .iconst 0, 327, 0, 0, 0, 0, 0, none, []),
  (327, .ireturn, 328, 0, 0, 0, 0, 0, none, []),
  (328, .aload_n 1, 329, 1, 0, 0, 0, 0, none, []),
  (329, .aload_n 0, 330, 0, 0, 0, 0, 0, none, []),
  (330, .iload_n 3, 331, 3, 0, 0, 0, 0, none, []),
  (331, .iconst 1, 332, 0, 0, 0, 0, 1, none, []),
  (332, .iadd, 333, 0, 0, 0, 0, 0, none, []),
  (333, .iaload, 334, 0, 0, 0, 0, 0, none, []),
  (334, .aload_n 0, 335, 0, 0, 0, 0, 0, none, []),
  (335, .iload_n 3, 336, 3, 0, 0, 0, 0, none, [])]
theorem oL_law_20 : ∀ q ∈ tL_law_20, hy_ok mL_law q.1 q.2 = true := by decide +kernel
def tL_law_21 : List (Nat × hyE) := [(336, .iconst 2, 337, 0, 0, 0, 0, 2, none, []),
  (337, .iadd, 338, 0, 0, 0, 0, 0, none, []),
  (338, .iaload, 339, 0, 0, 0, 0, 0, none, []),
  (339, .invokevirtual 40, 342, 0, 2, 0, 5, 0, (some mX5_find), []),
  (342, .aload_n 2, 343, 2, 0, 0, 0, 0, none, []),
  (343, .aload_n 0, 344, 0, 0, 0, 0, 0, none, []),
  (344, .iload_n 3, 345, 3, 0, 0, 0, 0, none, []),
  (345, .iconst 1, 346, 0, 0, 0, 0, 1, none, []),
  (346, .iadd, 347, 0, 0, 0, 0, 0, none, []),
  (347, .iaload, 348, 0, 0, 0, 0, 0, none, []),
  (348, .aload_n 0, 349, 0, 0, 0, 0, 0, none, []),
  (349, .iload_n 3, 350, 3, 0, 0, 0, 0, none, []),
  (350, .iconst 2, 351, 0, 0, 0, 0, 2, none, []),
  (351, .iadd, 352, 0, 0, 0, 0, 0, none, [])]
theorem oL_law_21 : ∀ q ∈ tL_law_21, hy_ok mL_law q.1 q.2 = true := by decide +kernel
def tL_law_22 : List (Nat × hyE) := [(352, .iaload, 353, 0, 0, 0, 0, 0, none, []),
  (353, .invokevirtual 44, 356, 0, 2, 0, 6, 0, (some mX6_find), []),
  (356, .if_icmp .eq 465, 359, 821, 0, 0, 0, 0, none, []),
  (359, .iconst 0, 360, 0, 0, 0, 0, 0, none, []),
  (360, .ireturn, 361, 0, 0, 0, 0, 0, none, []),
  (361, .aload_n 1, 362, 1, 0, 0, 0, 0, none, []),
  (362, .aload_n 0, 363, 0, 0, 0, 0, 0, none, []),
  (363, .iload_n 3, 364, 3, 0, 0, 0, 0, none, []),
  (364, .iconst 1, 365, 0, 0, 0, 0, 1, none, []),
  (365, .iadd, 366, 0, 0, 0, 0, 0, none, []),
  (366, .iaload, 367, 0, 0, 0, 0, 0, none, []),
  (367, .aload_n 0, 368, 0, 0, 0, 0, 0, none, [])]
theorem oL_law_22 : ∀ q ∈ tL_law_22, hy_ok mL_law q.1 q.2 = true := by decide +kernel
def tL_law_23 : List (Nat × hyE) := [(368, .iload_n 3, 369, 3, 0, 0, 0, 0, none, []),
  (369, .iconst 2, 370, 0, 0, 0, 0, 2, none, []),
  (370, .iadd, 371, 0, 0, 0, 0, 0, none, []),
  (371, .iaload, 372, 0, 0, 0, 0, 0, none, []),
  (372, .invokevirtual 45, 375, 0, 2, 0, 5, 0, (some mX5_found), []),
  (375, .aload_n 2, 376, 2, 0, 0, 0, 0, none, []),
  (376, .aload_n 0, 377, 0, 0, 0, 0, 0, none, []),
  (377, .iload_n 3, 378, 3, 0, 0, 0, 0, none, []),
  (378, .iconst 1, 379, 0, 0, 0, 0, 1, none, []),
  (379, .iadd, 380, 0, 0, 0, 0, 0, none, []),
  (380, .iaload, 381, 0, 0, 0, 0, 0, none, []),
  (381, .aload_n 0, 382, 0, 0, 0, 0, 0, none, []),
  (382, .iload_n 3, 383, 3, 0, 0, 0, 0, none, []),
  (383, .iconst 2, 384, 0, 0, 0, 0, 2, none, [])]
theorem oL_law_23 : ∀ q ∈ tL_law_23, hy_ok mL_law q.1 q.2 = true := by decide +kernel
def tL_law_24 : List (Nat × hyE) := [(384, .iadd, 385, 0, 0, 0, 0, 0, none, []),
  (385, .iaload, 386, 0, 0, 0, 0, 0, none, []),
  (386, .invokevirtual 48, 389, 0, 2, 0, 6, 0, (some mX6_found), []),
  (389, .if_icmp .eq 432, 392, 821, 0, 0, 0, 0, none, []),
  (392, .iconst 0, 393, 0, 0, 0, 0, 0, none, []),
  (393, .ireturn, 394, 0, 0, 0, 0, 0, none, []),
  (394, .aload_n 1, 395, 1, 0, 0, 0, 0, none, []),
  (395, .aload_n 0, 396, 0, 0, 0, 0, 0, none, []),
  (396, .iload_n 3, 397, 3, 0, 0, 0, 0, none, []),
  (397, .iconst 1, 398, 0, 0, 0, 0, 1, none, []),
  (398, .iadd, 399, 0, 0, 0, 0, 0, none, []),
  (399, .iaload, 400, 0, 0, 0, 0, 0, none, [])]
theorem oL_law_24 : ∀ q ∈ tL_law_24, hy_ok mL_law q.1 q.2 = true := by decide +kernel
def tL_law_25 : List (Nat × hyE) := [(400, .aload_n 0, 401, 0, 0, 0, 0, 0, none, []),
  (401, .iload_n 3, 402, 3, 0, 0, 0, 0, none, []),
  (402, .iconst 2, 403, 0, 0, 0, 0, 2, none, []),
  (403, .iadd, 404, 0, 0, 0, 0, 0, none, []),
  (404, .iaload, 405, 0, 0, 0, 0, 0, none, []),
  (405, .invokevirtual 49, 408, 0, 2, 0, 5, 0, (some mX5_netOf), []),
  (408, .aload_n 2, 409, 2, 0, 0, 0, 0, none, []),
  (409, .aload_n 0, 410, 0, 0, 0, 0, 0, none, []),
  (410, .iload_n 3, 411, 3, 0, 0, 0, 0, none, []),
  (411, .iconst 1, 412, 0, 0, 0, 0, 1, none, []),
  (412, .iadd, 413, 0, 0, 0, 0, 0, none, []),
  (413, .iaload, 414, 0, 0, 0, 0, 0, none, []),
  (414, .aload_n 0, 415, 0, 0, 0, 0, 0, none, []),
  (415, .iload_n 3, 416, 3, 0, 0, 0, 0, none, [])]
theorem oL_law_25 : ∀ q ∈ tL_law_25, hy_ok mL_law q.1 q.2 = true := by decide +kernel
def tL_law_26 : List (Nat × hyE) := [(416, .iconst 2, 417, 0, 0, 0, 0, 2, none, []),
  (417, .iadd, 418, 0, 0, 0, 0, 0, none, []),
  (418, .iaload, 419, 0, 0, 0, 0, 0, none, []),
  (419, .invokevirtual 52, 422, 0, 2, 0, 6, 0, (some mX6_netOf), []),
  (422, .if_icmp .eq 399, 425, 821, 0, 0, 0, 0, none, []),
  (425, .iconst 0, 426, 0, 0, 0, 0, 0, none, []),
  (426, .ireturn, 427, 0, 0, 0, 0, 0, none, []),
  (427, .aload_n 1, 428, 1, 0, 0, 0, 0, none, []),
  (428, .aload_n 0, 429, 0, 0, 0, 0, 0, none, []),
  (429, .iload_n 3, 430, 3, 0, 0, 0, 0, none, []),
  (430, .iconst 1, 431, 0, 0, 0, 0, 1, none, []),
  (431, .iadd, 432, 0, 0, 0, 0, 0, none, [])]
theorem oL_law_26 : ∀ q ∈ tL_law_26, hy_ok mL_law q.1 q.2 = true := by decide +kernel
def tL_law_27 : List (Nat × hyE) := [(432, .iaload, 433, 0, 0, 0, 0, 0, none, []),
  (433, .aload_n 0, 434, 0, 0, 0, 0, 0, none, []),
  (434, .iload_n 3, 435, 3, 0, 0, 0, 0, none, []),
  (435, .iconst 2, 436, 0, 0, 0, 0, 2, none, []),
  (436, .iadd, 437, 0, 0, 0, 0, 0, none, []),
  (437, .iaload, 438, 0, 0, 0, 0, 0, none, []),
  (438, .aload_n 0, 439, 0, 0, 0, 0, 0, none, []),
  (439, .iload_n 3, 440, 3, 0, 0, 0, 0, none, []),
  (440, .iconst 3, 441, 0, 0, 0, 0, 3, none, []),
  (441, .iadd, 442, 0, 0, 0, 0, 0, none, []),
  (442, .iaload, 443, 0, 0, 0, 0, 0, none, []),
  (443, .aload_n 0, 444, 0, 0, 0, 0, 0, none, []),
  (444, .iload_n 3, 445, 3, 0, 0, 0, 0, none, []),
  (445, .iconst 4, 446, 0, 0, 0, 0, 4, none, []),
  (446, .iadd, 447, 0, 0, 0, 0, 0, none, []),
  (447, .iaload, 448, 0, 0, 0, 0, 0, none, [])]
theorem oL_law_27 : ∀ q ∈ tL_law_27, hy_ok mL_law q.1 q.2 = true := by decide +kernel
def tL_law_28 : List (Nat × hyE) := [(448, .invokevirtual 53, 451, 0, 4, 0, 5, 0, (some mX5_order), []),
  (451, .aload_n 2, 452, 2, 0, 0, 0, 0, none, []),
  (452, .aload_n 0, 453, 0, 0, 0, 0, 0, none, []),
  (453, .iload_n 3, 454, 3, 0, 0, 0, 0, none, []),
  (454, .iconst 1, 455, 0, 0, 0, 0, 1, none, []),
  (455, .iadd, 456, 0, 0, 0, 0, 0, none, []),
  (456, .iaload, 457, 0, 0, 0, 0, 0, none, []),
  (457, .aload_n 0, 458, 0, 0, 0, 0, 0, none, []),
  (458, .iload_n 3, 459, 3, 0, 0, 0, 0, none, []),
  (459, .iconst 2, 460, 0, 0, 0, 0, 2, none, []),
  (460, .iadd, 461, 0, 0, 0, 0, 0, none, []),
  (461, .iaload, 462, 0, 0, 0, 0, 0, none, []),
  (462, .aload_n 0, 463, 0, 0, 0, 0, 0, none, []),
  (463, .iload_n 3, 464, 3, 0, 0, 0, 0, none, [])]
theorem oL_law_28 : ∀ q ∈ tL_law_28, hy_ok mL_law q.1 q.2 = true := by decide +kernel
def tL_law_29 : List (Nat × hyE) := [(464, .iconst 3, 465, 0, 0, 0, 0, 3, none, []),
  (465, .iadd, 466, 0, 0, 0, 0, 0, none, []),
  (466, .iaload, 467, 0, 0, 0, 0, 0, none, []),
  (467, .aload_n 0, 468, 0, 0, 0, 0, 0, none, []),
  (468, .iload_n 3, 469, 3, 0, 0, 0, 0, none, []),
  (469, .iconst 4, 470, 0, 0, 0, 0, 4, none, []),
  (470, .iadd, 471, 0, 0, 0, 0, 0, none, []),
  (471, .iaload, 472, 0, 0, 0, 0, 0, none, []),
  (472, .invokevirtual 56, 475, 0, 4, 0, 6, 0, (some mX6_order), []),
  (475, .if_icmp .eq 346, 478, 821, 0, 0, 0, 0, none, []),
  (478, .iconst 0, 479, 0, 0, 0, 0, 0, none, []),
  (479, .ireturn, 480, 0, 0, 0, 0, 0, none, [])]
theorem oL_law_29 : ∀ q ∈ tL_law_29, hy_ok mL_law q.1 q.2 = true := by decide +kernel
def tL_law_30 : List (Nat × hyE) := [(480, .aload_n 1, 481, 1, 0, 0, 0, 0, none, []),
  (481, .aload_n 0, 482, 0, 0, 0, 0, 0, none, []),
  (482, .iload_n 3, 483, 3, 0, 0, 0, 0, none, []),
  (483, .iconst 1, 484, 0, 0, 0, 0, 1, none, []),
  (484, .iadd, 485, 0, 0, 0, 0, 0, none, []),
  (485, .iaload, 486, 0, 0, 0, 0, 0, none, []),
  (486, .invokevirtual 57, 489, 0, 1, 0, 5, 0, (some mX5_change), []),
  (489, .aload_n 2, 490, 2, 0, 0, 0, 0, none, []),
  (490, .aload_n 0, 491, 0, 0, 0, 0, 0, none, []),
  (491, .iload_n 3, 492, 3, 0, 0, 0, 0, none, []),
  (492, .iconst 1, 493, 0, 0, 0, 0, 1, none, []),
  (493, .iadd, 494, 0, 0, 0, 0, 0, none, []),
  (494, .iaload, 495, 0, 0, 0, 0, 0, none, []),
  (495, .invokevirtual 61, 498, 0, 1, 0, 6, 0, (some mX6_change), [])]
theorem oL_law_30 : ∀ q ∈ tL_law_30, hy_ok mL_law q.1 q.2 = true := by decide +kernel
def tL_law_31 : List (Nat × hyE) := [(498, .if_icmp .eq 323, 501, 821, 0, 0, 0, 0, none, []),
  (501, .iconst 0, 502, 0, 0, 0, 0, 0, none, []),
  (502, .ireturn, 503, 0, 0, 0, 0, 0, none, []),
  (503, .aload_n 1, 504, 1, 0, 0, 0, 0, none, []),
  (504, .invokevirtual 62, 507, 0, 0, 0, 5, 0, (some mX5_late), []),
  (507, .aload_n 2, 508, 2, 0, 0, 0, 0, none, []),
  (508, .invokevirtual 66, 511, 0, 0, 0, 6, 0, (some mX6_late), []),
  (511, .if_icmp .eq 310, 514, 821, 0, 0, 0, 0, none, [])]
theorem oL_law_31 : ∀ q ∈ tL_law_31, hy_ok mL_law q.1 q.2 = true := by decide +kernel
def tL_law_32 : List (Nat × hyE) := [(514, .iconst 0, 515, 0, 0, 0, 0, 0, none, []),
  (515, .ireturn, 516, 0, 0, 0, 0, 0, none, []),
  (516, .aload_n 1, 517, 1, 0, 0, 0, 0, none, []),
  (517, .aload_n 0, 518, 0, 0, 0, 0, 0, none, []),
  (518, .iload_n 3, 519, 3, 0, 0, 0, 0, none, []),
  (519, .iconst 1, 520, 0, 0, 0, 0, 1, none, []),
  (520, .iadd, 521, 0, 0, 0, 0, 0, none, []),
  (521, .iaload, 522, 0, 0, 0, 0, 0, none, []),
  (522, .aload_n 0, 523, 0, 0, 0, 0, 0, none, []),
  (523, .iload_n 3, 524, 3, 0, 0, 0, 0, none, []),
  (524, .iconst 2, 525, 0, 0, 0, 0, 2, none, []),
  (525, .iadd, 526, 0, 0, 0, 0, 0, none, []),
  (526, .iaload, 527, 0, 0, 0, 0, 0, none, []),
  (527, .invokevirtual 67, 530, 0, 2, 0, 5, 0, (some mX5_spun), [])]
theorem oL_law_32 : ∀ q ∈ tL_law_32, hy_ok mL_law q.1 q.2 = true := by decide +kernel
def tL_law_33 : List (Nat × hyE) := [(530, .aload_n 2, 531, 2, 0, 0, 0, 0, none, []),
  (531, .aload_n 0, 532, 0, 0, 0, 0, 0, none, []),
  (532, .iload_n 3, 533, 3, 0, 0, 0, 0, none, []),
  (533, .iconst 1, 534, 0, 0, 0, 0, 1, none, []),
  (534, .iadd, 535, 0, 0, 0, 0, 0, none, []),
  (535, .iaload, 536, 0, 0, 0, 0, 0, none, []),
  (536, .aload_n 0, 537, 0, 0, 0, 0, 0, none, []),
  (537, .iload_n 3, 538, 3, 0, 0, 0, 0, none, []),
  (538, .iconst 2, 539, 0, 0, 0, 0, 2, none, []),
  (539, .iadd, 540, 0, 0, 0, 0, 0, none, []),
  (540, .iaload, 541, 0, 0, 0, 0, 0, none, []),
  (541, .invokevirtual 70, 544, 0, 2, 0, 6, 0, (some mX6_spun), [])]
theorem oL_law_33 : ∀ q ∈ tL_law_33, hy_ok mL_law q.1 q.2 = true := by decide +kernel
def tL_law_34 : List (Nat × hyE) := [(544, .if_icmp .eq 277, 547, 821, 0, 0, 0, 0, none, []),
  (547, .iconst 0, 548, 0, 0, 0, 0, 0, none, []),
  (548, .ireturn, 549, 0, 0, 0, 0, 0, none, []),
  (549, .aload_n 1, 550, 1, 0, 0, 0, 0, none, []),
  (550, .invokevirtual 71, 553, 0, 0, 0, 5, 0, (some mX5_clear), []),
  (553, .aload_n 2, 554, 2, 0, 0, 0, 0, none, []),
  (554, .invokevirtual 74, 557, 0, 0, 0, 6, 0, (some mX6_clear), []),
  (557, .if_icmp .eq 264, 560, 821, 0, 0, 0, 0, none, [])]
theorem oL_law_34 : ∀ q ∈ tL_law_34, hy_ok mL_law q.1 q.2 = true := by decide +kernel
def tL_law_35 : List (Nat × hyE) := [(560, .iconst 0, 561, 0, 0, 0, 0, 0, none, []),
  (561, .ireturn, 562, 0, 0, 0, 0, 0, none, []),
  (562, .aload_n 1, 563, 1, 0, 0, 0, 0, none, []),
  (563, .aload_n 0, 564, 0, 0, 0, 0, 0, none, []),
  (564, .iload_n 3, 565, 3, 0, 0, 0, 0, none, []),
  (565, .iconst 1, 566, 0, 0, 0, 0, 1, none, []),
  (566, .iadd, 567, 0, 0, 0, 0, 0, none, []),
  (567, .iaload, 568, 0, 0, 0, 0, 0, none, []),
  (568, .aload_n 0, 569, 0, 0, 0, 0, 0, none, []),
  (569, .iload_n 3, 570, 3, 0, 0, 0, 0, none, []),
  (570, .iconst 2, 571, 0, 0, 0, 0, 2, none, []),
  (571, .iadd, 572, 0, 0, 0, 0, 0, none, []),
  (572, .iaload, 573, 0, 0, 0, 0, 0, none, []),
  (573, .invokevirtual 75, 576, 0, 2, 0, 5, 0, (some mX5_roll), [])]
theorem oL_law_35 : ∀ q ∈ tL_law_35, hy_ok mL_law q.1 q.2 = true := by decide +kernel
def tL_law_36 : List (Nat × hyE) := [(576, .aload_n 2, 577, 2, 0, 0, 0, 0, none, []),
  (577, .aload_n 0, 578, 0, 0, 0, 0, 0, none, []),
  (578, .iload_n 3, 579, 3, 0, 0, 0, 0, none, []),
  (579, .iconst 1, 580, 0, 0, 0, 0, 1, none, []),
  (580, .iadd, 581, 0, 0, 0, 0, 0, none, []),
  (581, .iaload, 582, 0, 0, 0, 0, 0, none, []),
  (582, .aload_n 0, 583, 0, 0, 0, 0, 0, none, []),
  (583, .iload_n 3, 584, 3, 0, 0, 0, 0, none, []),
  (584, .iconst 2, 585, 0, 0, 0, 0, 2, none, []),
  (585, .iadd, 586, 0, 0, 0, 0, 0, none, []),
  (586, .iaload, 587, 0, 0, 0, 0, 0, none, []),
  (587, .invokevirtual 78, 590, 0, 2, 0, 6, 0, (some mX6_roll), []),
  (590, .if_icmp .eq 231, 593, 821, 0, 0, 0, 0, none, [])]
theorem oL_law_36 : ∀ q ∈ tL_law_36, hy_ok mL_law q.1 q.2 = true := by decide +kernel
def tL_law_37 : List (Nat × hyE) := [(593, .iconst 0, 594, 0, 0, 0, 0, 0, none, []),
  (594, .ireturn, 595, 0, 0, 0, 0, 0, none, []),
  (595, .aload_n 1, 596, 1, 0, 0, 0, 0, none, []),
  (596, .aload_n 0, 597, 0, 0, 0, 0, 0, none, []),
  (597, .iload_n 3, 598, 3, 0, 0, 0, 0, none, []),
  (598, .iconst 1, 599, 0, 0, 0, 0, 1, none, []),
  (599, .iadd, 600, 0, 0, 0, 0, 0, none, []),
  (600, .iaload, 601, 0, 0, 0, 0, 0, none, []),
  (601, .aload_n 0, 602, 0, 0, 0, 0, 0, none, []),
  (602, .iload_n 3, 603, 3, 0, 0, 0, 0, none, []),
  (603, .iconst 2, 604, 0, 0, 0, 0, 2, none, []),
  (604, .iadd, 605, 0, 0, 0, 0, 0, none, []),
  (605, .iaload, 606, 0, 0, 0, 0, 0, none, []),
  (606, .invokevirtual 79, 609, 0, 2, 0, 5, 0, (some mX5_cut), [])]
theorem oL_law_37 : ∀ q ∈ tL_law_37, hy_ok mL_law q.1 q.2 = true := by decide +kernel
def tL_law_38 : List (Nat × hyE) := [(609, .aload_n 2, 610, 2, 0, 0, 0, 0, none, []),
  (610, .aload_n 0, 611, 0, 0, 0, 0, 0, none, []),
  (611, .iload_n 3, 612, 3, 0, 0, 0, 0, none, []),
  (612, .iconst 1, 613, 0, 0, 0, 0, 1, none, []),
  (613, .iadd, 614, 0, 0, 0, 0, 0, none, []),
  (614, .iaload, 615, 0, 0, 0, 0, 0, none, []),
  (615, .aload_n 0, 616, 0, 0, 0, 0, 0, none, []),
  (616, .iload_n 3, 617, 3, 0, 0, 0, 0, none, []),
  (617, .iconst 2, 618, 0, 0, 0, 0, 2, none, []),
  (618, .iadd, 619, 0, 0, 0, 0, 0, none, []),
  (619, .iaload, 620, 0, 0, 0, 0, 0, none, []),
  (620, .invokevirtual 82, 623, 0, 2, 0, 6, 0, (some mX6_cut), []),
  (623, .if_icmp .eq 198, 626, 821, 0, 0, 0, 0, none, [])]
theorem oL_law_38 : ∀ q ∈ tL_law_38, hy_ok mL_law q.1 q.2 = true := by decide +kernel
def tL_law_39 : List (Nat × hyE) := [(626, .iconst 0, 627, 0, 0, 0, 0, 0, none, []),
  (627, .ireturn, 628, 0, 0, 0, 0, 0, none, []),
  (628, .aload_n 1, 629, 1, 0, 0, 0, 0, none, []),
  (629, .invokevirtual 83, 632, 0, 0, 0, 5, 0, (some mX5_opened), []),
  (632, .aload_n 2, 633, 2, 0, 0, 0, 0, none, []),
  (633, .invokevirtual 86, 636, 0, 0, 0, 6, 0, (some mX6_opened), []),
  (636, .if_icmp .eq 185, 639, 821, 0, 0, 0, 0, none, []),
  (639, .iconst 0, 640, 0, 0, 0, 0, 0, none, [])]
theorem oL_law_39 : ∀ q ∈ tL_law_39, hy_ok mL_law q.1 q.2 = true := by decide +kernel
def tL_law_40 : List (Nat × hyE) := [(640, .ireturn, 641, 0, 0, 0, 0, 0, none, []),
  (641, .aload_n 1, 642, 1, 0, 0, 0, 0, none, []),
  (642, .aload_n 0, 643, 0, 0, 0, 0, 0, none, []),
  (643, .iload_n 3, 644, 3, 0, 0, 0, 0, none, []),
  (644, .iconst 1, 645, 0, 0, 0, 0, 1, none, []),
  (645, .iadd, 646, 0, 0, 0, 0, 0, none, []),
  (646, .iaload, 647, 0, 0, 0, 0, 0, none, []),
  (647, .invokevirtual 87, 650, 0, 1, 0, 5, 0, (some mX5_from), []),
  (650, .aload_n 2, 651, 2, 0, 0, 0, 0, none, []),
  (651, .aload_n 0, 652, 0, 0, 0, 0, 0, none, []),
  (652, .iload_n 3, 653, 3, 0, 0, 0, 0, none, []),
  (653, .iconst 1, 654, 0, 0, 0, 0, 1, none, []),
  (654, .iadd, 655, 0, 0, 0, 0, 0, none, []),
  (655, .iaload, 656, 0, 0, 0, 0, 0, none, [])]
theorem oL_law_40 : ∀ q ∈ tL_law_40, hy_ok mL_law q.1 q.2 = true := by decide +kernel
def tL_law_41 : List (Nat × hyE) := [(656, .invokevirtual 90, 659, 0, 1, 0, 6, 0, (some mX6_from), []),
  (659, .if_icmp .eq 162, 662, 821, 0, 0, 0, 0, none, []),
  (662, .iconst 0, 663, 0, 0, 0, 0, 0, none, []),
  (663, .ireturn, 664, 0, 0, 0, 0, 0, none, []),
  (664, .aload_n 1, 665, 1, 0, 0, 0, 0, none, []),
  (665, .invokevirtual 91, 668, 0, 0, 0, 5, 0, (some mX5_away), []),
  (668, .aload_n 2, 669, 2, 0, 0, 0, 0, none, []),
  (669, .invokevirtual 94, 672, 0, 0, 0, 6, 0, (some mX6_away), [])]
theorem oL_law_41 : ∀ q ∈ tL_law_41, hy_ok mL_law q.1 q.2 = true := by decide +kernel
def tL_law_42 : List (Nat × hyE) := [(672, .if_icmp .eq 149, 675, 821, 0, 0, 0, 0, none, []),
  (675, .iconst 0, 676, 0, 0, 0, 0, 0, none, []),
  (676, .ireturn, 677, 0, 0, 0, 0, 0, none, []),
  (677, .aload_n 1, 678, 1, 0, 0, 0, 0, none, []),
  (678, .aload_n 0, 679, 0, 0, 0, 0, 0, none, []),
  (679, .iload_n 3, 680, 3, 0, 0, 0, 0, none, []),
  (680, .iconst 1, 681, 0, 0, 0, 0, 1, none, []),
  (681, .iadd, 682, 0, 0, 0, 0, 0, none, []),
  (682, .iaload, 683, 0, 0, 0, 0, 0, none, []),
  (683, .aload_n 0, 684, 0, 0, 0, 0, 0, none, []),
  (684, .iload_n 3, 685, 3, 0, 0, 0, 0, none, []),
  (685, .iconst 2, 686, 0, 0, 0, 0, 2, none, []),
  (686, .iadd, 687, 0, 0, 0, 0, 0, none, []),
  (687, .iaload, 688, 0, 0, 0, 0, 0, none, [])]
theorem oL_law_42 : ∀ q ∈ tL_law_42, hy_ok mL_law q.1 q.2 = true := by decide +kernel
def tL_law_43 : List (Nat × hyE) := [(688, .invokevirtual 95, 691, 0, 2, 0, 5, 0, (some mX5_reading), []),
  (691, .aload_n 2, 692, 2, 0, 0, 0, 0, none, []),
  (692, .aload_n 0, 693, 0, 0, 0, 0, 0, none, []),
  (693, .iload_n 3, 694, 3, 0, 0, 0, 0, none, []),
  (694, .iconst 1, 695, 0, 0, 0, 0, 1, none, []),
  (695, .iadd, 696, 0, 0, 0, 0, 0, none, []),
  (696, .iaload, 697, 0, 0, 0, 0, 0, none, []),
  (697, .aload_n 0, 698, 0, 0, 0, 0, 0, none, []),
  (698, .iload_n 3, 699, 3, 0, 0, 0, 0, none, []),
  (699, .iconst 2, 700, 0, 0, 0, 0, 2, none, []),
  (700, .iadd, 701, 0, 0, 0, 0, 0, none, []),
  (701, .iaload, 702, 0, 0, 0, 0, 0, none, []),
  (702, .invokevirtual 98, 705, 0, 2, 0, 6, 0, (some mX6_reading), [])]
theorem oL_law_43 : ∀ q ∈ tL_law_43, hy_ok mL_law q.1 q.2 = true := by decide +kernel
def tL_law_44 : List (Nat × hyE) := [(705, .if_icmp .eq 116, 708, 821, 0, 0, 0, 0, none, []),
  (708, .iconst 0, 709, 0, 0, 0, 0, 0, none, []),
  (709, .ireturn, 710, 0, 0, 0, 0, 0, none, []),
  (710, .aload_n 1, 711, 1, 0, 0, 0, 0, none, []),
  (711, .aload_n 0, 712, 0, 0, 0, 0, 0, none, []),
  (712, .iload_n 3, 713, 3, 0, 0, 0, 0, none, []),
  (713, .iconst 1, 714, 0, 0, 0, 0, 1, none, []),
  (714, .iadd, 715, 0, 0, 0, 0, 0, none, []),
  (715, .iaload, 716, 0, 0, 0, 0, 0, none, []),
  (716, .ifCond .eq 7, 719, 723, 0, 0, 0, 0, none, []),
  (719, .iconst 1, 720, 0, 0, 0, 0, 1, none, [])]
theorem oL_law_44 : ∀ q ∈ tL_law_44, hy_ok mL_law q.1 q.2 = true := by decide +kernel
def tL_law_45 : List (Nat × hyE) := [(720, .goto 4, 723, 724, 0, 0, 0, 0, none, []),
  (723, .iconst 0, 724, 0, 0, 0, 0, 0, none, []),
  (724, .invokevirtual 99, 727, 0, 1, 0, 5, 0, (some mX5_errs), []),
  (727, .aload_n 2, 728, 2, 0, 0, 0, 0, none, []),
  (728, .aload_n 0, 729, 0, 0, 0, 0, 0, none, []),
  (729, .iload_n 3, 730, 3, 0, 0, 0, 0, none, []),
  (730, .iconst 1, 731, 0, 0, 0, 0, 1, none, []),
  (731, .iadd, 732, 0, 0, 0, 0, 0, none, []),
  (732, .iaload, 733, 0, 0, 0, 0, 0, none, []),
  (733, .ifCond .eq 7, 736, 740, 0, 0, 0, 0, none, [])]
theorem oL_law_45 : ∀ q ∈ tL_law_45, hy_ok mL_law q.1 q.2 = true := by decide +kernel
def tL_law_46 : List (Nat × hyE) := [(736, .iconst 1, 737, 0, 0, 0, 0, 1, none, []),
  (737, .goto 4, 740, 741, 0, 0, 0, 0, none, []),
  (740, .iconst 0, 741, 0, 0, 0, 0, 0, none, []),
  (741, .invokevirtual 103, 744, 0, 1, 0, 6, 0, (some mX6_errs), []),
  (744, .if_icmp .eq 77, 747, 821, 0, 0, 0, 0, none, []),
  (747, .iconst 0, 748, 0, 0, 0, 0, 0, none, []),
  (748, .ireturn, 749, 0, 0, 0, 0, 0, none, []),
  (749, .aload_n 1, 750, 1, 0, 0, 0, 0, none, []),
  (750, .aload_n 0, 751, 0, 0, 0, 0, 0, none, []),
  (751, .iload_n 3, 752, 3, 0, 0, 0, 0, none, [])]
theorem oL_law_46 : ∀ q ∈ tL_law_46, hy_ok mL_law q.1 q.2 = true := by decide +kernel
def tL_law_47 : List (Nat × hyE) := [(752, .iconst 1, 753, 0, 0, 0, 0, 1, none, []),
  (753, .iadd, 754, 0, 0, 0, 0, 0, none, []),
  (754, .iaload, 755, 0, 0, 0, 0, 0, none, []),
  (755, .aload_n 0, 756, 0, 0, 0, 0, 0, none, []),
  (756, .iload_n 3, 757, 3, 0, 0, 0, 0, none, []),
  (757, .iconst 2, 758, 0, 0, 0, 0, 2, none, []),
  (758, .iadd, 759, 0, 0, 0, 0, 0, none, []),
  (759, .iaload, 760, 0, 0, 0, 0, 0, none, []),
  (760, .ifCond .eq 7, 763, 767, 0, 0, 0, 0, none, []),
  (763, .iconst 1, 764, 0, 0, 0, 0, 1, none, []),
  (764, .goto 4, 767, 768, 0, 0, 0, 0, none, []),
  (767, .iconst 0, 768, 0, 0, 0, 0, 0, none, [])]
theorem oL_law_47 : ∀ q ∈ tL_law_47, hy_ok mL_law q.1 q.2 = true := by decide +kernel
def tL_law_48 : List (Nat × hyE) := [(768, .invokevirtual 104, 771, 0, 2, 0, 5, 0, (some mX5_back), []),
  (771, .aload_n 2, 772, 2, 0, 0, 0, 0, none, []),
  (772, .aload_n 0, 773, 0, 0, 0, 0, 0, none, []),
  (773, .iload_n 3, 774, 3, 0, 0, 0, 0, none, []),
  (774, .iconst 1, 775, 0, 0, 0, 0, 1, none, []),
  (775, .iadd, 776, 0, 0, 0, 0, 0, none, []),
  (776, .iaload, 777, 0, 0, 0, 0, 0, none, []),
  (777, .aload_n 0, 778, 0, 0, 0, 0, 0, none, []),
  (778, .iload_n 3, 779, 3, 0, 0, 0, 0, none, []),
  (779, .iconst 2, 780, 0, 0, 0, 0, 2, none, []),
  (780, .iadd, 781, 0, 0, 0, 0, 0, none, []),
  (781, .iaload, 782, 0, 0, 0, 0, 0, none, []),
  (782, .ifCond .eq 7, 785, 789, 0, 0, 0, 0, none, [])]
theorem oL_law_48 : ∀ q ∈ tL_law_48, hy_ok mL_law q.1 q.2 = true := by decide +kernel
def tL_law_49 : List (Nat × hyE) := [(785, .iconst 1, 786, 0, 0, 0, 0, 1, none, []),
  (786, .goto 4, 789, 790, 0, 0, 0, 0, none, []),
  (789, .iconst 0, 790, 0, 0, 0, 0, 0, none, []),
  (790, .invokevirtual 108, 793, 0, 2, 0, 6, 0, (some mX6_back), []),
  (793, .if_icmp .eq 28, 796, 821, 0, 0, 0, 0, none, []),
  (796, .iconst 0, 797, 0, 0, 0, 0, 0, none, []),
  (797, .ireturn, 798, 0, 0, 0, 0, 0, none, []),
  (798, .aload_n 1, 799, 1, 0, 0, 0, 0, none, []),
  (799, .aload_n 0, 800, 0, 0, 0, 0, 0, none, [])]
theorem oL_law_49 : ∀ q ∈ tL_law_49, hy_ok mL_law q.1 q.2 = true := by decide +kernel
def tL_law_50 : List (Nat × hyE) := [(800, .iload_n 3, 801, 3, 0, 0, 0, 0, none, []),
  (801, .iconst 1, 802, 0, 0, 0, 0, 1, none, []),
  (802, .iadd, 803, 0, 0, 0, 0, 0, none, []),
  (803, .iaload, 804, 0, 0, 0, 0, 0, none, []),
  (804, .invokevirtual 109, 807, 0, 1, 0, 5, 0, (some mX5_about), []),
  (807, .aload_n 2, 808, 2, 0, 0, 0, 0, none, []),
  (808, .aload_n 0, 809, 0, 0, 0, 0, 0, none, []),
  (809, .iload_n 3, 810, 3, 0, 0, 0, 0, none, []),
  (810, .iconst 1, 811, 0, 0, 0, 0, 1, none, []),
  (811, .iadd, 812, 0, 0, 0, 0, 0, none, []),
  (812, .iaload, 813, 0, 0, 0, 0, 0, none, []),
  (813, .invokevirtual 112, 816, 0, 1, 0, 6, 0, (some mX6_about), [])]
theorem oL_law_50 : ∀ q ∈ tL_law_50, hy_ok mL_law q.1 q.2 = true := by decide +kernel
def tL_law_51 : List (Nat × hyE) := [(816, .if_icmp .eq 5, 819, 821, 0, 0, 0, 0, none, []),
  (819, .iconst 0, 820, 0, 0, 0, 0, 0, none, []),
  (820, .ireturn, 821, 0, 0, 0, 0, 0, none, []),
  (821, .iinc 3 5, 824, 3, 0, 0, 0, 5, none, []),
  (824, .goto (-806), 827, 18, 0, 0, 0, 0, none, []),
  (827, .iconst 1, 828, 0, 0, 0, 0, 1, none, []),
  (828, .ireturn, 829, 0, 0, 0, 0, 0, none, [])]
theorem oL_law_51 : ∀ q ∈ tL_law_51, hy_ok mL_law q.1 q.2 = true := by decide +kernel
def tL_law : hyT := [tL_law_0, tL_law_1, tL_law_2, tL_law_3, tL_law_4, tL_law_5, tL_law_6, tL_law_7, tL_law_8, tL_law_9, tL_law_10, tL_law_11, tL_law_12, tL_law_13, tL_law_14, tL_law_15, tL_law_16, tL_law_17, tL_law_18, tL_law_19, tL_law_20, tL_law_21, tL_law_22, tL_law_23, tL_law_24, tL_law_25, tL_law_26, tL_law_27, tL_law_28, tL_law_29, tL_law_30, tL_law_31, tL_law_32, tL_law_33, tL_law_34, tL_law_35, tL_law_36, tL_law_37, tL_law_38, tL_law_39, tL_law_40, tL_law_41, tL_law_42, tL_law_43, tL_law_44, tL_law_45, tL_law_46, tL_law_47, tL_law_48, tL_law_49, tL_law_50, tL_law_51]
theorem oL_law : hy_tok mL_law tL_law := List.forall_mem_cons.mpr ⟨oL_law_0, List.forall_mem_cons.mpr ⟨oL_law_1, List.forall_mem_cons.mpr ⟨oL_law_2, List.forall_mem_cons.mpr ⟨oL_law_3, List.forall_mem_cons.mpr ⟨oL_law_4, List.forall_mem_cons.mpr ⟨oL_law_5, List.forall_mem_cons.mpr ⟨oL_law_6, List.forall_mem_cons.mpr ⟨oL_law_7, List.forall_mem_cons.mpr ⟨oL_law_8, List.forall_mem_cons.mpr ⟨oL_law_9, List.forall_mem_cons.mpr ⟨oL_law_10, List.forall_mem_cons.mpr ⟨oL_law_11, List.forall_mem_cons.mpr ⟨oL_law_12, List.forall_mem_cons.mpr ⟨oL_law_13, List.forall_mem_cons.mpr ⟨oL_law_14, List.forall_mem_cons.mpr ⟨oL_law_15, List.forall_mem_cons.mpr ⟨oL_law_16, List.forall_mem_cons.mpr ⟨oL_law_17, List.forall_mem_cons.mpr ⟨oL_law_18, List.forall_mem_cons.mpr ⟨oL_law_19, List.forall_mem_cons.mpr ⟨oL_law_20, List.forall_mem_cons.mpr ⟨oL_law_21, List.forall_mem_cons.mpr ⟨oL_law_22, List.forall_mem_cons.mpr ⟨oL_law_23, List.forall_mem_cons.mpr ⟨oL_law_24, List.forall_mem_cons.mpr ⟨oL_law_25, List.forall_mem_cons.mpr ⟨oL_law_26, List.forall_mem_cons.mpr ⟨oL_law_27, List.forall_mem_cons.mpr ⟨oL_law_28, List.forall_mem_cons.mpr ⟨oL_law_29, List.forall_mem_cons.mpr ⟨oL_law_30, List.forall_mem_cons.mpr ⟨oL_law_31, List.forall_mem_cons.mpr ⟨oL_law_32, List.forall_mem_cons.mpr ⟨oL_law_33, List.forall_mem_cons.mpr ⟨oL_law_34, List.forall_mem_cons.mpr ⟨oL_law_35, List.forall_mem_cons.mpr ⟨oL_law_36, List.forall_mem_cons.mpr ⟨oL_law_37, List.forall_mem_cons.mpr ⟨oL_law_38, List.forall_mem_cons.mpr ⟨oL_law_39, List.forall_mem_cons.mpr ⟨oL_law_40, List.forall_mem_cons.mpr ⟨oL_law_41, List.forall_mem_cons.mpr ⟨oL_law_42, List.forall_mem_cons.mpr ⟨oL_law_43, List.forall_mem_cons.mpr ⟨oL_law_44, List.forall_mem_cons.mpr ⟨oL_law_45, List.forall_mem_cons.mpr ⟨oL_law_46, List.forall_mem_cons.mpr ⟨oL_law_47, List.forall_mem_cons.mpr ⟨oL_law_48, List.forall_mem_cons.mpr ⟨oL_law_49, List.forall_mem_cons.mpr ⟨oL_law_50, List.forall_mem_cons.mpr ⟨oL_law_51, fun _ h => absurd h List.not_mem_nil⟩⟩⟩⟩⟩⟩⟩⟩⟩⟩⟩⟩⟩⟩⟩⟩⟩⟩⟩⟩⟩⟩⟩⟩⟩⟩⟩⟩⟩⟩⟩⟩⟩⟩⟩⟩⟩⟩⟩⟩⟩⟩⟩⟩⟩⟩⟩⟩⟩⟩⟩⟩
end
section
/-! ===== the pure static methods ===== -/
theorem hy_fin {x : Int32} {P : Int32 → Prop} (h : P x) : ∃ y, some x = some y ∧ P y := ⟨x, rfl, h⟩
theorem hy_cl {d d' : Nat} {M : hyM} {as : List hyV} {w : hyW} {Q1 : hyQ} {P : Option Int32 → hyW → Prop} (h : hy_R d' M 0 0 as w Q1) (hd : Nat.ble (d' + 1) d = true) (k : ∀ o w1, Q1 o w1 → P o w1) : hy_call d M as w P := ⟨d', Q1, h, Nat.le_of_ble_eq_true hd, k⟩
theorem hy_ple {a b : Nat} (h : Nat.ble a b = true) : a ≤ b := Nat.le_of_ble_eq_true h
def g_within : List Int32 → Int32
  | [v, lo, hi] => if lo ≤ v ∧ v ≤ hi then 1 else 0
  | _ => 0
theorem g_within_01 (xs : List Int32) : g_within xs = 0 ∨ g_within xs = 1 := by
  unfold g_within
  split
  · split
    · exact Or.inr rfl
    · exact Or.inl rfl
  · exact Or.inl rfl
theorem g_within_no1 {v lo hi : Int32} (h : v < lo) : (0 : Int32) = g_within [v, lo, hi] := by
  rw [g_within, if_neg]
  rintro ⟨a, b⟩
  exact (Int32.not_le.mpr h) a
theorem g_within_no2 {v lo hi : Int32} (h : hi < v) : (0 : Int32) = g_within [v, lo, hi] := by
  rw [g_within, if_neg]
  rintro ⟨a, b⟩
  exact (Int32.not_le.mpr h) b
theorem g_within_yes {v lo hi : Int32} (h : ¬ v < lo) (h2 : ¬ hi < v) : (1 : Int32) = g_within [v, lo, hi] := by
  rw [g_within, if_pos]
  exact ⟨Int32.not_lt.mp h, Int32.not_lt.mp h2⟩
theorem r_within (d : Nat) (v lo hi : Int32) (w : hyW) : hy_R d mX5_within 0 0 [.inl v, .inl lo, .inl hi] w (fun o w1 => ∃ x, o = some x ∧ x = g_within [v, lo, hi] ∧ w1 = w) := by
  refine hy_Rz (L := [some (.inl v), some (.inl lo), some (.inl hi)]) rfl (by decide) (fun x w h => h.1 ▸ g_within_01 _) (hy_ple rfl) rfl ?_
  refine hy_go hy_pf0 oX5_within [] 20 0 0 _ ?_
  refine And.intro (fun h => ?_) (fun h => And.intro (fun h2 => ?_) (fun h2 => ?_))
  · exact hy_fin ⟨g_within_no1 h, rfl⟩
  · exact hy_fin ⟨g_within_no2 h2, rfl⟩
  · exact hy_fin ⟨g_within_yes h h2, rfl⟩
theorem r_in (d : Nat) (v lo hi : Int32) (w : hyW) : hy_R d mX6_in 0 0 [.inl v, .inl lo, .inl hi] w (fun o w1 => ∃ x, o = some x ∧ x = g_within [v, lo, hi] ∧ w1 = w) := by
  refine hy_Rz (L := [some (.inl v), some (.inl lo), some (.inl hi)]) rfl (by decide) (fun x w h => h.1 ▸ g_within_01 _) (hy_ple rfl) rfl ?_
  refine hy_go hy_pf0 oX6_in [] 20 0 0 _ ?_
  refine And.intro (fun h => ?_) (fun h => And.intro (fun h2 => ?_) (fun h2 => ?_))
  · exact hy_fin ⟨g_within_no1 h, rfl⟩
  · exact hy_fin ⟨g_within_no2 h2, rfl⟩
  · exact hy_fin ⟨g_within_yes h h2, rfl⟩
def hy_ush (x k : Int32) : Int32 := (x.toUInt32 >>> (k.toUInt32 &&& Int32.toUInt32 31)).toInt32
def g_bc1 (x : Int32) : Int32 := x - (hy_ush x 1 &&& 1431655765)
def g_bc2 (x : Int32) : Int32 := (x &&& 858993459) + (hy_ush x 2 &&& 858993459)
def g_bc3 (x : Int32) : Int32 := (x + hy_ush x 4) &&& 252645135
def g_bc4 (x : Int32) : Int32 := x + hy_ush x 8
def g_bc5 (x : Int32) : Int32 := x + hy_ush x 16
def g_bitCount : List Int32 → Int32
  | [x] => g_bc5 (g_bc4 (g_bc3 (g_bc2 (g_bc1 x)))) &&& 63
  | _ => 0
theorem r_bitCount (d : Nat) (x : Int32) (w : hyW) : hy_R d mJ6_bitCount_0f7a4 0 0 [.inl x] w (fun o w1 => ∃ z, o = some z ∧ z = g_bitCount [x] ∧ w1 = w) := by
  refine hy_Ri (L := [some (.inl x)]) rfl (by decide) (hy_ple rfl) rfl ?_
  refine hy_go hy_pf0 oJ6_bitCount_0f7a4 [] 60 0 0 _ ?_
  exact hy_fin ⟨rfl, rfl⟩
def g_readBy : List Int32 → Int32
  | [x, e] => x * (1000 + e) / 1000
  | _ => 0
theorem r_readBy (d : Nat) (x e : Int32) (w : hyW) : hy_R d mX3_readBy 0 0 [.inl x, .inl e] w (fun o w1 => ∃ z, o = some z ∧ z = g_readBy [x, e] ∧ w1 = w) := by
  refine hy_Ri (L := [some (.inl x), some (.inl e)]) rfl (by decide) (hy_ple rfl) rfl ?_
  refine hy_go hy_pf0 oX3_readBy [] 60 0 0 _ ?_
  refine And.intro (by decide) ?_
  exact hy_fin ⟨rfl, rfl⟩
theorem r_reads (d : Nat) (x e : Int32) (w : hyW) : hy_R d mX6_reads 0 0 [.inl x, .inl e] w (fun o w1 => ∃ z, o = some z ∧ z = g_readBy [x, e] ∧ w1 = w) := by
  refine hy_Ri (L := [some (.inl x), some (.inl e)]) rfl (by decide) (hy_ple rfl) rfl ?_
  refine hy_go hy_pf0 oX6_reads [] 60 0 0 _ ?_
  refine And.intro (by decide) ?_
  exact hy_fin ⟨rfl, rfl⟩
def g_weightsBelow : List Int32 → Int32
  | [x, e] => if x ≤ 0 ∨ ¬ 0 < 1000 + e then 0 else (x * 1000 - 1) / (1000 + e)
  | _ => 0
theorem r_weightsBelow (d : Nat) (x e : Int32) (w : hyW) : hy_R d mX3_weightsBelow 0 0 [.inl x, .inl e] w (fun o w1 => ∃ z, o = some z ∧ z = g_weightsBelow [x, e] ∧ w1 = w) := by
  refine hy_Ri (L := [some (.inl x), some (.inl e), none]) rfl (by decide) (hy_ple rfl) rfl ?_
  refine hy_go hy_pf0 oX3_weightsBelow [] 60 0 0 _ ?_
  refine And.intro (fun h => ?_) (fun h => And.intro (fun h2 => ?_) (fun h2 => ?_))
  · exact hy_fin ⟨(if_pos (Or.inl h)).symm, rfl⟩
  · have h3 : ¬ (1000 + e) = 0 := fun q => absurd (q ▸ h2 : (0 : Int32) < 0) (by decide)
    refine And.intro h3 ?_
    exact hy_fin ⟨(if_neg (fun q => q.elim h (fun q => q h2))).symm, rfl⟩
  · exact hy_fin ⟨(if_pos (Or.inr h2)).symm, rfl⟩
theorem r_isMarks (x : Int32) (w : hyW) : hy_R 3 mX5_isMarks 0 0 [.inl x] w (fun o w1 => ∃ z, o = some z ∧ z = g_within [x, 0, 255] ∧ w1 = w) := by
  refine hy_Rz (L := [some (.inl x)]) rfl (by decide) (fun x w h => h.1 ▸ g_within_01 _) (hy_ple rfl) rfl ?_
  refine hy_go hy_pf0 oX5_isMarks [] 60 0 0 _ ?_
  refine hy_cl (r_within 2 x 0 255 w) rfl ?_
  rintro o w1 ⟨z, rfl, rfl, rfl⟩
  exact hy_fin ⟨rfl, rfl⟩
theorem r_isPit (x : Int32) (w : hyW) : hy_R 3 mX2_isPit 0 0 [.inl x] w (fun o w1 => ∃ z, o = some z ∧ z = g_within [x, 0, 7] ∧ w1 = w) := by
  refine hy_Rz (L := [some (.inl x)]) rfl (by decide) (fun x w h => h.1 ▸ g_within_01 _) (hy_ple rfl) rfl ?_
  refine hy_go hy_pf0 oX2_isPit [] 60 0 0 _ ?_
  refine hy_cl (r_within 2 x 0 7 w) rfl ?_
  rintro o w1 ⟨z, rfl, rfl, rfl⟩
  exact hy_fin ⟨rfl, rfl⟩
def g_isReadSo : List Int32 → Int32
  | [x, r, e] => if (1 ≤ x ∧ x ≤ 10000) ∧ g_readBy [x, e] = r then 1 else 0
  | _ => 0
theorem g_isReadSo_01 (xs : List Int32) : g_isReadSo xs = 0 ∨ g_isReadSo xs = 1 := by
  unfold g_isReadSo
  split
  · split
    · exact Or.inr rfl
    · exact Or.inl rfl
  · exact Or.inl rfl
theorem g_within_0 {v lo hi : Int32} (h : g_within [v, lo, hi] = 0) : ¬ (lo ≤ v ∧ v ≤ hi) := by
  intro q
  rw [g_within, if_pos q] at h
  exact absurd h (by decide)
theorem g_within_n0 {v lo hi : Int32} (h : ¬ g_within [v, lo, hi] = 0) : lo ≤ v ∧ v ≤ hi := by
  by_cases q : lo ≤ v ∧ v ≤ hi
  · exact q
  · rw [g_within, if_neg q] at h
    exact absurd rfl h
theorem r_isReadSo (x r e : Int32) (w : hyW) : hy_R 3 mX3_isReadSo 0 0 [.inl x, .inl r, .inl e] w (fun o w1 => ∃ z, o = some z ∧ z = g_isReadSo [x, r, e] ∧ w1 = w) := by
  refine hy_Rz (L := [some (.inl x), some (.inl r), some (.inl e)]) rfl (by decide) (fun x w h => h.1 ▸ g_isReadSo_01 _) (hy_ple rfl) rfl ?_
  refine hy_go hy_pf0 oX3_isReadSo [] 60 0 0 _ ?_
  refine hy_cl (r_within 2 x 1 10000 w) rfl ?_
  rintro o w1 ⟨z, rfl, rfl, rfl⟩
  refine And.intro (fun h => ?_) (fun h => ?_)
  · exact hy_fin ⟨(if_neg (fun q => g_within_0 h q.1)).symm, rfl⟩
  · refine hy_cl (r_readBy 2 x e w1) rfl ?_
    rintro o w2 ⟨z, rfl, rfl, rfl⟩
    refine And.intro (fun h2 => ?_) (fun h2 => ?_)
    · exact hy_fin ⟨(if_pos ⟨g_within_n0 h, h2⟩).symm, rfl⟩
    · exact hy_fin ⟨(if_neg (fun q => h2 q.2)).symm, rfl⟩
def g_isMarks : List Int32 → Int32
  | [x] => g_within [x, 0, 255]
  | _ => 0
def g_isPit : List Int32 → Int32
  | [x] => g_within [x, 0, 7]
  | _ => 0
/-- the pure functions that steps may take as one step -/
def hy_pf : hyP
  | 1 => some (3, g_within)
  | 2 => some (3, g_within)
  | 5 => some (1, g_bitCount)
  | 7 => some (2, g_readBy)
  | 8 => some (2, g_readBy)
  | 9 => some (2, g_weightsBelow)
  | 10 => some (1, g_isMarks)
  | 11 => some (1, g_isPit)
  | 12 => some (3, g_isReadSo)
  | _ => none
theorem hy_len1 {α : Type} {xs : List α} (h : xs.length = 1) : ∃ a, xs = [a] := by
  match xs, h with
  | [a], _ => exact ⟨a, rfl⟩
theorem hy_len2 {α : Type} {xs : List α} (h : xs.length = 2) : ∃ a b, xs = [a, b] := by
  match xs, h with
  | [a, b], _ => exact ⟨a, b, rfl⟩
theorem hy_len3 {α : Type} {xs : List α} (h : xs.length = 3) : ∃ a b c, xs = [a, b, c] := by
  match xs, h with
  | [a, b, c], _ => exact ⟨a, b, c, rfl⟩
theorem hy_Rw {d : Nat} {M : hyM} {kc ks : Nat} {as : List hyV} {w : hyW} {Q Q' : hyQ} (h : hy_R d M kc ks as w Q) (e : Q = Q') : hy_R d M kc ks as w Q' := e ▸ h
theorem hy_Qeq {g : Int32} {w : hyW} : (fun (o : Option Int32) (w1 : hyW) => ∃ z, o = some z ∧ z = g ∧ w1 = w) = (fun o w1 => o = some g ∧ w1 = w) := by
  funext o w1
  apply propext
  constructor
  · rintro ⟨z, h1, h2, h3⟩
    exact ⟨h2 ▸ h1, h3⟩
  · rintro ⟨h1, h2⟩
    exact ⟨g, h1, rfl, h2⟩
theorem hy_pfA : hy_pfok hy_pf := by
  refine ⟨rfl, fun a n g h xs w hl => ?_⟩
  match a, h with
  | 1, h => cases h; obtain ⟨x, y, z, rfl⟩ := hy_len3 hl; exact hy_Rw (r_within 3 x y z w) hy_Qeq
  | 2, h => cases h; obtain ⟨x, y, z, rfl⟩ := hy_len3 hl; exact hy_Rw (r_in 3 x y z w) hy_Qeq
  | 5, h => cases h; obtain ⟨x, rfl⟩ := hy_len1 hl; exact hy_Rw (r_bitCount 3 x w) hy_Qeq
  | 7, h => cases h; obtain ⟨x, y, rfl⟩ := hy_len2 hl; exact hy_Rw (r_readBy 3 x y w) hy_Qeq
  | 8, h => cases h; obtain ⟨x, y, rfl⟩ := hy_len2 hl; exact hy_Rw (r_reads 3 x y w) hy_Qeq
  | 9, h => cases h; obtain ⟨x, y, rfl⟩ := hy_len2 hl; exact hy_Rw (r_weightsBelow 3 x y w) hy_Qeq
  | 10, h => cases h; obtain ⟨x, rfl⟩ := hy_len1 hl; exact hy_Rw (r_isMarks x w) hy_Qeq
  | 11, h => cases h; obtain ⟨x, rfl⟩ := hy_len1 hl; exact hy_Rw (r_isPit x w) hy_Qeq
  | 12, h => cases h; obtain ⟨x, y, z, rfl⟩ := hy_len3 hl; exact hy_Rw (r_isReadSo x y z w) hy_Qeq
end
section
/-! ===== numbers as whole numbers ===== -/
theorem zi_add {a b : Int32} (h1 : -2147483648 ≤ a.toInt + b.toInt) (h2 : a.toInt + b.toInt < 2147483648) : (a + b).toInt = a.toInt + b.toInt := by
  rw [Int32.toInt_add]; apply Int.bmod_eq_of_le <;> omega
theorem zi_sub {a b : Int32} (h1 : -2147483648 ≤ a.toInt - b.toInt) (h2 : a.toInt - b.toInt < 2147483648) : (a - b).toInt = a.toInt - b.toInt := by
  rw [Int32.toInt_sub]; apply Int.bmod_eq_of_le <;> omega
theorem zi_mul {a b : Int32} (h1 : -2147483648 ≤ a.toInt * b.toInt) (h2 : a.toInt * b.toInt < 2147483648) : (a * b).toInt = a.toInt * b.toInt := by
  rw [Int32.toInt_mul]; apply Int.bmod_eq_of_le <;> omega
theorem zi_div {a b : Int32} (h0 : 0 ≤ a.toInt) (h1 : 0 < b.toInt) : (a / b).toInt = a.toInt / b.toInt := by
  have e : a.toInt.tdiv b.toInt = a.toInt / b.toInt := Int.tdiv_eq_ediv_of_nonneg h0
  have ha := Int32.toInt_lt a
  have h2 : a.toInt / b.toInt ≤ a.toInt := Int.ediv_le_self _ h0
  have h3 : 0 ≤ a.toInt / b.toInt := Int.ediv_nonneg h0 (by omega)
  rw [Int32.toInt_div, e]; apply Int.bmod_eq_of_le <;> omega
theorem zi_le {a b : Int32} : a ≤ b ↔ a.toInt ≤ b.toInt := Int32.le_iff_toInt_le
theorem zi_lt {a b : Int32} : a < b ↔ a.toInt < b.toInt := Int32.lt_iff_toInt_lt
theorem zi_eq {a b : Int32} : a = b ↔ a.toInt = b.toInt := Int32.toInt_inj.symm
theorem zi_r (a : Int32) : -2147483648 ≤ a.toInt ∧ a.toInt < 2147483648 := ⟨Int32.le_toInt a, Int32.toInt_lt a⟩
theorem zi_nI {n : Nat} (h : n < 2147483648) : (nI n).toInt = (n : Int) := nI_toInt h
theorem zi_of {a : Int32} (h : 0 ≤ a.toInt) : a = nI a.toInt.toNat := by
  have := zi_r a
  rw [zi_eq, zi_nI (by omega)]; omega
theorem zi_lit0 : (0 : Int32).toInt = 0 := rfl
theorem zi_lit1 : (1 : Int32).toInt = 1 := rfl
theorem zi_m1 : (-1 : Int32).toInt = -1 := rfl
/-! ===== the worlds of the class and of the reference ===== -/
abbrev hyB : Type := (Nat → Nat → Int32) × (Nat → Int32)
def sv {α : Type} (f : Nat → α) (k : Nat) (x : α) : Nat → α := fun j => match Nat.beq j k with
  | true => x
  | false => f j
/-- a scalar field, an array field set anew -/
def ss (B : hyB) (k : Nat) (x : Int32) : hyB := (B.1, sv B.2 k x)
def sa (B : hyB) (k : Nat) (f : Nat → Int32) : hyB := (sv B.1 k f, B.2)
theorem sv_self {α : Type} (f : Nat → α) (k : Nat) : sv f k (f k) = f := by
  funext j
  unfold sv
  cases h : Nat.beq j k with
  | true => rw [Nat.eq_of_beq_eq_true h]
  | false => rfl
def w0 : hyC := .inr (5, [hy_r 1, hy_r 10, hy_r 13, hy_r 20, hy_r 29])
def wN (B : hyB) : hyW := [.inr (2, [hy_r 2, hy_r 3, hy_r 4, hy_r 5, hy_r 6, hy_r 7, hy_r 8, hy_r 9, .inl (B.2 8), .inl (B.2 9), .inl (B.2 10)]), .inl (false, 8, B.1 0), .inl (false, 10, B.1 1), .inl (false, 24, B.1 2), .inl (false, 24, B.1 3), .inl (false, 24, B.1 4), .inl (false, 24, B.1 5), .inl (false, 24, B.1 6), .inl (false, 24, B.1 7)]
def wF (B : hyB) : hyW := [.inr (0, [hy_r 11, hy_r 12, .inl (B.2 2)]), .inl (false, 8, B.1 0), .inl (false, 8, B.1 1)]
def wS (B : hyB) : hyW := [.inr (4, [hy_r 14, hy_r 15, hy_r 16, hy_r 17, hy_r 18, hy_r 19, .inl (B.2 6), .inl (B.2 7), .inl (B.2 8), .inl (B.2 9)]), .inl (false, 7, B.1 0), .inl (false, 7, B.1 1), .inl (false, 7, B.1 2), .inl (false, 7, B.1 3), .inl (false, 7, B.1 4), .inl (false, 7, B.1 5)]
def wT (B : hyB) : hyW := [.inr (1, [hy_r 21, hy_r 22, hy_r 23, hy_r 24, hy_r 25, hy_r 26, hy_r 27, hy_r 28, .inl (B.2 8), .inl (B.2 9), .inl (B.2 10), .inl (B.2 11)]), .inl (false, 6, B.1 0), .inl (false, 6, B.1 1), .inl (false, 8, B.1 2), .inl (false, 8, B.1 3), .inl (false, 8, B.1 4), .inl (false, 256, B.1 5), .inl (false, 256, B.1 6), .inl (false, 16, B.1 7)]
def wC (B : hyB) : hyW := [.inr (3, [.inl (B.2 0), .inl (B.2 1), .inl (B.2 2)])]
def wM (B : hyB) : hyW := [.inr (6, [.inl (B.2 0), hy_r 31, hy_r 32, .inl (B.2 3), hy_r 33, hy_r 34, hy_r 35, hy_r 36, hy_r 37, hy_r 38, .inl (B.2 10), hy_r 39, .inl (B.2 12), hy_r 40, .inl (B.2 14), .inl (B.2 15), hy_r 41, hy_r 42, hy_r 43, hy_r 44, .inl (B.2 20), .inl (B.2 21), hy_r 45, hy_r 46, .inl (B.2 24), hy_r 47, hy_r 48, .inl (B.2 27), .inl (B.2 28), .inl (B.2 29), hy_r 49, hy_r 50, hy_r 51, .inl (B.2 33), hy_r 52, hy_r 53]),
  .inl (false, 8, B.1 1), .inl (false, 10, B.1 2), .inl (false, 24, B.1 4), .inl (false, 24, B.1 5), .inl (false, 24, B.1 6), .inl (false, 24, B.1 7), .inl (false, 24, B.1 8), .inl (false, 24, B.1 9), .inl (false, 8, B.1 11), .inl (false, 8, B.1 13), .inl (false, 7, B.1 16), .inl (false, 7, B.1 17), .inl (false, 7, B.1 18), .inl (false, 7, B.1 19), .inl (false, 6, B.1 22), .inl (false, 6, B.1 23), .inl (false, 8, B.1 25), .inl (false, 8, B.1 26), .inl (true, 256, B.1 30), .inl (false, 7, B.1 31), .inl (false, 7, B.1 32), .inl (false, 8, B.1 34), .inl (false, 8, B.1 35)]
/-- the whole: the yard's cells, then those of R -/
def wW (N F S T C : hyB) (R : hyW) : hyW := w0 :: (wN N ++ (wF F ++ (wS S ++ (wT T ++ (wC C ++ R)))))
end
section
/-! ===== the scale ===== -/
def rd (w e : Int) : Int := w * (1000 + e) / 1000
theorem zi_mb {a b A B : Int} (h1 : 0 ≤ a) (h2 : a ≤ A) (h3 : 0 ≤ b) (h4 : b ≤ B) : 0 ≤ a * b ∧ a * b ≤ A * B :=
  ⟨Int.mul_nonneg h1 h3, Int.mul_le_mul h2 h4 h3 (Int.le_trans h1 h2)⟩
theorem rd_mono {w e e' : Int} (hw : 0 ≤ w) (h : e ≤ e') : rd w e ≤ rd w e' :=
  Int.ediv_le_ediv (by omega) (Int.mul_le_mul_of_nonneg_left (by omega) hw)
theorem rd_I {x e : Int32} (h1 : 1 ≤ x.toInt) (h2 : x.toInt ≤ 10000) (h3 : -200 ≤ e.toInt) (h4 : e.toInt ≤ 200) : (g_readBy [x, e]).toInt = rd x.toInt e.toInt := by
  have a1 : (1000 + e).toInt = 1000 + e.toInt := by
    rw [zi_add]
    · rfl
    · show -2147483648 ≤ 1000 + e.toInt; omega
    · show 1000 + e.toInt < 2147483648; omega
  have hb := zi_mb (a := x.toInt) (b := 1000 + e.toInt) (A := 10000) (B := 1200) (by omega) h2 (by omega) (by omega)
  have a2 : (x * (1000 + e)).toInt = x.toInt * (1000 + e.toInt) := by
    rw [zi_mul]
    · rw [a1]
    · rw [a1]; omega
    · rw [a1]; omega
  show (x * (1000 + e) / 1000).toInt = _
  rw [zi_div (by rw [a2]; exact hb.1) (by decide), a2]
  rfl
/-- what a scale knows -/
def iC (C : hyB) : Prop := -200 ≤ (C.2 0).toInt ∧ (C.2 0).toInt ≤ (C.2 1).toInt ∧ (C.2 1).toInt ≤ 200 ∧ 0 ≤ (C.2 2).toInt ∧ (C.2 2).toInt ≤ 20
section
variable (N F S T C : hyB) (R : hyW)
theorem r_sc_count : hy_R 3 mX3_count 0 0 [hy_r 29] (wW N F S T C R) (fun o w1 => ∃ x, o = some x ∧ x = C.2 2 ∧ w1 = wW N F S T C R) := by
  refine hy_Ri (L := [some (hy_r 29)]) rfl (by decide) (hy_ple rfl) rfl ?_
  refine hy_go hy_pfA oX3_count [] 60 0 0 _ ?_
  exact hy_fin ⟨rfl, rfl⟩
theorem r_sc_bound (h : Int32) : hy_R 3 mX3_bound 0 0 [hy_r 29, .inl h] (wW N F S T C R) (fun o w1 => ∃ x, o = some x ∧ x = (if h = 0 then C.2 0 else C.2 1) ∧ w1 = wW N F S T C R) := by
  refine hy_Ri (L := [some (hy_r 29), some (.inl h)]) rfl (by decide) (hy_ple rfl) rfl ?_
  refine hy_go hy_pfA oX3_bound [] 60 0 0 _ ?_
  refine And.intro (fun q => ?_) (fun q => ?_)
  · exact hy_fin ⟨(if_pos q).symm, rfl⟩
  · exact hy_fin ⟨(if_neg q).symm, rfl⟩
/-- what a reading does: the least and the greatest error by which it is so, or none -/
def sp_reading (lo hi cn x y : Int32) (r lo' hi' cn' : Int32) : Prop :=
  (((1 ≤ x.toInt ∧ x.toInt ≤ 10000) ∧ (0 ≤ y.toInt ∧ y.toInt ≤ 20000) ∧ cn.toInt < 20) ∧ (∃ e, lo.toInt ≤ e ∧ e ≤ hi.toInt ∧ rd x.toInt e = y.toInt) ∧ r = cn + 1 ∧ cn' = cn + 1 ∧ lo.toInt ≤ lo'.toInt ∧ lo'.toInt ≤ hi'.toInt ∧ hi'.toInt ≤ hi.toInt ∧ rd x.toInt lo'.toInt = y.toInt ∧ rd x.toInt hi'.toInt = y.toInt ∧ ∀ e, lo.toInt ≤ e → e ≤ hi.toInt → rd x.toInt e = y.toInt → lo'.toInt ≤ e ∧ e ≤ hi'.toInt) ∨
  (¬ (((1 ≤ x.toInt ∧ x.toInt ≤ 10000) ∧ (0 ≤ y.toInt ∧ y.toInt ≤ 20000) ∧ cn.toInt < 20) ∧ (∃ e, lo.toInt ≤ e ∧ e ≤ hi.toInt ∧ rd x.toInt e = y.toInt)) ∧ r = -1 ∧ lo' = lo ∧ hi' = hi ∧ cn' = cn)
theorem sp_reading_eq {lo hi cn x y r lo' hi' cn' r2 lo2 hi2 cn2 : Int32} (h : sp_reading lo hi cn x y r lo' hi' cn') (h2 : sp_reading lo hi cn x y r2 lo2 hi2 cn2) : r = r2 ∧ lo' = lo2 ∧ hi' = hi2 ∧ cn' = cn2 := by
  rcases h with ⟨a1, a2, rfl, rfl, a5, a6, a7, a8, a9, a10⟩ | ⟨a1, rfl, rfl, rfl, rfl⟩
  · rcases h2 with ⟨b1, b2, rfl, rfl, b5, b6, b7, b8, b9, b10⟩ | ⟨b1, b2⟩
    · have c1 := a10 lo2.toInt b5 (by omega) b8
      have c2 := b10 lo'.toInt a5 (by omega) a8
      have c3 := a10 hi2.toInt (by omega) b7 b9
      have c4 := b10 hi'.toInt (by omega) a7 a9
      refine ⟨rfl, zi_eq.mpr (by omega), zi_eq.mpr (by omega), rfl⟩
    · exact absurd ⟨a1, a2⟩ b1
  · rcases h2 with ⟨b1, b2, b3⟩ | ⟨b1, rfl, rfl, rfl, rfl⟩
    · exact absurd ⟨b1, b2⟩ a1
    · exact ⟨rfl, rfl, rfl, rfl⟩
theorem g_within_I {v lo hi : Int32} (h : g_within [v, lo, hi] = 0) : ¬ (lo.toInt ≤ v.toInt ∧ v.toInt ≤ hi.toInt) := fun q => g_within_0 h ⟨zi_le.mpr q.1, zi_le.mpr q.2⟩
theorem g_within_nI {v lo hi : Int32} (h : ¬ g_within [v, lo, hi] = 0) : lo.toInt ≤ v.toInt ∧ v.toInt ≤ hi.toInt := ⟨zi_le.mp (g_within_n0 h).1, zi_le.mp (g_within_n0 h).2⟩
theorem l_sc_tell1 (Q : hyQ) (x y : Int32) (hC : iC C) (hx : 1 ≤ x.toInt ∧ x.toInt ≤ 10000)
    (K : ∀ f : Int32, (C.2 0).toInt ≤ f.toInt → f.toInt ≤ (C.2 1).toInt + 1 → (∀ e, (C.2 0).toInt ≤ e → e < f.toInt → rd x.toInt e < y.toInt) → (f.toInt ≤ (C.2 1).toInt → y.toInt ≤ rd x.toInt f.toInt) → hy_X none 4 mX3_tell Q 0 0 (61, [some (hy_r 29), some (.inl x), some (.inl y), some (.inl f), none], [], wW N F S T C R)) :
    ∀ (k : Nat) (f : Int32), ((C.2 1).toInt + 1 - f.toInt).toNat = k → (C.2 0).toInt ≤ f.toInt → f.toInt ≤ (C.2 1).toInt + 1 → (∀ e, (C.2 0).toInt ≤ e → e < f.toInt → rd x.toInt e < y.toInt) → hy_X none 4 mX3_tell Q 0 0 (38, [some (hy_r 29), some (.inl x), some (.inl y), some (.inl f), none], [], wW N F S T C R) := by
  obtain ⟨c1, c2, c3, -⟩ := hC
  intro k
  induction k with
  | zero =>
    intro f hk h1 h2 h3
    refine hy_go hy_pfA oX3_tell [61, 38] 60 0 0 _ ?_
    refine And.intro (fun q => ?_) (fun q => ?_)
    · exact K f h1 h2 h3 (fun h => by omega)
    · exact absurd (zi_lt.mpr (by omega)) q
  | succ k ih =>
    intro f hk h1 h2 h3
    refine hy_go hy_pfA oX3_tell [61, 38] 60 0 0 _ ?_
    refine And.intro (fun q => ?_) (fun q => ?_)
    · have q := zi_lt.mp q
      omega
    · have hr : (g_readBy [x, f]).toInt = rd x.toInt f.toInt := rd_I hx.1 hx.2 (by omega) (by omega)
      refine And.intro (fun q2 => ?_) (fun q2 => ?_)
      · have q2 := zi_le.mp q2
        exact K f h1 h2 h3 (fun _ => by rw [← hr]; exact q2)
      · have q2 : (g_readBy [x, f]).toInt < y.toInt := Int.not_le.mp (fun h => q2 (zi_le.mpr h))
        have e1 : (f + 1).toInt = f.toInt + 1 := zi_add (by show -2147483648 ≤ f.toInt + 1; omega) (by show f.toInt + 1 < 2147483648; omega)
        refine ih (f + 1) (by rw [e1]; omega) (by rw [e1]; omega) (by rw [e1]; omega) (fun e g1 g2 => ?_)
        rw [e1] at g2
        by_cases g3 : e < f.toInt
        · exact h3 e g1 g3
        · have : e = f.toInt := by omega
          rw [this, ← hr]; exact q2
theorem l_sc_tell2 (Q : hyQ) (x y f : Int32) (hC : iC C) (hx : 1 ≤ x.toInt ∧ x.toInt ≤ 10000)
    (K : ∀ g : Int32, (C.2 0).toInt - 1 ≤ g.toInt → g.toInt ≤ (C.2 1).toInt → (∀ e, g.toInt < e → e ≤ (C.2 1).toInt → y.toInt < rd x.toInt e) → ((C.2 0).toInt ≤ g.toInt → rd x.toInt g.toInt ≤ y.toInt) → hy_X none 4 mX3_tell Q 0 0 (92, [some (hy_r 29), some (.inl x), some (.inl y), some (.inl f), some (.inl g)], [], wW N F S T C R)) :
    ∀ (k : Nat) (g : Int32), (g.toInt + 1 - (C.2 0).toInt).toNat = k → (C.2 0).toInt - 1 ≤ g.toInt → g.toInt ≤ (C.2 1).toInt → (∀ e, g.toInt < e → e ≤ (C.2 1).toInt → y.toInt < rd x.toInt e) → hy_X none 4 mX3_tell Q 0 0 (67, [some (hy_r 29), some (.inl x), some (.inl y), some (.inl f), some (.inl g)], [], wW N F S T C R) := by
  obtain ⟨c1, c2, c3, -⟩ := hC
  intro k
  induction k with
  | zero =>
    intro g hk h1 h2 h3
    refine hy_go hy_pfA oX3_tell [92, 67] 60 0 0 _ ?_
    refine And.intro (fun q => ?_) (fun q => ?_)
    · exact K g h1 h2 h3 (fun h => by omega)
    · exact absurd (zi_lt.mpr (by omega)) q
  | succ k ih =>
    intro g hk h1 h2 h3
    refine hy_go hy_pfA oX3_tell [92, 67] 60 0 0 _ ?_
    refine And.intro (fun q => ?_) (fun q => ?_)
    · have q := zi_lt.mp q
      omega
    · have hr : (g_readBy [x, g]).toInt = rd x.toInt g.toInt := rd_I hx.1 hx.2 (by omega) (by omega)
      refine And.intro (fun q2 => ?_) (fun q2 => ?_)
      · have q2 := zi_le.mp q2
        exact K g h1 h2 h3 (fun _ => by rw [← hr]; exact q2)
      · have q2 : y.toInt < (g_readBy [x, g]).toInt := Int.not_le.mp (fun h => q2 (zi_le.mpr h))
        have e1 : (g + (-1)).toInt = g.toInt - 1 := zi_add (by show -2147483648 ≤ g.toInt + (-1); omega) (by show g.toInt + (-1) < 2147483648; omega)
        refine ih (g + (-1)) (by rw [e1]; omega) (by rw [e1]; omega) (by rw [e1]; omega) (fun e g1 g2 => ?_)
        rw [e1] at g1
        by_cases g3 : g.toInt < e
        · exact h3 e g3 g2
        · have : e = g.toInt := by omega
          rw [this, ← hr]; exact q2
set_option maxRecDepth 100000 in
theorem r_sc_tell (x y : Int32) (hC : iC C) : hy_R 4 mX3_tell 0 0 [hy_r 29, .inl x, .inl y] (wW N F S T C R) (fun o w1 => ∃ r, o = some r ∧ ∃ lo' hi' cn', sp_reading (C.2 0) (C.2 1) (C.2 2) x y r lo' hi' cn' ∧ w1 = wW N F S T (ss (ss (ss C 0 lo') 1 hi') 2 cn') R) := by
  refine hy_Ri (L := [some (hy_r 29), some (.inl x), some (.inl y), none, none]) rfl (by decide) (hy_ple rfl) rfl ?_
  refine hy_go hy_pfA oX3_tell [38] 60 0 0 _ ?_
  have hno : ¬ ((1 ≤ x.toInt ∧ x.toInt ≤ 10000) ∧ (0 ≤ y.toInt ∧ y.toInt ≤ 20000) ∧ (C.2 2).toInt < 20) → ∃ r, some (-1 : Int32) = some r ∧ ∃ lo' hi' cn', sp_reading (C.2 0) (C.2 1) (C.2 2) x y r lo' hi' cn' ∧ wW N F S T C R = wW N F S T (ss (ss (ss C 0 lo') 1 hi') 2 cn') R := fun h => ⟨-1, rfl, C.2 0, C.2 1, C.2 2, Or.inr ⟨fun q => h q.1, rfl, rfl, rfl, rfl⟩, rfl⟩
  refine And.intro (fun q => ?_) (fun q => And.intro (fun q2 => ?_) (fun q2 => And.intro (fun q3 => ?_) (fun q3 => ?_)))
  · exact hno (fun h => g_within_I q h.1)
  · exact hno (fun h => g_within_I q2 h.2.1)
  · have hx : 1 ≤ x.toInt ∧ x.toInt ≤ 10000 := g_within_nI q
    have hy : 0 ≤ y.toInt ∧ y.toInt ≤ 20000 := g_within_nI q2
    have hc : (C.2 2).toInt < 20 := zi_lt.mp q3
    obtain ⟨c1, c2, c3, c4, c5⟩ := id hC
    refine l_sc_tell1 N F S T C R _ x y hC hx (fun f f1 f2 f3 f4 => ?_) _ _ rfl (Int.le_refl _) (by omega) (fun e a b => absurd b (by omega))
    refine hy_go hy_pfA oX3_tell [67] 60 0 0 _ ?_
    refine l_sc_tell2 N F S T C R _ x y f hC hx (fun g g1 g2 g3 g4 => ?_) _ _ rfl (by omega) (Int.le_refl _) (fun e a b => absurd b (by omega))
    refine hy_go hy_pfA oX3_tell [] 60 0 0 _ ?_
    refine And.intro (fun p => ?_) (fun p => ?_)
    · have p := zi_le.mp p
      have hf : rd x.toInt f.toInt = y.toInt := by
        have a1 := f4 (by omega)
        have a2 := g4 (by omega)
        have a3 := rd_mono (w := x.toInt) (by omega) p
        omega
      have hg : rd x.toInt g.toInt = y.toInt := by
        have a1 := f4 (by omega)
        have a2 := g4 (by omega)
        have a3 := rd_mono (w := x.toInt) (by omega) p
        omega
      refine Exists.intro _ (And.intro rfl (Exists.intro f (Exists.intro g (Exists.intro (C.2 2 + 1) (And.intro (Or.inl ⟨⟨hx, hy, hc⟩, ⟨f.toInt, f1, by omega, hf⟩, rfl, rfl, f1, p, g2, hf, hg, fun e e1 e2 e3 => ⟨?_, ?_⟩⟩) rfl)))))
      · exact Int.not_lt.mp (fun h => by have := f3 e e1 h; omega)
      · exact Int.not_lt.mp (fun h => by have := g3 e h e2; omega)
    · have p : g.toInt < f.toInt := Int.not_le.mp (fun h => p (zi_le.mpr h))
      refine Exists.intro _ (And.intro rfl (Exists.intro (C.2 0) (Exists.intro (C.2 1) (Exists.intro (C.2 2) (And.intro (Or.inr ⟨fun h => ?_, rfl, rfl, rfl, rfl⟩) rfl)))))
      obtain ⟨-, e, e1, e2, e3⟩ := h
      have a1 : f.toInt ≤ e := Int.not_lt.mp (fun h => by have := f3 e e1 h; omega)
      have a2 : e ≤ g.toInt := Int.not_lt.mp (fun h => by have := g3 e h e2; omega)
      omega
  · exact hno (fun h => q3 (zi_lt.mpr h.2.2))
end
end
section
/-! ===== the scale: back; the reference's scale ===== -/
/-- weights that are read as y by the error e -/
def vw (y w e : Int) : Prop := 1 ≤ w ∧ w ≤ 10000 ∧ rd w e = y
theorem rd_lt {w e y : Int} : rd w e < y ↔ w * (1000 + e) < 1000 * y := by
  unfold rd
  rw [Int.ediv_lt_iff_lt_mul (by omega : (0 : Int) < 1000), Int.mul_comm y 1000]
theorem rd_le {w e y : Int} : rd w e ≤ y ↔ w * (1000 + e) ≤ 1000 * y + 999 := by
  have : rd w e ≤ y ↔ rd w e < y + 1 := by omega
  rw [this, rd_lt]; omega
/-- weights up to b are read as less than y -/
theorem wb_I {y e : Int32} (h1 : 0 ≤ y.toInt) (h2 : y.toInt ≤ 20001) (h3 : -200 ≤ e.toInt) (h4 : e.toInt ≤ 200) : 0 ≤ (g_weightsBelow [y, e]).toInt ∧ (g_weightsBelow [y, e]).toInt ≤ 30000 ∧ ∀ w, 1 ≤ w → (rd w e.toInt < y.toInt ↔ w ≤ (g_weightsBelow [y, e]).toInt) := by
  have a1 : (1000 + e).toInt = 1000 + e.toInt := by
    rw [zi_add]
    · rfl
    · show -2147483648 ≤ 1000 + e.toInt; omega
    · show 1000 + e.toInt < 2147483648; omega
  by_cases hy : y.toInt = 0
  · have : g_weightsBelow [y, e] = 0 := if_pos (Or.inl (zi_le.mpr (by rw [hy]; decide)))
    rw [this]
    refine ⟨by decide, by decide, fun w hw => ?_⟩
    rw [rd_lt, hy]
    have := zi_mb (a := w) (b := 1000 + e.toInt) (A := w) (B := 1200) (by omega) (by omega) (by omega) (by omega)
    show _ ↔ w ≤ 0
    omega
  · have c1 : ¬ (y ≤ 0 ∨ ¬ 0 < 1000 + e) := by
      rintro (q | q)
      · have := zi_le.mp q
        rw [zi_lit0] at this; omega
      · exact q (zi_lt.mpr (by rw [a1, zi_lit0]; omega))
    have : g_weightsBelow [y, e] = (y * 1000 - 1) / (1000 + e) := if_neg c1
    rw [this]
    have a2 : (y * 1000).toInt = y.toInt * 1000 := zi_mul (by show -2147483648 ≤ y.toInt * 1000; omega) (by show y.toInt * 1000 < 2147483648; omega)
    have a3 : (y * 1000 - 1).toInt = y.toInt * 1000 - 1 := by
      rw [zi_sub]
      · rw [a2]; rfl
      · rw [a2]; show -2147483648 ≤ y.toInt * 1000 - 1; omega
      · rw [a2]; show y.toInt * 1000 - 1 < 2147483648; omega
    have a4 : ((y * 1000 - 1) / (1000 + e)).toInt = (y.toInt * 1000 - 1) / (1000 + e.toInt) := by
      rw [zi_div (by rw [a3]; omega) (by rw [a1]; omega), a3, a1]
    rw [a4]
    refine ⟨Int.ediv_nonneg (by omega) (by omega), ?_, fun w hw => ?_⟩
    · have : (y.toInt * 1000 - 1) / (1000 + e.toInt) < 30001 := by
        rw [Int.ediv_lt_iff_lt_mul (by omega)]
        have := zi_mb (a := 30001) (b := 1000 + e.toInt) (A := 30001) (B := 1200) (by omega) (by omega) (by omega) (by omega)
        omega
      omega
    · rw [rd_lt, Int.le_ediv_iff_mul_le (by omega)]; omega
theorem iso_I {x y e : Int32} (h3 : -200 ≤ e.toInt) (h4 : e.toInt ≤ 200) : (g_isReadSo [x, y, e] = 0 → ¬ vw y.toInt x.toInt e.toInt) ∧ (¬ g_isReadSo [x, y, e] = 0 → vw y.toInt x.toInt e.toInt) := by
  constructor
  · intro h q
    have : g_isReadSo [x, y, e] = 1 := if_pos ⟨⟨zi_le.mpr q.1, zi_le.mpr q.2.1⟩, zi_eq.mpr (by rw [rd_I q.1 q.2.1 h3 h4]; exact q.2.2)⟩
    rw [this] at h
    exact absurd h (by decide)
  · intro h
    by_cases q : (1 ≤ x ∧ x ≤ 10000) ∧ g_readBy [x, e] = y
    · have q1 : 1 ≤ x.toInt := zi_le.mp q.1.1
      have q2 : x.toInt ≤ 10000 := zi_le.mp q.1.2
      exact ⟨q1, q2, by rw [← rd_I q1 q2 h3 h4, q.2]⟩
    · exact absurd (if_neg q) h
/-- the best weight over the errors from lo up to e (least for h = 0, else greatest) -/
def bk (h : Int32) (lo y e : Int) (r : Int32) : Prop :=
  (r = -1 ∧ ∀ w e', lo ≤ e' → e' < e → ¬ vw y w e') ∨ (∃ e', lo ≤ e' ∧ e' < e ∧ vw y r.toInt e') ∧ ∀ w e', lo ≤ e' → e' < e → vw y w e' → (h = 0 → r.toInt ≤ w) ∧ (¬ h = 0 → w ≤ r.toInt)
theorem bk_none {h : Int32} {lo y e : Int} {r : Int32} (b : bk h lo y e r) (hn : ∀ w, ¬ vw y w e) : bk h lo y (e + 1) r := by
  have key : ∀ w e', lo ≤ e' → e' < e + 1 → vw y w e' → e' < e := fun w e' a1 a2 a3 => by
    by_cases q : e' < e
    · exact q
    · have : e' = e := by omega
      exact absurd (this ▸ a3) (hn w)
  rcases b with ⟨b1, b2⟩ | ⟨⟨e1, b1, b2, b3⟩, b4⟩
  · exact Or.inl ⟨b1, fun w e' a1 a2 a3 => b2 w e' a1 (key w e' a1 a2 a3) a3⟩
  · exact Or.inr ⟨⟨e1, b1, by omega, b3⟩, fun w e' a1 a2 a3 => b4 w e' a1 (key w e' a1 a2 a3) a3⟩
theorem bk_new {h : Int32} {lo y e : Int} {r c : Int32} (b : bk h lo y e r) (hl : lo ≤ e) (hc : vw y c.toInt e) (hm : ∀ w, vw y w e → (h = 0 → c.toInt ≤ w) ∧ (¬ h = 0 → w ≤ c.toInt)) (hb : r = -1 ∨ ((h = 0 → c.toInt ≤ r.toInt) ∧ (¬ h = 0 → r.toInt ≤ c.toInt))) : bk h lo y (e + 1) c := by
  refine Or.inr ⟨⟨e, hl, by omega, hc⟩, fun w e' a1 a2 a3 => ?_⟩
  by_cases q : e' < e
  · rcases b with ⟨b1, b2⟩ | ⟨⟨e1, b1, b2, b3⟩, b4⟩
    · exact absurd a3 (b2 w e' a1 q)
    · have b5 := b4 w e' a1 q a3
      rcases hb with hb | hb
      · rw [hb] at b3
        have := b3.1
        rw [zi_m1] at this; omega
      · exact ⟨fun h0 => Int.le_trans (hb.1 h0) (b5.1 h0), fun h0 => Int.le_trans (b5.2 h0) (hb.2 h0)⟩
  · have : e' = e := by omega
    exact hm w (this ▸ a3)
theorem bk_old {h : Int32} {lo y e : Int} {r c : Int32} (b : bk h lo y e r) (hr : ¬ r = -1) (hm : ∀ w, vw y w e → (h = 0 → c.toInt ≤ w) ∧ (¬ h = 0 → w ≤ c.toInt)) (hb : (h = 0 → r.toInt ≤ c.toInt) ∧ (¬ h = 0 → c.toInt ≤ r.toInt)) : bk h lo y (e + 1) r := by
  rcases b with ⟨b1, b2⟩ | ⟨⟨e1, b1, b2, b3⟩, b4⟩
  · exact absurd b1 hr
  · refine Or.inr ⟨⟨e1, b1, by omega, b3⟩, fun w e' a1 a2 a3 => ?_⟩
    by_cases q : e' < e
    · exact b4 w e' a1 q a3
    · have : e' = e := by omega
      have b5 := hm w (this ▸ a3)
      exact ⟨fun h0 => Int.le_trans (hb.1 h0) (b5.1 h0), fun h0 => Int.le_trans (b5.2 h0) (hb.2 h0)⟩
theorem bk_pos {h : Int32} {lo y e : Int} {r : Int32} (b : bk h lo y e r) : r = -1 ∨ (1 ≤ r.toInt ∧ r.toInt ≤ 10000) := by
  rcases b with ⟨b1, b2⟩ | ⟨⟨e1, b1, b2, b3⟩, b4⟩
  · exact Or.inl b1
  · exact Or.inr ⟨b3.1, b3.2.1⟩
theorem bk_eq {h : Int32} {lo y e : Int} {r r2 : Int32} (b : bk h lo y e r) (b2 : bk h lo y e r2) : r = r2 := by
  rcases b with ⟨b1, b3⟩ | ⟨⟨e1, b1, b3, b4⟩, b5⟩
  · rcases b2 with ⟨c1, c3⟩ | ⟨⟨e1, c1, c3, c4⟩, c5⟩
    · rw [b1, c1]
    · exact absurd c4 (b3 _ e1 c1 c3)
  · rcases b2 with ⟨c1, c3⟩ | ⟨⟨e2, c1, c3, c4⟩, c5⟩
    · exact absurd b4 (c3 _ e1 b1 b3)
    · have d1 := b5 _ e2 c1 c3 c4
      have d2 := c5 _ e1 b1 b3 b4
      rw [zi_eq]
      by_cases q : h = 0
      · have := d1.1 q; have := d2.1 q; omega
      · have := d1.2 q; have := d2.2 q; omega
/-- what back answers -/
def sp_back (lo hi y h r : Int32) : Prop := (¬ (0 ≤ y.toInt ∧ y.toInt ≤ 20000) ∧ r = -1) ∨ ((0 ≤ y.toInt ∧ y.toInt ≤ 20000) ∧ bk h lo.toInt y.toInt (hi.toInt + 1) r)
theorem sp_back_eq {lo hi y h r r2 : Int32} (a : sp_back lo hi y h r) (b : sp_back lo hi y h r2) : r = r2 := by
  rcases a with ⟨a1, a2⟩ | ⟨a1, a2⟩
  · rcases b with ⟨b1, b2⟩ | ⟨b1, b2⟩
    · rw [a2, b2]
    · exact absurd b1 a1
  · rcases b with ⟨b1, b2⟩ | ⟨b1, b2⟩
    · exact absurd a1 b1
    · exact bk_eq a2 b2
section
variable (N F S T C : hyB) (R : hyW)
theorem l_sc_least (Q : hyQ) (y : Int32) (hC : iC C) (hy : 0 ≤ y.toInt ∧ y.toInt ≤ 20000)
    (K : ∀ r : Int32, bk 0 (C.2 0).toInt y.toInt ((C.2 1).toInt + 1) r → Q (some r) (wW N F S T C R)) :
    ∀ (k : Nat) (r e : Int32) (x : Option hyV), ((C.2 1).toInt + 1 - e.toInt).toNat = k → (C.2 0).toInt ≤ e.toInt → e.toInt ≤ (C.2 1).toInt + 1 → bk 0 (C.2 0).toInt y.toInt e.toInt r → hy_X none 4 mX3_leastWeight Q 0 0 (7, [some (hy_r 29), some (.inl y), some (.inl r), some (.inl e), x], [], wW N F S T C R) := by
  obtain ⟨c1, c2, c3, -⟩ := hC
  intro k
  induction k with
  | zero =>
    intro r e x hk h1 h2 h3
    refine hy_go hy_pfA oX3_leastWeight [7] 60 0 0 _ ?_
    refine And.intro (fun q => ?_) (fun q => ?_)
    · have : e.toInt = (C.2 1).toInt + 1 := by omega
      rw [this] at h3
      exact K r h3
    · exact absurd (zi_lt.mpr (by omega)) q
  | succ k ih =>
    intro r e x hk h1 h2 h3
    refine hy_go hy_pfA oX3_leastWeight [7] 60 0 0 _ ?_
    refine And.intro (fun q => ?_) (fun q => ?_)
    · have q := zi_lt.mp q
      omega
    · obtain ⟨w1, w2, w3⟩ := wb_I (y := y) (e := e) hy.1 (by omega) (by omega) (by omega)
      have e1 : (e + 1).toInt = e.toInt + 1 := zi_add (by show -2147483648 ≤ e.toInt + 1; omega) (by show e.toInt + 1 < 2147483648; omega)
      have e2 : (g_weightsBelow [y, e] + 1).toInt = (g_weightsBelow [y, e]).toInt + 1 := zi_add (by show -2147483648 ≤ (g_weightsBelow [y, e]).toInt + 1; omega) (by show (g_weightsBelow [y, e]).toInt + 1 < 2147483648; omega)
      have hmin : ∀ w, vw y.toInt w e.toInt → (g_weightsBelow [y, e] + 1).toInt ≤ w := fun w hw => by
        have := w3 w hw.1
        have h5 := hw.2.2
        rw [e2]; omega
      have hm : ∀ w, vw y.toInt w e.toInt → ((0 : Int32) = 0 → (g_weightsBelow [y, e] + 1).toInt ≤ w) ∧ (¬ (0 : Int32) = 0 → w ≤ (g_weightsBelow [y, e] + 1).toInt) := fun w hw => ⟨fun _ => hmin w hw, fun h => absurd rfl h⟩
      have nx : ∀ (r' : Int32) (x' : Option hyV), bk 0 (C.2 0).toInt y.toInt (e.toInt + 1) r' → hy_X none 4 mX3_leastWeight Q 0 0 (7, [some (hy_r 29), some (.inl y), some (.inl r'), some (.inl (e + 1)), x'], [], wW N F S T C R) := fun r' x' hb => ih r' (e + 1) x' (by rw [e1]; omega) (by rw [e1]; omega) (by rw [e1]; omega) (by rw [e1]; exact hb)
      refine And.intro (fun q2 => ?_) (fun q2 => ?_)
      · refine nx r _ (bk_none h3 (fun w hw => ?_))
        have hq := (iso_I (x := g_weightsBelow [y, e] + 1) (y := y) (e := e) (by omega) (by omega)).1 q2
        apply hq
        have h4 := hmin w hw
        have h5 : ¬ rd (g_weightsBelow [y, e] + 1).toInt e.toInt < y.toInt := by
          rw [w3 _ (by omega)]; omega
        have h6 : rd (g_weightsBelow [y, e] + 1).toInt e.toInt ≤ rd w e.toInt := Int.ediv_le_ediv (by omega) (Int.mul_le_mul_of_nonneg_right h4 (by omega))
        exact ⟨by omega, by have := hw.2.1; omega, by have := hw.2.2; omega⟩
      · have hv := (iso_I (x := g_weightsBelow [y, e] + 1) (y := y) (e := e) (by omega) (by omega)).2 q2
        refine And.intro (fun q3 => ?_) (fun q3 => And.intro (fun q4 => ?_) (fun q4 => ?_))
        · exact nx _ _ (bk_new h3 h1 hv hm (Or.inl q3))
        · exact nx _ _ (bk_old h3 q3 hm ⟨fun _ => zi_le.mp q4, fun h => absurd rfl h⟩)
        · exact nx _ _ (bk_new h3 h1 hv hm (Or.inr ⟨fun _ => Int.le_of_lt (Int.not_le.mp (fun h => q4 (zi_le.mpr h))), fun h => absurd rfl h⟩))
theorem l_sc_great (Q : hyQ) (y h : Int32) (hh : ¬ h = 0) (hC : iC C) (hy : 0 ≤ y.toInt ∧ y.toInt ≤ 20000)
    (K : ∀ r : Int32, bk h (C.2 0).toInt y.toInt ((C.2 1).toInt + 1) r → Q (some r) (wW N F S T C R)) :
    ∀ (k : Nat) (r e : Int32) (x : Option hyV), ((C.2 1).toInt + 1 - e.toInt).toNat = k → (C.2 0).toInt ≤ e.toInt → e.toInt ≤ (C.2 1).toInt + 1 → bk h (C.2 0).toInt y.toInt e.toInt r → hy_X none 4 mX3_greatestWeight Q 0 0 (7, [some (hy_r 29), some (.inl y), some (.inl r), some (.inl e), x], [], wW N F S T C R) := by
  obtain ⟨c1, c2, c3, -⟩ := hC
  intro k
  induction k with
  | zero =>
    intro r e x hk h1 h2 h3
    refine hy_go hy_pfA oX3_greatestWeight [7] 60 0 0 _ ?_
    refine And.intro (fun q => ?_) (fun q => ?_)
    · have : e.toInt = (C.2 1).toInt + 1 := by omega
      rw [this] at h3
      exact K r h3
    · exact absurd (zi_lt.mpr (by omega)) q
  | succ k ih =>
    intro r e x hk h1 h2 h3
    refine hy_go hy_pfA oX3_greatestWeight [7] 60 0 0 _ ?_
    refine And.intro (fun q => ?_) (fun q => ?_)
    · have q := zi_lt.mp q
      omega
    · have e0 : (y + 1).toInt = y.toInt + 1 := zi_add (by show -2147483648 ≤ y.toInt + 1; omega) (by show y.toInt + 1 < 2147483648; omega)
      obtain ⟨w1, w2, w3⟩ := wb_I (y := y + 1) (e := e) (by omega) (by omega) (by omega) (by omega)
      have e1 : (e + 1).toInt = e.toInt + 1 := zi_add (by show -2147483648 ≤ e.toInt + 1; omega) (by show e.toInt + 1 < 2147483648; omega)
      obtain ⟨c, hc⟩ : ∃ c : Int32, c = (if g_weightsBelow [y + 1, e] < 10000 then g_weightsBelow [y + 1, e] else 10000) := ⟨_, rfl⟩
      have hcI : c.toInt = if (g_weightsBelow [y + 1, e]).toInt < 10000 then (g_weightsBelow [y + 1, e]).toInt else 10000 := by
        rw [hc]
        by_cases q5 : g_weightsBelow [y + 1, e] < 10000
        · have q6 : (g_weightsBelow [y + 1, e]).toInt < 10000 := zi_lt.mp q5
          rw [if_pos q5, if_pos q6]
        · have q6 : ¬ (g_weightsBelow [y + 1, e]).toInt < 10000 := fun h => q5 (zi_lt.mpr h)
          rw [if_neg q5, if_neg q6]; rfl
      have hmax : ∀ w, vw y.toInt w e.toInt → w ≤ c.toInt := fun w hw => by
        have h4 := (w3 w hw.1).mp (by rw [hw.2.2, e0]; omega)
        have h5 := hw.2.1
        rw [hcI]; split <;> omega
      have hm : ∀ w, vw y.toInt w e.toInt → (h = 0 → c.toInt ≤ w) ∧ (¬ h = 0 → w ≤ c.toInt) := fun w hw => ⟨fun h0 => absurd h0 hh, fun _ => hmax w hw⟩
      have nx : ∀ (r' : Int32) (x' : Option hyV), bk h (C.2 0).toInt y.toInt (e.toInt + 1) r' → hy_X none 4 mX3_greatestWeight Q 0 0 (7, [some (hy_r 29), some (.inl y), some (.inl r'), some (.inl (e + 1)), x'], [], wW N F S T C R) := fun r' x' hb => ih r' (e + 1) x' (by rw [e1]; omega) (by rw [e1]; omega) (by rw [e1]; omega) (by rw [e1]; exact hb)
      have hiso := iso_I (x := c) (y := y) (e := e) (by omega) (by omega)
      have g1 : g_isReadSo [c, y, e] = 0 → bk h (C.2 0).toInt y.toInt (e.toInt + 1) r := fun q2 => bk_none h3 (fun w hw => by
        apply hiso.1 q2
        have h4 := hmax w hw
        have h5 : rd c.toInt e.toInt < (y + 1).toInt := (w3 _ (by have := hw.1; omega)).mpr (by rw [hcI]; split <;> omega)
        have h6 : rd w e.toInt ≤ rd c.toInt e.toInt := Int.ediv_le_ediv (by omega) (Int.mul_le_mul_of_nonneg_right h4 (by omega))
        exact ⟨by have := hw.1; omega, by rw [hcI]; split <;> omega, by have := hw.2.2; omega⟩)
      have g2 : ¬ g_isReadSo [c, y, e] = 0 → c ≤ r → bk h (C.2 0).toInt y.toInt (e.toInt + 1) r := fun q2 q3 => by
        have hv := hiso.2 q2
        have q3 := zi_le.mp q3
        refine bk_old h3 (fun q4 => ?_) hm ⟨fun h0 => absurd h0 hh, fun _ => q3⟩
        rw [q4, zi_m1] at q3
        have := hv.1; omega
      have g3 : ¬ g_isReadSo [c, y, e] = 0 → ¬ c ≤ r → bk h (C.2 0).toInt y.toInt (e.toInt + 1) c := fun q2 q3 => bk_new h3 h1 (hiso.2 q2) hm (Or.inr ⟨fun h0 => absurd h0 hh, fun _ => Int.le_of_lt (Int.not_le.mp (fun h => q3 (zi_le.mpr h)))⟩)
      rw [hc] at g1 g2 g3
      refine And.intro (fun q2 => ?_) (fun q2 => And.intro (fun q3 => ?_) (fun q3 => ?_))
      · exact nx r _ (g1 q2)
      · exact nx r _ (g2 q2 q3)
      · exact nx _ _ (g3 q2 q3)
theorem bk_0 {h : Int32} {lo y : Int} : bk h lo y lo (-1) := Or.inl ⟨rfl, fun w e' a1 a2 => absurd a2 (by omega)⟩
theorem r_sc_least (y : Int32) (hC : iC C) (hy : 0 ≤ y.toInt ∧ y.toInt ≤ 20000) : hy_R 4 mX3_leastWeight 0 0 [hy_r 29, .inl y] (wW N F S T C R) (fun o w1 => ∃ r, o = some r ∧ bk 0 (C.2 0).toInt y.toInt ((C.2 1).toInt + 1) r ∧ w1 = wW N F S T C R) := by
  refine hy_Ri (L := [some (hy_r 29), some (.inl y), none, none, none]) rfl (by decide) (hy_ple rfl) rfl ?_
  refine hy_go hy_pfA oX3_leastWeight [7] 60 0 0 _ ?_
  obtain ⟨c1, c2, c3, -⟩ := id hC
  exact l_sc_least N F S T C R _ y hC hy (fun r hr => ⟨r, rfl, hr, rfl⟩) _ (-1) (C.2 0) none rfl (Int.le_refl _) (by omega) bk_0
theorem r_sc_great (y h : Int32) (hh : ¬ h = 0) (hC : iC C) (hy : 0 ≤ y.toInt ∧ y.toInt ≤ 20000) : hy_R 4 mX3_greatestWeight 0 0 [hy_r 29, .inl y] (wW N F S T C R) (fun o w1 => ∃ r, o = some r ∧ bk h (C.2 0).toInt y.toInt ((C.2 1).toInt + 1) r ∧ w1 = wW N F S T C R) := by
  refine hy_Ri (L := [some (hy_r 29), some (.inl y), none, none, none]) rfl (by decide) (hy_ple rfl) rfl ?_
  refine hy_go hy_pfA oX3_greatestWeight [7] 60 0 0 _ ?_
  obtain ⟨c1, c2, c3, -⟩ := id hC
  exact l_sc_great N F S T C R _ y h hh hC hy (fun r hr => ⟨r, rfl, hr, rfl⟩) _ (-1) (C.2 0) none rfl (Int.le_refl _) (by omega) bk_0
theorem r_sc_weightFor (y h : Int32) (hC : iC C) : hy_R 5 mX3_weightFor 0 0 [hy_r 29, .inl y, .inl h] (wW N F S T C R) (fun o w1 => ∃ r, o = some r ∧ sp_back (C.2 0) (C.2 1) y h r ∧ w1 = wW N F S T C R) := by
  refine hy_Ri (L := [some (hy_r 29), some (.inl y), some (.inl h)]) rfl (by decide) (hy_ple rfl) rfl ?_
  refine hy_go hy_pfA oX3_weightFor [] 60 0 0 _ ?_
  refine And.intro (fun q => ?_) (fun q => And.intro (fun q2 => ?_) (fun q2 => ?_))
  · exact hy_fin ⟨Or.inl ⟨g_within_I q, rfl⟩, rfl⟩
  · have hy : 0 ≤ y.toInt ∧ y.toInt ≤ 20000 := g_within_nI q
    refine hy_cl (r_sc_least N F S T C R y hC hy) rfl ?_
    rintro o w1 ⟨r, rfl, hr, rfl⟩
    exact hy_fin ⟨Or.inr ⟨hy, q2 ▸ hr⟩, rfl⟩
  · have hy : 0 ≤ y.toInt ∧ y.toInt ≤ 20000 := g_within_nI q
    refine hy_cl (r_sc_great N F S T C R y h q2 hC hy) rfl ?_
    rintro o w1 ⟨r, rfl, hr, rfl⟩
    exact hy_fin ⟨Or.inr ⟨hy, hr⟩, rfl⟩
end
end
section
/-! ===== the reference's scale ===== -/
def iCM (M : hyB) : Prop := -200 ≤ (M.2 28).toInt ∧ (M.2 28).toInt ≤ (M.2 29).toInt ∧ (M.2 29).toInt ≤ 200 ∧ 0 ≤ (M.2 27).toInt ∧ (M.2 27).toInt ≤ 20
def iv_rd (lo x y e : Int) (a b : Int32) : Prop := (a = 1000000000 ∧ ∀ e', lo ≤ e' → e' < e → rd x e' ≠ y) ∨ (lo ≤ a.toInt ∧ a.toInt ≤ b.toInt ∧ b.toInt < e ∧ rd x a.toInt = y ∧ rd x b.toInt = y ∧ ∀ e', lo ≤ e' → e' < e → rd x e' = y → a.toInt ≤ e' ∧ e' ≤ b.toInt)
section
variable (N F S T C M : hyB)
theorem m_errs (h : Int32) : hy_R 3 mX6_errs 0 0 [hy_r 30, .inl h] (wW N F S T C (wM M)) (fun o w1 => ∃ x, o = some x ∧ x = (if h = 0 then M.2 28 else M.2 29) ∧ w1 = wW N F S T C (wM M)) := by
  refine hy_Ri (L := [some (hy_r 30), some (.inl h)]) rfl (by decide) (hy_ple rfl) rfl ?_
  refine hy_go hy_pfA oX6_errs [] 60 0 0 _ ?_
  refine And.intro (fun q => ?_) (fun q => ?_)
  · exact hy_fin ⟨(if_pos q).symm, rfl⟩
  · exact hy_fin ⟨(if_neg q).symm, rfl⟩
theorem l_m_reading (Q : hyQ) (x y : Int32) (hC : iCM M) (hx : 1 ≤ x.toInt ∧ x.toInt ≤ 10000)
    (K : ∀ a b e : Int32, iv_rd (M.2 28).toInt x.toInt y.toInt ((M.2 29).toInt + 1) a b → hy_X none 4 mX6_reading Q 0 0 (88, [some (hy_r 30), some (.inl x), some (.inl y), some (.inl a), some (.inl b), some (.inl e)], [], wW N F S T C (wM M))) :
    ∀ (k : Nat) (a b e : Int32), ((M.2 29).toInt + 1 - e.toInt).toNat = k → (M.2 28).toInt ≤ e.toInt → e.toInt ≤ (M.2 29).toInt + 1 → iv_rd (M.2 28).toInt x.toInt y.toInt e.toInt a b → hy_X none 4 mX6_reading Q 0 0 (46, [some (hy_r 30), some (.inl x), some (.inl y), some (.inl a), some (.inl b), some (.inl e)], [], wW N F S T C (wM M)) := by
  obtain ⟨c1, c2, c3, -⟩ := hC
  intro k
  induction k with
  | zero =>
    intro a b e hk h1 h2 h3
    refine hy_go hy_pfA oX6_reading [46, 88] 60 0 0 _ ?_
    refine And.intro (fun q => ?_) (fun q => ?_)
    · have : e.toInt = (M.2 29).toInt + 1 := by omega
      rw [this] at h3
      exact K a b e h3
    · exact absurd (zi_lt.mpr (by omega)) q
  | succ k ih =>
    intro a b e hk h1 h2 h3
    refine hy_go hy_pfA oX6_reading [46, 88] 60 0 0 _ ?_
    have e1 : (e + 1).toInt = e.toInt + 1 := zi_add (by show -2147483648 ≤ e.toInt + 1; omega) (by show e.toInt + 1 < 2147483648; omega)
    have hr : (g_readBy [x, e]).toInt = rd x.toInt e.toInt := by
      by_cases q : e.toInt ≤ 200
      · exact rd_I hx.1 hx.2 (by omega) q
      · omega
    have nx : ∀ a' b' : Int32, iv_rd (M.2 28).toInt x.toInt y.toInt (e.toInt + 1) a' b' → hy_X none 4 mX6_reading Q 0 0 (46, [some (hy_r 30), some (.inl x), some (.inl y), some (.inl a'), some (.inl b'), some (.inl (e + 1))], [], wW N F S T C (wM M)) := fun a' b' hb => ih a' b' (e + 1) (by rw [e1]; omega) (by rw [e1]; omega) (by rw [e1]; omega) (by rw [e1]; exact hb)
    have ext : ∀ {e' : Int}, e' < e.toInt + 1 → e' < e.toInt ∨ e' = e.toInt := fun h => by omega
    refine And.intro (fun q => ?_) (fun q => And.intro (fun q2 => ?_) (fun q2 => ?_))
    · have q := zi_lt.mp q
      omega
    · have hy : rd x.toInt e.toInt = y.toInt := by rw [← hr]; exact zi_eq.mp q2
      refine And.intro (fun q3 => ?_) (fun q3 => ?_)
      · refine nx e e (Or.inr ⟨h1, Int.le_refl _, by omega, hy, hy, fun e' g1 g2 g3 => ?_⟩)
        rcases h3 with ⟨p1, p2⟩ | ⟨p1, p2, p3, -⟩
        · rcases ext g2 with g4 | g4
          · exact absurd g3 (p2 e' g1 g4)
          · omega
        · have q3 := zi_eq.mp q3
          have : (1000000000 : Int32).toInt = 1000000000 := rfl
          omega
      · rcases h3 with ⟨p1, p2⟩ | ⟨p1, p2, p3, p4, p5, p6⟩
        · exact absurd p1 q3
        · refine nx a e (Or.inr ⟨p1, by omega, by omega, p4, hy, fun e' g1 g2 g3 => ?_⟩)
          rcases ext g2 with g4 | g4
          · have := p6 e' g1 g4 g3
            omega
          · omega
    · have hy : rd x.toInt e.toInt ≠ y.toInt := fun h => q2 (zi_eq.mpr (by rw [hr]; exact h))
      refine nx a b ?_
      rcases h3 with ⟨p1, p2⟩ | ⟨p1, p2, p3, p4, p5, p6⟩
      · refine Or.inl ⟨p1, fun e' g1 g2 => ?_⟩
        rcases ext g2 with g4 | g4
        · exact p2 e' g1 g4
        · rw [g4]; exact hy
      · refine Or.inr ⟨p1, p2, by omega, p4, p5, fun e' g1 g2 g3 => ?_⟩
        rcases ext g2 with g4 | g4
        · exact p6 e' g1 g4 g3
        · rw [g4] at g3; exact absurd g3 hy
set_option maxRecDepth 100000 in
theorem m_reading (x y : Int32) (hC : iCM M) : hy_R 4 mX6_reading 0 0 [hy_r 30, .inl x, .inl y] (wW N F S T C (wM M)) (fun o w1 => ∃ r, o = some r ∧ ∃ lo' hi' cn', sp_reading (M.2 28) (M.2 29) (M.2 27) x y r lo' hi' cn' ∧ w1 = wW N F S T C (wM (ss (ss (ss M 28 lo') 29 hi') 27 cn'))) := by
  refine hy_Ri (L := [some (hy_r 30), some (.inl x), some (.inl y), none, none, none]) rfl (by decide) (hy_ple rfl) rfl ?_
  refine hy_go hy_pfA oX6_reading [46] 60 0 0 _ ?_
  have hno : ¬ ((1 ≤ x.toInt ∧ x.toInt ≤ 10000) ∧ (0 ≤ y.toInt ∧ y.toInt ≤ 20000) ∧ (M.2 27).toInt < 20) → ∃ r, some (-1 : Int32) = some r ∧ ∃ lo' hi' cn', sp_reading (M.2 28) (M.2 29) (M.2 27) x y r lo' hi' cn' ∧ wW N F S T C (wM M) = wW N F S T C (wM (ss (ss (ss M 28 lo') 29 hi') 27 cn')) := fun h => ⟨-1, rfl, M.2 28, M.2 29, M.2 27, Or.inr ⟨fun q => h q.1, rfl, rfl, rfl, rfl⟩, rfl⟩
  refine And.intro (fun q => ?_) (fun q => And.intro (fun q2 => ?_) (fun q2 => And.intro (fun q3 => ?_) (fun q3 => ?_)))
  · exact hno (fun h => g_within_I q h.1)
  · exact hno (fun h => g_within_I q2 h.2.1)
  · refine hno (fun h => ?_)
    have : (20 : Int32).toInt = 20 := rfl
    have := zi_eq.mp q3
    omega
  · have hx : 1 ≤ x.toInt ∧ x.toInt ≤ 10000 := g_within_nI q
    have hy : 0 ≤ y.toInt ∧ y.toInt ≤ 20000 := g_within_nI q2
    obtain ⟨c1, c2, c3, c4, c5⟩ := id hC
    have hc : (M.2 27).toInt < 20 := by
      have : (20 : Int32).toInt = 20 := rfl
      have : ¬ (M.2 27).toInt = 20 := fun h => q3 (zi_eq.mpr h)
      omega
    refine l_m_reading N F S T C M _ x y hC hx (fun a b e h => ?_) _ _ _ _ rfl (Int.le_refl _) (by omega) (Or.inl ⟨rfl, fun e' g1 g2 => absurd g2 (by omega)⟩)
    refine hy_go hy_pfA oX6_reading [] 60 0 0 _ ?_
    refine And.intro (fun p => ?_) (fun p => ?_)
    · refine Exists.intro _ (And.intro rfl (Exists.intro (M.2 28) (Exists.intro (M.2 29) (Exists.intro (M.2 27) (And.intro (Or.inr ⟨fun h5 => ?_, rfl, rfl, rfl, rfl⟩) rfl)))))
      obtain ⟨-, e, e1, e2, e3⟩ := h5
      rcases h with ⟨p1, p2⟩ | ⟨p1, p2, p3, -⟩
      · exact p2 e e1 (by omega) e3
      · have : (1000000000 : Int32).toInt = 1000000000 := rfl
        have := zi_eq.mp p
        omega
    · rcases h with ⟨p1, p2⟩ | ⟨p1, p2, p3, p4, p5, p6⟩
      · exact absurd p1 p
      · refine Exists.intro _ (And.intro rfl (Exists.intro a (Exists.intro b (Exists.intro (M.2 27 + 1) (And.intro (Or.inl ⟨⟨hx, hy, hc⟩, ⟨a.toInt, p1, by omega, p4⟩, rfl, rfl, p1, p2, by omega, p4, p5, fun e e1 e2 e3 => p6 e e1 (by omega) e3⟩) rfl)))))
theorem m_one {y e : Int32} (h1 : 0 ≤ y.toInt) (h2 : y.toInt ≤ 20000) (h3 : -200 ≤ e.toInt) (h4 : e.toInt ≤ 200) : ¬ (1000 + e) = 0 ∧ 0 ≤ ((1000 * y + 999 + e) / (1000 + e)).toInt ∧ ((1000 * y + 999 + e) / (1000 + e)).toInt ≤ 30000 ∧ (∀ w, 1 ≤ w → (y.toInt ≤ rd w e.toInt ↔ ((1000 * y + 999 + e) / (1000 + e)).toInt ≤ w)) ∧ 0 ≤ ((1000 * y + 999) / (1000 + e)).toInt ∧ ((1000 * y + 999) / (1000 + e)).toInt ≤ 30000 ∧ (∀ w, 1 ≤ w → (rd w e.toInt ≤ y.toInt ↔ w ≤ ((1000 * y + 999) / (1000 + e)).toInt)) := by
  have a1 : (1000 + e).toInt = 1000 + e.toInt := by
    rw [zi_add]
    · rfl
    · show -2147483648 ≤ 1000 + e.toInt; omega
    · show 1000 + e.toInt < 2147483648; omega
  have a2 : (1000 * y).toInt = 1000 * y.toInt := zi_mul (by show -2147483648 ≤ 1000 * y.toInt; omega) (by show 1000 * y.toInt < 2147483648; omega)
  have a3 : (1000 * y + 999).toInt = 1000 * y.toInt + 999 := by
    rw [zi_add]
    · rw [a2]; rfl
    · rw [a2]; show -2147483648 ≤ 1000 * y.toInt + 999; omega
    · rw [a2]; show 1000 * y.toInt + 999 < 2147483648; omega
  have a4 : (1000 * y + 999 + e).toInt = 1000 * y.toInt + 999 + e.toInt := by
    rw [zi_add]
    · rw [a3]
    · rw [a3]; omega
    · rw [a3]; omega
  have a5 : ((1000 * y + 999 + e) / (1000 + e)).toInt = (1000 * y.toInt + 999 + e.toInt) / (1000 + e.toInt) := by
    rw [zi_div (by rw [a4]; omega) (by rw [a1]; omega), a4, a1]
  have a6 : ((1000 * y + 999) / (1000 + e)).toInt = (1000 * y.toInt + 999) / (1000 + e.toInt) := by
    rw [zi_div (by rw [a3]; omega) (by rw [a1]; omega), a3, a1]
  have b1 := zi_mb (a := 30001) (b := 1000 + e.toInt) (A := 30001) (B := 1200) (by omega) (by omega) (by omega) (by omega)
  have b2 : 30001 * 800 ≤ 30001 * (1000 + e.toInt) := by omega
  rw [a5, a6]
  refine ⟨fun h => ?_, Int.ediv_nonneg (by omega) (by omega), ?_, fun w hw => ?_, Int.ediv_nonneg (by omega) (by omega), ?_, fun w hw => ?_⟩
  · have := zi_eq.mp h
    rw [a1, zi_lit0] at this; omega
  · have : (1000 * y.toInt + 999 + e.toInt) / (1000 + e.toInt) < 30001 := by
      rw [Int.ediv_lt_iff_lt_mul (by omega)]; omega
    omega
  · have h5 : y.toInt ≤ rd w e.toInt ↔ ¬ w * (1000 + e.toInt) < 1000 * y.toInt := by rw [← rd_lt]; omega
    have h6 : (1000 * y.toInt + 999 + e.toInt) / (1000 + e.toInt) ≤ w ↔ (1000 * y.toInt + 999 + e.toInt) / (1000 + e.toInt) < w + 1 := by omega
    rw [h5, h6, Int.ediv_lt_iff_lt_mul (by omega), Int.add_mul]
    omega
  · have : (1000 * y.toInt + 999) / (1000 + e.toInt) < 30001 := by
      rw [Int.ediv_lt_iff_lt_mul (by omega)]; omega
    omega
  · rw [rd_le, Int.le_ediv_iff_mul_le (by omega)]
theorem l_m_back (Q : hyQ) (y h : Int32) (hC : iCM M) (hy : 0 ≤ y.toInt ∧ y.toInt ≤ 20000)
    (K : ∀ r : Int32, bk h (M.2 28).toInt y.toInt ((M.2 29).toInt + 1) r → Q (some r) (wW N F S T C (wM M))) :
    ∀ (k : Nat) (r e : Int32) (x1 x2 : Option hyV), ((M.2 29).toInt + 1 - e.toInt).toNat = k → (M.2 28).toInt ≤ e.toInt → e.toInt ≤ (M.2 29).toInt + 1 → bk h (M.2 28).toInt y.toInt e.toInt r → hy_X none 4 mX6_back Q 0 0 (21, [some (hy_r 30), some (.inl y), some (.inl h), some (.inl r), some (.inl e), x1, x2], [], wW N F S T C (wM M)) := by
  obtain ⟨c1, c2, c3, -⟩ := hC
  intro k
  induction k with
  | zero =>
    intro r e x1 x2 hk h1 h2 h3
    refine hy_go hy_pfA oX6_back [21] 60 0 0 _ ?_
    refine And.intro (fun q => ?_) (fun q => ?_)
    · have : e.toInt = (M.2 29).toInt + 1 := by omega
      rw [this] at h3
      exact K r h3
    · exact absurd (zi_lt.mpr (by omega)) q
  | succ k ih =>
    intro r e x1 x2 hk h1 h2 h3
    refine hy_go hy_pfA oX6_back [21, 101] 60 0 0 _ ?_
    refine And.intro (fun q => ?_) (fun q => ?_)
    · have q := zi_lt.mp q
      omega
    · have e1 : (e + 1).toInt = e.toInt + 1 := zi_add (by show -2147483648 ≤ e.toInt + 1; omega) (by show e.toInt + 1 < 2147483648; omega)
      obtain ⟨o0, o1, o2, o3, o4, o5, o6⟩ := m_one (y := y) (e := e) hy.1 hy.2 (by omega) (by omega)
      have nx : ∀ (r' : Int32) (x' x'' : Option hyV), bk h (M.2 28).toInt y.toInt (e.toInt + 1) r' → hy_X none 4 mX6_back Q 0 0 (21, [some (hy_r 30), some (.inl y), some (.inl h), some (.inl r'), some (.inl (e + 1)), x', x''], [], wW N F S T C (wM M)) := fun r' x' x'' hb => ih r' (e + 1) x' x'' (by rw [e1]; omega) (by rw [e1]; omega) (by rw [e1]; omega) (by rw [e1]; exact hb)
      have key : ∀ a b : Int32, a.toInt = (if ((1000 * y + 999 + e) / (1000 + e)).toInt < 1 then 1 else ((1000 * y + 999 + e) / (1000 + e)).toInt) → b.toInt = (if 10000 < ((1000 * y + 999) / (1000 + e)).toInt then 10000 else ((1000 * y + 999) / (1000 + e)).toInt) → hy_X none 4 mX6_back Q 0 0 (101, [some (hy_r 30), some (.inl y), some (.inl h), some (.inl r), some (.inl e), some (.inl a), some (.inl b)], [], wW N F S T C (wM M)) := by
        intro a b ha hb
        have hv : ∀ w, vw y.toInt w e.toInt ↔ a.toInt ≤ w ∧ w ≤ b.toInt := fun w => by
          constructor
          · rintro ⟨p1, p2, p3⟩
            have p4 := (o3 w p1).mp (by omega)
            have p5 := (o6 w p1).mp (by omega)
            constructor
            · rw [ha]; split <;> omega
            · rw [hb]; split <;> omega
          · rintro ⟨p1, p2⟩
            rw [ha] at p1
            rw [hb] at p2
            have g1 : 1 ≤ w := by split at p1 <;> omega
            have g2 : w ≤ 10000 := by split at p2 <;> omega
            have g3 := (o3 w g1).mpr (by split at p1 <;> omega)
            have g4 := (o6 w g1).mpr (by split at p2 <;> omega)
            exact ⟨g1, g2, by omega⟩
        have hma : h = 0 → ∀ w, vw y.toInt w e.toInt → (h = 0 → a.toInt ≤ w) ∧ (¬ h = 0 → w ≤ a.toInt) := fun h0 w hw => ⟨fun _ => ((hv w).mp hw).1, fun h5 => absurd h0 h5⟩
        have hmb : ¬ h = 0 → ∀ w, vw y.toInt w e.toInt → (h = 0 → b.toInt ≤ w) ∧ (¬ h = 0 → w ≤ b.toInt) := fun h0 w hw => ⟨fun h5 => absurd h5 h0, fun _ => ((hv w).mp hw).2⟩
        refine hy_go hy_pfA oX6_back [21] 60 0 0 _ ?_
        refine And.intro (fun q2 => ?_) (fun q2 => ?_)
        · have q2 := zi_lt.mp q2
          exact nx r _ _ (bk_none h3 (fun w hw => by have := (hv w).mp hw; omega))
        · have q2 : a.toInt ≤ b.toInt := Int.not_lt.mp (fun h => q2 (zi_lt.mpr h))
          have hva := (hv a.toInt).mpr ⟨Int.le_refl _, q2⟩
          have hvb := (hv b.toInt).mpr ⟨q2, Int.le_refl _⟩
          refine And.intro (fun q3 => ?_) (fun q3 => ?_)
          · have q3 : r = -1 := by
              have q3 := zi_lt.mp q3
              rw [zi_lit0] at q3
              rcases bk_pos h3 with p | p
              · exact p
              · omega
            refine And.intro (fun q4 => ?_) (fun q4 => ?_)
            · exact nx a _ _ (bk_new h3 h1 hva (hma q4) (Or.inl q3))
            · exact nx b _ _ (bk_new h3 h1 hvb (hmb q4) (Or.inl q3))
          · have q3 : ¬ r = -1 := fun p => q3 (by rw [p]; decide)
            refine And.intro (fun q4 => And.intro (fun q5 => ?_) (fun q5 => And.intro (fun q6 => ?_) (fun q6 => absurd q4 q6))) (fun q4 => And.intro (fun q5 => ?_) (fun q5 => And.intro (fun q6 => absurd q6 q4) (fun q6 => ?_)))
            · exact nx r _ _ (bk_old h3 q3 (hma q4) ⟨fun _ => zi_le.mp q5, fun h5 => absurd q4 h5⟩)
            · exact nx a _ _ (bk_new h3 h1 hva (hma q4) (Or.inr ⟨fun _ => Int.le_of_lt (Int.not_le.mp (fun h => q5 (zi_le.mpr h))), fun h5 => absurd q4 h5⟩))
            · exact nx r _ _ (bk_old h3 q3 (hmb q4) ⟨fun h5 => absurd h5 q4, fun _ => zi_le.mp q5⟩)
            · exact nx b _ _ (bk_new h3 h1 hvb (hmb q4) (Or.inr ⟨fun h5 => absurd h5 q4, fun _ => Int.le_of_lt (Int.not_le.mp (fun h => q5 (zi_le.mpr h)))⟩))
      refine And.intro o0 (And.intro o0 ?_)
      refine And.intro (fun p1 => And.intro (fun p2 => key _ _ ?_ ?_) (fun p2 => key _ _ ?_ ?_)) (fun p1 => And.intro (fun p2 => key _ _ ?_ ?_) (fun p2 => key _ _ ?_ ?_))
      all_goals (first | (have p1 : (1 : Int) ≤ ((1000 * y + 999 + e) / (1000 + e)).toInt := zi_le.mp p1; rw [if_neg (by omega)]; done) | (have p1 : ¬ (1 : Int) ≤ ((1000 * y + 999 + e) / (1000 + e)).toInt := (fun h => p1 (zi_le.mpr h)); rw [if_pos (by omega)]; rfl; done) | (have p2 : ((1000 * y + 999) / (1000 + e)).toInt ≤ 10000 := zi_le.mp p2; rw [if_neg (by omega)]; done) | (have p2 : ¬ ((1000 * y + 999) / (1000 + e)).toInt ≤ 10000 := (fun h => p2 (zi_le.mpr h)); rw [if_pos (by omega)]; rfl; done))
theorem m_back (y h : Int32) (hC : iCM M) : hy_R 4 mX6_back 0 0 [hy_r 30, .inl y, .inl h] (wW N F S T C (wM M)) (fun o w1 => ∃ r, o = some r ∧ sp_back (M.2 28) (M.2 29) y h r ∧ w1 = wW N F S T C (wM M)) := by
  refine hy_Ri (L := [some (hy_r 30), some (.inl y), some (.inl h), none, none, none, none]) rfl (by decide) (hy_ple rfl) rfl ?_
  refine hy_go hy_pfA oX6_back [21] 60 0 0 _ ?_
  refine And.intro (fun q => ?_) (fun q => ?_)
  · exact hy_fin ⟨Or.inl ⟨g_within_I q, rfl⟩, rfl⟩
  · have hy : 0 ≤ y.toInt ∧ y.toInt ≤ 20000 := g_within_nI q
    obtain ⟨c1, c2, c3, -⟩ := id hC
    exact l_m_back N F S T C M _ y h hC hy (fun r hr => ⟨r, rfl, Or.inr ⟨hy, hr⟩, rfl⟩) _ (-1) (M.2 28) none none rfl (Int.le_refl _) (by omega) bk_0
end
end
section
/-! ===== the nets of the class ===== -/
theorem vi_of {x : Int32} {n : Nat} (h1 : 0 ≤ x.toInt) (h2 : x.toInt < n) : vp_in x n := vp_in_iff.mpr ⟨h1, h2⟩
theorem cl_nI {n : Nat} (h : n < 2147483648) : (nI n).toNatClampNeg = n := nI_clamp h
theorem vn_in {k N : Nat} (h : k < N) (h2 : N ≤ 256) : vp_in (nI k) N := vp_in_nI h (by omega)
theorem nI_s (k : Nat) : nI k + 1 = nI (k + 1) := nI_1 k
theorem nI_le24 {a b : Nat} (ha : a < 2147483648) (hb : b < 2147483648) : nI a ≤ nI b ↔ a ≤ b := nI_leI ha hb
/-- a net's rate -/
def rtf (rates salts pits : Nat → Int32) (k : Nat) : Int32 := rates (salts (pits k).toNatClampNeg).toNatClampNeg
def iN (N : hyB) (n : Nat) : Prop := N.2 8 = nI n ∧ n ≤ 24 ∧ (∀ i, 0 ≤ (N.1 0 i).toInt ∧ (N.1 0 i).toInt ≤ 9) ∧ (∀ i, 0 ≤ (N.1 2 i).toInt ∧ (N.1 2 i).toInt ≤ 7)
def ptf (z : Nat → Prop) [DecidablePred z] (p r : Nat → Int32) (n : Int32) (i : Nat) : Nat → Int32 := fun k => if k < i ∧ z k then p k + n * r k else p k
theorem ptf_y {z : Nat → Prop} [DecidablePred z] {p r : Nat → Int32} {n : Int32} {i : Nat} (h : z i) : ptf z p r n (i + 1) = upd (ptf z p r n i) i (ptf z p r n i i + n * r i) := by
  funext k
  unfold upd ptf
  by_cases e : k = i
  · subst e
    rw [if_pos rfl, if_pos ⟨by omega, h⟩, if_neg (by omega)]
  · rw [if_neg e]
    by_cases q : k < i ∧ z k
    · rw [if_pos q, if_pos ⟨by omega, q.2⟩]
    · rw [if_neg q, if_neg (fun p => q ⟨by omega, p.2⟩)]
theorem ptf_n {z : Nat → Prop} [DecidablePred z] {p r : Nat → Int32} {n : Int32} {i : Nat} (h : ¬ z i) : ptf z p r n (i + 1) = ptf z p r n i := by
  funext k
  unfold ptf
  by_cases q : k < i ∧ z k
  · rw [if_pos q, if_pos ⟨by omega, q.2⟩]
  · rw [if_neg q, if_neg (fun p => q ⟨by have : k ≠ i := (fun e => h (e ▸ p.2)); omega, p.2⟩)]
section
variable (N F S T C : hyB) (R : hyW)
theorem r_n_count : hy_R 3 mX2_count 0 0 [hy_r 1] (wW N F S T C R) (fun o w1 => ∃ x, o = some x ∧ x = N.2 8 ∧ w1 = wW N F S T C R) := by
  refine hy_Ri (L := [some (hy_r 1)]) rfl (by decide) (hy_ple rfl) rfl ?_
  refine hy_go hy_pfA oX2_count [] 60 0 0 _ ?_
  exact hy_fin ⟨rfl, rfl⟩
theorem r_n_clock : hy_R 3 mX2_clock 0 0 [hy_r 1] (wW N F S T C R) (fun o w1 => ∃ x, o = some x ∧ x = N.2 9 ∧ w1 = wW N F S T C R) := by
  refine hy_Ri (L := [some (hy_r 1)]) rfl (by decide) (hy_ple rfl) rfl ?_
  refine hy_go hy_pfA oX2_clock [] 60 0 0 _ ?_
  exact hy_fin ⟨rfl, rfl⟩
theorem r_n_husk : hy_R 3 mX2_huskTotal 0 0 [hy_r 1] (wW N F S T C R) (fun o w1 => ∃ x, o = some x ∧ x = N.2 10 ∧ w1 = wW N F S T C R) := by
  refine hy_Ri (L := [some (hy_r 1)]) rfl (by decide) (hy_ple rfl) rfl ?_
  refine hy_go hy_pfA oX2_huskTotal [] 60 0 0 _ ?_
  exact hy_fin ⟨rfl, rfl⟩
theorem r_n_setSalt (a v : Int32) : hy_R 4 mX2_setSalt 0 0 [hy_r 1, .inl a, .inl v] (wW N F S T C R) (fun o w1 => ∃ x, o = some x ∧ (((0 ≤ a ∧ a ≤ 7) ∧ (0 ≤ v ∧ v ≤ 9)) ∧ x = 1 ∧ w1 = wW (sa N 0 (upd (N.1 0) a.toNatClampNeg v)) F S T C R ∨ ¬ ((0 ≤ a ∧ a ≤ 7) ∧ (0 ≤ v ∧ v ≤ 9)) ∧ x = 0 ∧ w1 = wW N F S T C R)) := by
  refine hy_Rz (L := [some (hy_r 1), some (.inl a), some (.inl v)]) rfl (by decide) (fun x w h => ?_) (hy_ple rfl) rfl ?_
  · rcases h with ⟨-, h, -⟩ | ⟨-, h, -⟩
    · exact Or.inr h
    · exact Or.inl h
  refine hy_go hy_pfA oX2_setSalt [] 60 0 0 _ ?_
  refine And.intro (fun q => ?_) (fun q => And.intro (fun q2 => ?_) (fun q2 => ?_))
  · exact hy_fin (Or.inr ⟨fun h => g_within_0 q h.1, rfl, rfl⟩)
  · exact hy_fin (Or.inr ⟨fun h => g_within_0 q2 h.2, rfl, rfl⟩)
  · have h1 := g_within_n0 q
    have h2 : 0 ≤ a.toInt := zi_le.mp h1.1
    have h3 : a.toInt ≤ 7 := zi_le.mp h1.2
    refine And.intro (vi_of h2 (by omega)) ?_
    exact hy_fin (Or.inl ⟨⟨h1, g_within_n0 q2⟩, rfl, rfl⟩)
theorem r_n_setRipens (a v : Int32) : hy_R 4 mX2_setRipens 0 0 [hy_r 1, .inl a, .inl v] (wW N F S T C R) (fun o w1 => ∃ x, o = some x ∧ (((0 ≤ a ∧ a ≤ 9) ∧ (0 ≤ v ∧ v ≤ 50)) ∧ x = 1 ∧ w1 = wW (sa N 1 (upd (N.1 1) a.toNatClampNeg v)) F S T C R ∨ ¬ ((0 ≤ a ∧ a ≤ 9) ∧ (0 ≤ v ∧ v ≤ 50)) ∧ x = 0 ∧ w1 = wW N F S T C R)) := by
  refine hy_Rz (L := [some (hy_r 1), some (.inl a), some (.inl v)]) rfl (by decide) (fun x w h => ?_) (hy_ple rfl) rfl ?_
  · rcases h with ⟨-, h, -⟩ | ⟨-, h, -⟩
    · exact Or.inr h
    · exact Or.inl h
  refine hy_go hy_pfA oX2_setRipens [] 60 0 0 _ ?_
  refine And.intro (fun q => ?_) (fun q => And.intro (fun q2 => ?_) (fun q2 => ?_))
  · exact hy_fin (Or.inr ⟨fun h => g_within_0 q h.1, rfl, rfl⟩)
  · exact hy_fin (Or.inr ⟨fun h => g_within_0 q2 h.2, rfl, rfl⟩)
  · have h1 := g_within_n0 q
    have h2 : 0 ≤ a.toInt := zi_le.mp h1.1
    have h3 : a.toInt ≤ 9 := zi_le.mp h1.2
    refine And.intro (vi_of h2 (by omega)) ?_
    exact hy_fin (Or.inl ⟨⟨h1, g_within_n0 q2⟩, rfl, rfl⟩)
/-- when a net may come -/
def c_net (a b h g : Int32) (n : Nat) : Prop := (0 ≤ a ∧ a ≤ 7) ∧ (0 ≤ b ∧ b ≤ 255) ∧ (1 ≤ h ∧ h ≤ 1000) ∧ (1 ≤ g ∧ g ≤ 2000) ∧ n < 24
set_option maxRecDepth 100000 in
theorem r_n_putIn (a b h g : Int32) (n : Nat) (hN : iN N n) : hy_R 4 mX2_putIn 0 0 [hy_r 1, .inl a, .inl b, .inl h, .inl g] (wW N F S T C R) (fun o w1 => ∃ x, o = some x ∧ (c_net a b h g n ∧ x = nI n ∧ w1 = wW (ss (sa (sa (sa (sa (sa (sa N 2 (upd (N.1 2) n a)) 3 (upd (N.1 3) n b)) 4 (upd (N.1 4) n h)) 5 (upd (N.1 5) n g)) 6 (upd (N.1 6) n 0)) 7 (upd (N.1 7) n 0)) 8 (nI (n + 1))) F S T C R ∨ ¬ c_net a b h g n ∧ x = -1 ∧ w1 = wW N F S T C R)) := by
  obtain ⟨c1, c2, -, -⟩ := hN
  refine hy_Ri (L := [some (hy_r 1), some (.inl a), some (.inl b), some (.inl h), some (.inl g)]) rfl (by decide) (hy_ple rfl) rfl ?_
  refine hy_go hy_pfA oX2_putIn [] 80 0 0 _ ?_
  have hi : n < 24 → vp_in (N.2 8) 24 := fun h => by rw [c1]; exact vn_in h (by omega)
  refine And.intro (fun q => ?_) (fun q => And.intro (fun q2 => ?_) (fun q2 => And.intro (fun q3 => ?_) (fun q3 => And.intro (fun q4 => ?_) (fun q4 => And.intro (fun q5 => ?_) (fun q5 => ?_)))))
  · exact hy_fin (Or.inr ⟨fun h => g_within_0 q h.1, rfl, rfl⟩)
  · exact hy_fin (Or.inr ⟨fun h => g_within_0 q2 h.2.1, rfl, rfl⟩)
  · exact hy_fin (Or.inr ⟨fun h => g_within_0 q3 h.2.2.1, rfl, rfl⟩)
  · exact hy_fin (Or.inr ⟨fun h => g_within_0 q4 h.2.2.2.1, rfl, rfl⟩)
  · have hn : n < 24 := by
      have q5 := zi_lt.mp q5
      rw [c1, zi_nI (by omega)] at q5
      have : (24 : Int32).toInt = 24 := rfl
      omega
    refine And.intro (hi hn) (And.intro (hi hn) (And.intro (hi hn) (And.intro (hi hn) (And.intro (hi hn) (And.intro (hi hn) ?_)))))
    have hcl : (N.2 8).toNatClampNeg = n := by rw [c1, cl_nI (by omega)]
    have e1 : N.2 8 + 1 = nI (n + 1) := by rw [c1, nI_s]
    have e2 : N.2 8 + 1 - 1 = nI n := by rw [e1]; exact nI_pred n
    have key : ∃ x, some (N.2 8 + 1 - 1) = some x ∧ (c_net a b h g n ∧ x = nI n ∧ wW (ss (sa (sa (sa (sa (sa (sa N 2 (upd (N.1 2) (N.2 8).toNatClampNeg a)) 3 (upd (N.1 3) (N.2 8).toNatClampNeg b)) 4 (upd (N.1 4) (N.2 8).toNatClampNeg h)) 5 (upd (N.1 5) (N.2 8).toNatClampNeg g)) 6 (upd (N.1 6) (N.2 8).toNatClampNeg 0)) 7 (upd (N.1 7) (N.2 8).toNatClampNeg 0)) 8 (N.2 8 + 1)) F S T C R = wW (ss (sa (sa (sa (sa (sa (sa N 2 (upd (N.1 2) n a)) 3 (upd (N.1 3) n b)) 4 (upd (N.1 4) n h)) 5 (upd (N.1 5) n g)) 6 (upd (N.1 6) n 0)) 7 (upd (N.1 7) n 0)) 8 (nI (n + 1))) F S T C R ∨ ¬ c_net a b h g n ∧ x = -1 ∧ wW (ss (sa (sa (sa (sa (sa (sa N 2 (upd (N.1 2) (N.2 8).toNatClampNeg a)) 3 (upd (N.1 3) (N.2 8).toNatClampNeg b)) 4 (upd (N.1 4) (N.2 8).toNatClampNeg h)) 5 (upd (N.1 5) (N.2 8).toNatClampNeg g)) 6 (upd (N.1 6) (N.2 8).toNatClampNeg 0)) 7 (upd (N.1 7) (N.2 8).toNatClampNeg 0)) 8 (N.2 8 + 1)) F S T C R = wW N F S T C R) := ⟨_, rfl, Or.inl ⟨⟨g_within_n0 q, g_within_n0 q2, g_within_n0 q3, g_within_n0 q4, hn⟩, e2, by rw [hcl, e1]⟩⟩
    exact key
  · refine hy_fin (Or.inr ⟨fun h => q5 (zi_lt.mpr ?_), rfl, rfl⟩)
    have := h.2.2.2.2
    rw [c1, zi_nI (by omega)]
    have : (24 : Int32).toInt = 24 := rfl
    omega
theorem r_n_rateAt (k n : Nat) (hN : iN N n) (hk : k < 24) : hy_R 3 mX2_rateAt 0 0 [hy_r 1, .inl (nI k)] (wW N F S T C R) (fun o w1 => ∃ x, o = some x ∧ x = rtf (N.1 1) (N.1 0) (N.1 2) k ∧ w1 = wW N F S T C R) := by
  obtain ⟨-, -, c3, c4⟩ := hN
  have hcl : (nI k).toNatClampNeg = k := cl_nI (by omega)
  refine hy_Ri (L := [some (hy_r 1), some (.inl (nI k))]) rfl (by decide) (hy_ple rfl) rfl ?_
  refine hy_go hy_pfA oX2_rateAt [] 60 0 0 _ ?_
  refine And.intro (vn_in hk (by omega)) (And.intro ?_ (And.intro ?_ ?_))
  · have := c4 (nI k).toNatClampNeg
    exact vi_of this.1 (by omega)
  · have := c3 (N.1 2 (nI k).toNatClampNeg).toNatClampNeg
    exact vi_of this.1 (by omega)
  · refine hy_fin ⟨?_, rfl⟩
    show N.1 1 (N.1 0 (N.1 2 (nI k).toNatClampNeg).toNatClampNeg).toNatClampNeg = _
    rw [hcl]; rfl
theorem r_n_isRipe (k : Nat) (hk : k < 24) : hy_R 3 mX2_isRipe 0 0 [hy_r 1, .inl (nI k)] (wW N F S T C R) (fun o w1 => ∃ x, o = some x ∧ x = (if N.1 6 k < N.1 5 k then 0 else 1) ∧ w1 = wW N F S T C R) := by
  have hcl : (nI k).toNatClampNeg = k := cl_nI (by omega)
  refine hy_Rz (L := [some (hy_r 1), some (.inl (nI k))]) rfl (by decide) (fun x w h => ?_) (hy_ple rfl) rfl ?_
  · rw [h.1]; split
    · exact Or.inl rfl
    · exact Or.inr rfl
  refine hy_go hy_pfA oX2_isRipe [] 60 0 0 _ ?_
  refine And.intro (vn_in hk (by omega)) (And.intro (vn_in hk (by omega)) (And.intro (fun q => ?_) (fun q => ?_)))
  · rw [hcl] at q
    exact hy_fin ⟨(if_pos q).symm, rfl⟩
  · rw [hcl] at q
    exact hy_fin ⟨(if_neg q).symm, rfl⟩
theorem r_n_isNet (a : Int32) : hy_R 4 mX2_isNet 0 0 [hy_r 1, .inl a] (wW N F S T C R) (fun o w1 => ∃ x, o = some x ∧ x = g_within [a, 0, N.2 8 - 1] ∧ w1 = wW N F S T C R) := by
  refine hy_Rz (L := [some (hy_r 1), some (.inl a)]) rfl (by decide) (fun x w h => h.1 ▸ g_within_01 _) (hy_ple rfl) rfl ?_
  refine hy_go hy_pfA oX2_isNet [] 60 0 0 _ ?_
  exact hy_fin ⟨rfl, rfl⟩
/-- a number of a net -/
theorem net_in {a : Int32} {n : Nat} (hn : n ≤ 256) (h : ¬ g_within [a, 0, nI n - 1] = 0) : ∃ k, k < n ∧ a = nI k := by
  obtain ⟨h1, h2⟩ := g_within_n0 h
  have h3 : 0 ≤ a.toInt := zi_le.mp h1
  have h4 := zi_le.mp h2
  have h5 : (nI n - 1).toInt = (n : Int) - 1 := by
    have e := zi_nI (n := n) (by omega)
    rw [zi_sub]
    · rw [e]; rfl
    · rw [e]; show -2147483648 ≤ (n : Int) - 1; omega
    · rw [e]; show (n : Int) - 1 < 2147483648; omega
  exact ⟨a.toInt.toNat, by omega, zi_of h3⟩
theorem net_out {a : Int32} {n : Nat} (hn : n ≤ 256) (h : g_within [a, 0, nI n - 1] = 0) : ¬ ∃ k, k < n ∧ a = nI k := by
  rintro ⟨k, hk, rfl⟩
  apply g_within_0 h
  have h5 : (nI n - 1).toInt = (n : Int) - 1 := by
    have e := zi_nI (n := n) (by omega)
    rw [zi_sub]
    · rw [e]; rfl
    · rw [e]; show -2147483648 ≤ (n : Int) - 1; omega
    · rw [e]; show (n : Int) - 1 < 2147483648; omega
  refine ⟨zi_le.mpr ?_, zi_le.mpr ?_⟩
  · rw [zi_nI (by omega)]; show (0 : Int) ≤ k; omega
  · rw [zi_nI (by omega), h5]; omega
theorem l_n_goBy (Q : hyQ) (v : Int32) (n : Nat) (hN : iN N n)
    (K : hy_X none 4 mX2_goBy Q 0 0 (65, [some (hy_r 1), some (.inl v), some (.inl (nI n))], [], wW (sa N 6 (ptf (fun k => N.1 7 k = 0) (N.1 6) (rtf (N.1 1) (N.1 0) (N.1 2)) v n)) F S T C R)) :
    ∀ (j i : Nat), n - i = j → i ≤ n → hy_X none 4 mX2_goBy Q 0 0 (26, [some (hy_r 1), some (.inl v), some (.inl (nI i))], [], wW (sa N 6 (ptf (fun k => N.1 7 k = 0) (N.1 6) (rtf (N.1 1) (N.1 0) (N.1 2)) v i)) F S T C R) := by
  obtain ⟨c1, c2, c3, c4⟩ := id hN
  intro j
  induction j with
  | zero =>
    intro i hj hi
    have : i = n := by omega
    subst this
    refine hy_go hy_pfA oX2_goBy [26, 65] 60 0 0 _ ?_
    refine And.intro (fun q => K) (fun q => absurd ?_ q)
    show N.2 8 ≤ nI i
    rw [c1]; exact Int32.le_refl _
  | succ j ih =>
    intro i hj hi
    have hcl : (nI i).toNatClampNeg = i := cl_nI (by omega)
    have nx := ih (i + 1) (by omega) (by omega)
    rw [← nI_s] at nx
    refine hy_go hy_pfA oX2_goBy [26, 65] 60 0 0 _ ?_
    refine And.intro (fun q => ?_) (fun q => ?_)
    · have q : N.2 8 ≤ nI i := q
      rw [c1, nI_le24 (by omega) (by omega)] at q
      omega
    · refine And.intro (vn_in (by omega) (by omega)) ?_
      refine And.intro (fun q2 => ?_) (fun q2 => ?_)
      · have q2 : N.1 7 (nI i).toNatClampNeg = 0 := q2
        rw [hcl] at q2
        refine And.intro (vn_in (by omega) (by omega)) ?_
        refine hy_cl (r_n_rateAt (sa N 6 (ptf (fun k => N.1 7 k = 0) (N.1 6) (rtf (N.1 1) (N.1 0) (N.1 2)) v i)) F S T C R i n hN (by omega)) rfl ?_
        rintro o w1 ⟨x, rfl, rfl, rfl⟩
        refine And.intro (vn_in (by omega) (by omega)) ?_
        rw [ptf_y (z := fun k => N.1 7 k = 0) q2] at nx
        have e : upd (ptf (fun k => N.1 7 k = 0) (N.1 6) (rtf (N.1 1) (N.1 0) (N.1 2)) v i) (nI i).toNatClampNeg (ptf (fun k => N.1 7 k = 0) (N.1 6) (rtf (N.1 1) (N.1 0) (N.1 2)) v i (nI i).toNatClampNeg + v * rtf (N.1 1) (N.1 0) (N.1 2) i) = upd (ptf (fun k => N.1 7 k = 0) (N.1 6) (rtf (N.1 1) (N.1 0) (N.1 2)) v i) i (ptf (fun k => N.1 7 k = 0) (N.1 6) (rtf (N.1 1) (N.1 0) (N.1 2)) v i i + v * rtf (N.1 1) (N.1 0) (N.1 2) i) := by rw [hcl]
        rw [← e] at nx
        exact nx
      · have q2 : ¬ N.1 7 (nI i).toNatClampNeg = 0 := q2
        rw [hcl] at q2
        rw [ptf_n (z := fun k => N.1 7 k = 0) q2] at nx
        exact nx
/-- when weeks may go by -/
def c_weeks (v wk : Int32) : Prop := (1 ≤ v ∧ v ≤ 100) ∧ wk + v ≤ 500
theorem ptf_0 {z : Nat → Prop} [DecidablePred z] {p r : Nat → Int32} {n : Int32} : ptf z p r n 0 = p := by
  funext k
  unfold ptf
  rw [if_neg (by omega)]
set_option maxRecDepth 100000 in
theorem r_n_goBy (v : Int32) (n : Nat) (hN : iN N n) : hy_R 4 mX2_goBy 0 0 [hy_r 1, .inl v] (wW N F S T C R) (fun o w1 => ∃ x, o = some x ∧ (c_weeks v (N.2 9) ∧ x = N.2 9 + v ∧ w1 = wW (ss (sa N 6 (ptf (fun k => N.1 7 k = 0) (N.1 6) (rtf (N.1 1) (N.1 0) (N.1 2)) v n)) 9 (N.2 9 + v)) F S T C R ∨ ¬ c_weeks v (N.2 9) ∧ x = -1 ∧ w1 = wW N F S T C R)) := by
  refine hy_Ri (L := [some (hy_r 1), some (.inl v), none]) rfl (by decide) (hy_ple rfl) rfl ?_
  refine hy_go hy_pfA oX2_goBy [26] 60 0 0 _ ?_
  refine And.intro (fun q => ?_) (fun q => And.intro (fun q2 => ?_) (fun q2 => ?_))
  · exact hy_fin (Or.inr ⟨fun h => g_within_0 q h.1, rfl, rfl⟩)
  · have := l_n_goBy N F S T C R (fun o w1 => ∃ x, o = some x ∧ (c_weeks v (N.2 9) ∧ x = N.2 9 + v ∧ w1 = wW (ss (sa N 6 (ptf (fun k => N.1 7 k = 0) (N.1 6) (rtf (N.1 1) (N.1 0) (N.1 2)) v n)) 9 (N.2 9 + v)) F S T C R ∨ ¬ c_weeks v (N.2 9) ∧ x = -1 ∧ w1 = wW N F S T C R)) v n hN (by
      refine hy_go hy_pfA oX2_goBy [] 60 0 0 _ ?_
      exact hy_fin (Or.inl ⟨⟨g_within_n0 q, q2⟩, rfl, rfl⟩)) n 0 (by omega) (by omega)
    rw [ptf_0] at this
    exact this
  · exact hy_fin (Or.inr ⟨fun h => q2 h.2, rfl, rfl⟩)
end
end
section
/-! ===== the nets of the class, the rest ===== -/
/-- how many below i -/
def cntf (P : Nat → Prop) [DecidablePred P] : Nat → Nat
  | 0 => 0
  | i + 1 => cntf P i + (if P i then 1 else 0)
theorem cntf_le (P : Nat → Prop) [DecidablePred P] : ∀ i, cntf P i ≤ i
  | 0 => Nat.le_refl 0
  | i + 1 => by have := cntf_le P i; unfold cntf; split <;> omega
/-- a set of numbers below i as bits -/
def bitf (P : Nat → Prop) [DecidablePred P] : Nat → Nat
  | 0 => 0
  | i + 1 => bitf P i + (if P i then 2 ^ i else 0)
theorem bitf_lt (P : Nat → Prop) [DecidablePred P] : ∀ i, bitf P i < 2 ^ i
  | 0 => by show 0 < 1; omega
  | i + 1 => by have := bitf_lt P i; unfold bitf; rw [Nat.pow_succ]; split <;> omega
theorem bitf_test (P : Nat → Prop) [DecidablePred P] : ∀ i k, (bitf P i).testBit k = decide (k < i ∧ P k)
  | 0, k => by simp [bitf]
  | i + 1, k => by
    have h1 := bitf_lt P i
    have h2 := bitf_test P i k
    unfold bitf
    split
    · rename_i hp
      rw [Nat.add_comm]
      by_cases e : k = i
      · subst e
        rw [Nat.testBit_two_pow_add_eq, Nat.testBit_lt_two_pow h1]
        simp [hp]
      · by_cases q : k < i
        · rw [Nat.testBit_two_pow_add_gt q, h2]
          have : k < i + 1 := by omega
          simp [q, this]
        · have hb : (2 ^ i + bitf P i) < 2 ^ k := by
            have : 2 ^ (i + 1) ≤ 2 ^ k := Nat.pow_le_pow_right (by omega) (by omega)
            rw [Nat.pow_succ] at this
            omega
          rw [Nat.testBit_lt_two_pow hb]
          have : ¬ k < i + 1 := by omega
          simp [this]
    · rename_i hp
      rw [Nat.add_zero, h2]
      by_cases e : k = i
      · subst e
        simp [hp]
      · have : k < i + 1 ↔ k < i := by omega
        simp [this]
theorem shl_1 {i : Nat} (h : i < 31) : (1 : Int32) <<< (nI i &&& 31) = nI (2 ^ i) := by
  have : ∀ j : Fin 31, (1 : Int32) <<< (nI j.val &&& 31) = nI (2 ^ j.val) := by decide
  exact this ⟨i, h⟩
theorem or_2 {a i : Nat} (h : a < 2 ^ i) (hi : i < 31) : nI a ||| nI (2 ^ i) = nI (a + 2 ^ i) := by
  have e : a ||| 2 ^ i = a + 2 ^ i := by
    have := Nat.two_pow_add_eq_or_of_lt h 1
    rw [Nat.mul_one] at this
    rw [Nat.or_comm, ← this, Nat.add_comm]
  rw [← e]
  apply Int32.toBitVec_inj.mp
  show (Int32.ofNat a ||| Int32.ofNat (2 ^ i)).toBitVec = (Int32.ofNat (a ||| 2 ^ i)).toBitVec
  rw [Int32.toBitVec_or, Int32.toBitVec_ofNat', Int32.toBitVec_ofNat', Int32.toBitVec_ofNat']
  exact BitVec.ofNat_or.symm
def stf (P : Nat → Prop) [DecidablePred P] (s : Nat → Int32) (i : Nat) : Nat → Int32 := fun k => if k < i ∧ P k then 2 else s k
theorem stf_0 {P : Nat → Prop} [DecidablePred P] {s : Nat → Int32} : stf P s 0 = s := by
  funext k; unfold stf; rw [if_neg (by omega)]
theorem stf_y {P : Nat → Prop} [DecidablePred P] {s : Nat → Int32} {i : Nat} (h : P i) : stf P s (i + 1) = upd (stf P s i) i 2 := by
  funext k
  unfold upd stf
  by_cases e : k = i
  · subst e
    rw [if_pos rfl, if_pos ⟨by omega, h⟩]
  · rw [if_neg e]
    by_cases q : k < i ∧ P k
    · rw [if_pos q, if_pos ⟨by omega, q.2⟩]
    · rw [if_neg q, if_neg (fun p => q ⟨by omega, p.2⟩)]
theorem stf_n {P : Nat → Prop} [DecidablePred P] {s : Nat → Int32} {i : Nat} (h : ¬ P i) : stf P s (i + 1) = stf P s i := by
  funext k
  unfold stf
  by_cases q : k < i ∧ P k
  · rw [if_pos q, if_pos ⟨by omega, q.2⟩]
  · rw [if_neg q, if_neg (fun p => q ⟨by have : k ≠ i := (fun e => h (e ▸ p.2)); omega, p.2⟩)]
theorem stf_i {P : Nat → Prop} [DecidablePred P] {s : Nat → Int32} {i : Nat} : stf P s i i = s i := by
  unfold stf; rw [if_neg (by omega)]
/-- weeks until a net is ripe -/
def wkf (st pt ag rt : Int32) : Int32 := if ¬ st = 0 then -1 else if ¬ pt < ag then 0 else if ¬ 0 < rt then -1 else (ag - pt + rt - 1) / rt
/-- what is told of a net -/
def tlf (B : Nat → Nat → Int32) (what : Int) (k : Nat) : Int32 :=
  if what = 0 then B 2 k else if what = 1 then B 6 k else if what = 2 then (if B 6 k < B 5 k then 0 else 1) else if what = 3 then B 7 k else if what = 4 then B 3 k else if what = 5 then B 4 k else if what = 7 then wkf (B 7 k) (B 6 k) (B 5 k) (rtf (B 1) (B 0) (B 2) k) else -1
section
variable (N F S T C : hyB) (R : hyW)
/-- what a pull gives -/
def plf (B : Nat → Nat → Int32) (k : Nat) : Int32 := if B 6 k < B 5 k then 0 else B 4 k
def c_pull (B : Nat → Nat → Int32) (a : Int32) (n k : Nat) : Prop := k < n ∧ a = nI k ∧ (B 7 k = 0 ∨ B 7 k = 3)
set_option maxRecDepth 100000 in
theorem r_n_takeOut (a : Int32) (n : Nat) (hN : iN N n) : hy_R 5 mX2_takeOut 0 0 [hy_r 1, .inl a] (wW N F S T C R) (fun o w1 => ∃ x, o = some x ∧ ((∃ k, c_pull N.1 a n k ∧ x = plf N.1 k ∧ w1 = wW (ss (sa N 7 (upd (N.1 7) k 1)) 10 (N.2 10 + plf N.1 k)) F S T C R) ∨ (¬ ∃ k, c_pull N.1 a n k) ∧ x = -1 ∧ w1 = wW N F S T C R)) := by
  obtain ⟨c1, c2, -, -⟩ := id hN
  refine hy_Ri (L := [some (hy_r 1), some (.inl a)]) rfl (by decide) (hy_ple rfl) rfl ?_
  refine hy_go hy_pfA oX2_takeOut [29] 60 0 0 _ ?_
  refine hy_cl (r_n_isNet N F S T C R a) rfl ?_
  rintro o w1 ⟨x, rfl, rfl, rfl⟩
  refine And.intro (fun q => ?_) (fun q => ?_)
  · refine hy_fin (Or.inr ⟨?_, rfl, rfl⟩)
    rw [c1] at q
    rintro ⟨k, h⟩
    exact net_out (by omega) q ⟨k, h.1, h.2.1⟩
  · rw [c1] at q
    obtain ⟨k, hk, rfl⟩ := net_in (by omega) q
    have hcl : (nI k).toNatClampNeg = k := cl_nI (by omega)
    have hin : vp_in (nI k) 24 := vn_in (by omega) (by omega)
    have go : (N.1 7 k = 0 ∨ N.1 7 k = 3) → hy_X none 5 mX2_takeOut (fun o w1 => ∃ x, o = some x ∧ ((∃ j, c_pull N.1 (nI k) n j ∧ x = plf N.1 j ∧ w1 = wW (ss (sa N 7 (upd (N.1 7) j 1)) 10 (N.2 10 + plf N.1 j)) F S T C R) ∨ (¬ ∃ j, c_pull N.1 (nI k) n j) ∧ x = -1 ∧ w1 = wW N F S T C R)) 0 0 (29, [some (hy_r 1), some (.inl (nI k))], [], wW N F S T C R) := by
      intro hst
      refine hy_go hy_pfA oX2_takeOut [] 60 0 0 _ ?_
      refine And.intro hin ?_
      refine hy_cl (r_n_isRipe (sa N 7 (upd (N.1 7) (nI k).toNatClampNeg 1)) F S T C R k (by omega)) rfl ?_
      rintro o w1 ⟨x, rfl, rfl, rfl⟩
      rw [hcl]
      refine And.intro (fun q2 => ?_) (fun q2 => ?_)
      · have q3 : N.1 6 k < N.1 5 k := by
          by_cases q3 : N.1 6 k < N.1 5 k
          · exact q3
          · have : (if N.1 6 k < N.1 5 k then (0 : Int32) else 1) = 0 := q2
            rw [if_neg q3] at this
            exact absurd this (by decide)
        have e : plf N.1 k = 0 := if_pos q3
        refine hy_fin (Or.inl ⟨k, ⟨hk, rfl, hst⟩, e.symm, ?_⟩)
        rw [e, Int32.add_zero]; rfl
      · have q3 : ¬ N.1 6 k < N.1 5 k := by
          intro q3
          have : ¬ (if N.1 6 k < N.1 5 k then (0 : Int32) else 1) = 0 := q2
          rw [if_pos q3] at this
          exact absurd rfl this
        have e : plf N.1 k = N.1 4 k := if_neg q3
        refine And.intro hin (And.intro hin ?_)
        have key : ∃ x, some (N.1 4 (nI k).toNatClampNeg) = some x ∧ ((∃ j, c_pull N.1 (nI k) n j ∧ x = plf N.1 j ∧ wW (ss (sa N 7 (upd (N.1 7) k 1)) 10 (N.2 10 + N.1 4 (nI k).toNatClampNeg)) F S T C R = wW (ss (sa N 7 (upd (N.1 7) j 1)) 10 (N.2 10 + plf N.1 j)) F S T C R) ∨ (¬ ∃ j, c_pull N.1 (nI k) n j) ∧ x = -1 ∧ wW (ss (sa N 7 (upd (N.1 7) k 1)) 10 (N.2 10 + N.1 4 (nI k).toNatClampNeg)) F S T C R = wW N F S T C R) := by
          rw [hcl]
          exact ⟨_, rfl, Or.inl ⟨k, ⟨hk, rfl, hst⟩, e.symm, by rw [e]⟩⟩
        exact key
    refine And.intro hin ?_
    refine And.intro (fun q2 => ?_) (fun q2 => ?_)
    · rw [hcl] at q2
      exact go (Or.inl q2)
    · rw [hcl] at q2
      refine And.intro hin ?_
      refine And.intro (fun q3 => ?_) (fun q3 => ?_)
      · rw [hcl] at q3
        exact go (Or.inr q3)
      · rw [hcl] at q3
        refine hy_fin (Or.inr ⟨?_, rfl, rfl⟩)
        rintro ⟨j, h1, h2, h3⟩
        have : k = j := by
          have := congrArg Int32.toInt h2
          rw [zi_nI (by omega), zi_nI (by omega)] at this; omega
        subst this
        rcases h3 with h3 | h3
        · exact q2 h3
        · exact q3 h3
theorem l_n_floatOff (Q : hyQ) (a : Int32) (n : Nat) (hN : iN N n)
    (K : Q (some (nI (cntf (fun k => N.1 7 k = 0 ∧ N.1 2 k = a) n))) (wW (sa N 7 (stf (fun k => N.1 7 k = 0 ∧ N.1 2 k = a) (N.1 7) n)) F S T C R)) :
    ∀ (j i : Nat), n - i = j → i ≤ n → hy_X none 4 mX2_floatOff Q 0 0 (13, [some (hy_r 1), some (.inl a), some (.inl (nI (cntf (fun k => N.1 7 k = 0 ∧ N.1 2 k = a) i))), some (.inl (nI i))], [], wW (sa N 7 (stf (fun k => N.1 7 k = 0 ∧ N.1 2 k = a) (N.1 7) i)) F S T C R) := by
  obtain ⟨c1, c2, -, -⟩ := id hN
  intro j
  induction j with
  | zero =>
    intro i hj hi
    have : i = n := by omega
    subst this
    refine hy_go hy_pfA oX2_floatOff [13] 60 0 0 _ ?_
    refine And.intro (fun q => K) (fun q => absurd ?_ q)
    show N.2 8 ≤ nI i
    rw [c1]; exact Int32.le_refl _
  | succ j ih =>
    intro i hj hi
    have hcl : (nI i).toNatClampNeg = i := cl_nI (by omega)
    have nx := ih (i + 1) (by omega) (by omega)
    rw [← nI_s] at nx
    have hin : vp_in (nI i) 24 := vn_in (by omega) (by omega)
    refine hy_go hy_pfA oX2_floatOff [13] 60 0 0 _ ?_
    refine And.intro (fun q => ?_) (fun q => ?_)
    · have q : N.2 8 ≤ nI i := q
      rw [c1, nI_le24 (by omega) (by omega)] at q
      omega
    · have ks : ¬ (N.1 7 i = 0 ∧ N.1 2 i = a) → hy_X none 4 mX2_floatOff Q 0 0 (13, [some (hy_r 1), some (.inl a), some (.inl (nI (cntf (fun k => N.1 7 k = 0 ∧ N.1 2 k = a) i))), some (.inl (nI i + 1))], [], wW (sa N 7 (stf (fun k => N.1 7 k = 0 ∧ N.1 2 k = a) (N.1 7) i)) F S T C R) := fun h => by
        rw [stf_n (P := fun k => N.1 7 k = 0 ∧ N.1 2 k = a) h] at nx
        rw [cntf, if_neg h, Nat.add_zero] at nx
        exact nx
      refine And.intro hin ?_
      refine And.intro (fun q2 => ?_) (fun q2 => ?_)
      · have q2 : stf (fun k => N.1 7 k = 0 ∧ N.1 2 k = a) (N.1 7) i (nI i).toNatClampNeg = 0 := q2
        rw [hcl, stf_i] at q2
        refine And.intro hin ?_
        refine And.intro (fun q3 => ?_) (fun q3 => ?_)
        · have q3 : N.1 2 (nI i).toNatClampNeg = a := q3
          rw [hcl] at q3
          refine And.intro hin ?_
          rw [stf_y (P := fun k => N.1 7 k = 0 ∧ N.1 2 k = a) ⟨q2, q3⟩] at nx
          rw [cntf, if_pos ⟨q2, q3⟩, ← nI_s] at nx
          have e : upd (stf (fun k => N.1 7 k = 0 ∧ N.1 2 k = a) (N.1 7) i) (nI i).toNatClampNeg 2 = upd (stf (fun k => N.1 7 k = 0 ∧ N.1 2 k = a) (N.1 7) i) i 2 := by rw [hcl]
          rw [← e] at nx
          exact nx
        · have q3 : ¬ N.1 2 (nI i).toNatClampNeg = a := q3
          rw [hcl] at q3
          exact ks (fun h => q3 h.2)
      · have q2 : ¬ stf (fun k => N.1 7 k = 0 ∧ N.1 2 k = a) (N.1 7) i (nI i).toNatClampNeg = 0 := q2
        rw [hcl, stf_i] at q2
        exact ks (fun h => q2 h.1)
theorem r_n_floatOff (a : Int32) (n : Nat) (hN : iN N n) : hy_R 4 mX2_floatOff 0 0 [hy_r 1, .inl a] (wW N F S T C R) (fun o w1 => ∃ x, o = some x ∧ ((0 ≤ a ∧ a ≤ 7) ∧ x = nI (cntf (fun k => N.1 7 k = 0 ∧ N.1 2 k = a) n) ∧ w1 = wW (sa N 7 (stf (fun k => N.1 7 k = 0 ∧ N.1 2 k = a) (N.1 7) n)) F S T C R ∨ ¬ (0 ≤ a ∧ a ≤ 7) ∧ x = -1 ∧ w1 = wW N F S T C R)) := by
  refine hy_Ri (L := [some (hy_r 1), some (.inl a), none, none]) rfl (by decide) (hy_ple rfl) rfl ?_
  refine hy_go hy_pfA oX2_floatOff [13] 60 0 0 _ ?_
  refine And.intro (fun q => ?_) (fun q => ?_)
  · exact hy_fin (Or.inr ⟨g_within_0 q, rfl, rfl⟩)
  · have := l_n_floatOff N F S T C R (fun o w1 => ∃ x, o = some x ∧ ((0 ≤ a ∧ a ≤ 7) ∧ x = nI (cntf (fun k => N.1 7 k = 0 ∧ N.1 2 k = a) n) ∧ w1 = wW (sa N 7 (stf (fun k => N.1 7 k = 0 ∧ N.1 2 k = a) (N.1 7) n)) F S T C R ∨ ¬ (0 ≤ a ∧ a ≤ 7) ∧ x = -1 ∧ w1 = wW N F S T C R)) a n hN ⟨_, rfl, Or.inl ⟨g_within_n0 q, rfl, rfl⟩⟩ n 0 (by omega) (by omega)
    rw [stf_0] at this
    exact this
theorem l_n_countIn (Q : hyQ) (a : Int32) (n : Nat) (hN : iN N n) (K : Q (some (nI (cntf (fun k => N.1 7 k = a) n))) (wW N F S T C R)) :
    ∀ (j i : Nat), n - i = j → i ≤ n → hy_X none 4 mX2_countIn Q 0 0 (4, [some (hy_r 1), some (.inl a), some (.inl (nI (cntf (fun k => N.1 7 k = a) i))), some (.inl (nI i))], [], wW N F S T C R) := by
  obtain ⟨c1, c2, -, -⟩ := id hN
  intro j
  induction j with
  | zero =>
    intro i hj hi
    have : i = n := by omega
    subst this
    refine hy_go hy_pfA oX2_countIn [4] 60 0 0 _ ?_
    refine And.intro (fun q => K) (fun q => absurd ?_ q)
    show N.2 8 ≤ nI i
    rw [c1]; exact Int32.le_refl _
  | succ j ih =>
    intro i hj hi
    have hcl : (nI i).toNatClampNeg = i := cl_nI (by omega)
    have nx := ih (i + 1) (by omega) (by omega)
    rw [← nI_s] at nx
    have hin : vp_in (nI i) 24 := vn_in (by omega) (by omega)
    refine hy_go hy_pfA oX2_countIn [4] 60 0 0 _ ?_
    refine And.intro (fun q => ?_) (fun q => ?_)
    · have q : N.2 8 ≤ nI i := q
      rw [c1, nI_le24 (by omega) (by omega)] at q
      omega
    · refine And.intro hin ?_
      refine And.intro (fun q2 => ?_) (fun q2 => ?_)
      · rw [hcl] at q2
        rw [cntf, if_pos q2, ← nI_s] at nx
        exact nx
      · rw [hcl] at q2
        rw [cntf, if_neg q2, Nat.add_zero] at nx
        exact nx
theorem r_n_countIn (a : Int32) (n : Nat) (hN : iN N n) : hy_R 4 mX2_countIn 0 0 [hy_r 1, .inl a] (wW N F S T C R) (fun o w1 => ∃ x, o = some x ∧ x = nI (cntf (fun k => N.1 7 k = a) n) ∧ w1 = wW N F S T C R) := by
  refine hy_Ri (L := [some (hy_r 1), some (.inl a), none, none]) rfl (by decide) (hy_ple rfl) rfl ?_
  refine hy_go hy_pfA oX2_countIn [4] 60 0 0 _ ?_
  exact l_n_countIn N F S T C R _ a n hN ⟨_, rfl, rfl, rfl⟩ n 0 (by omega) (by omega)
theorem r_n_comeBack (a : Int32) (n : Nat) (hN : iN N n) : hy_R 5 mX2_comeBack 0 0 [hy_r 1, .inl a] (wW N F S T C R) (fun o w1 => o = none ∧ ((∃ k, k < n ∧ a = nI k ∧ N.1 7 k = 2 ∧ w1 = wW (sa N 7 (upd (N.1 7) k 3)) F S T C R) ∨ (¬ ∃ k, k < n ∧ a = nI k ∧ N.1 7 k = 2) ∧ w1 = wW N F S T C R)) := by
  obtain ⟨c1, c2, -, -⟩ := id hN
  refine hy_Rv (L := [some (hy_r 1), some (.inl a)]) rfl (by decide) (hy_ple rfl) rfl ?_
  refine hy_go hy_pfA oX2_comeBack [] 60 0 0 _ ?_
  refine hy_cl (r_n_isNet N F S T C R a) rfl ?_
  rintro o w1 ⟨x, rfl, rfl, rfl⟩
  refine And.intro (fun q => ?_) (fun q => ?_)
  · rw [c1] at q
    refine And.intro rfl (Or.inr ⟨?_, rfl⟩)
    rintro ⟨k, h⟩
    exact net_out (by omega) q ⟨k, h.1, h.2.1⟩
  · rw [c1] at q
    obtain ⟨k, hk, rfl⟩ := net_in (by omega) q
    have hcl : (nI k).toNatClampNeg = k := cl_nI (by omega)
    have hin : vp_in (nI k) 24 := vn_in (by omega) (by omega)
    refine And.intro hin ?_
    refine And.intro (fun q2 => ?_) (fun q2 => ?_)
    · rw [hcl] at q2
      refine And.intro hin ?_
      have key : none = (none : Option Int32) ∧ ((∃ j, j < n ∧ nI k = nI j ∧ N.1 7 j = 2 ∧ wW (sa N 7 (upd (N.1 7) (nI k).toNatClampNeg 3)) F S T C R = wW (sa N 7 (upd (N.1 7) j 3)) F S T C R) ∨ (¬ ∃ j, j < n ∧ nI k = nI j ∧ N.1 7 j = 2) ∧ wW (sa N 7 (upd (N.1 7) (nI k).toNatClampNeg 3)) F S T C R = wW N F S T C R) := by
        rw [hcl]
        exact ⟨rfl, Or.inl ⟨k, hk, rfl, q2, rfl⟩⟩
      exact key
    · rw [hcl] at q2
      refine And.intro rfl (Or.inr ⟨?_, rfl⟩)
      rintro ⟨j, h1, h2, h3⟩
      have : k = j := by
        have := congrArg Int32.toInt h2
        rw [zi_nI (by omega), zi_nI (by omega)] at this; omega
      subst this
      exact q2 h3
theorem r_n_weeks (k n : Nat) (hN : iN N n) (hk : k < n) : hy_R 4 mX2_weeksToRipe 0 0 [hy_r 1, .inl (nI k)] (wW N F S T C R) (fun o w1 => ∃ x, o = some x ∧ x = wkf (N.1 7 k) (N.1 6 k) (N.1 5 k) (rtf (N.1 1) (N.1 0) (N.1 2) k) ∧ w1 = wW N F S T C R) := by
  obtain ⟨c1, c2, -, -⟩ := id hN
  have hcl : (nI k).toNatClampNeg = k := cl_nI (by omega)
  have hin : vp_in (nI k) 24 := vn_in (by omega) (by omega)
  refine hy_Ri (L := [some (hy_r 1), some (.inl (nI k)), none]) rfl (by decide) (hy_ple rfl) rfl ?_
  refine hy_go hy_pfA oX2_weeksToRipe [] 60 0 0 _ ?_
  refine And.intro hin ?_
  refine And.intro (fun q => ?_) (fun q => ?_)
  · rw [hcl] at q
    refine hy_cl (r_n_isRipe N F S T C R k (by omega)) rfl ?_
    rintro o w1 ⟨x, rfl, rfl, rfl⟩
    refine And.intro (fun q2 => ?_) (fun q2 => ?_)
    · have q3 : N.1 6 k < N.1 5 k := by
        by_cases q3 : N.1 6 k < N.1 5 k
        · exact q3
        · rw [if_neg q3] at q2
          exact absurd q2 (by decide)
      refine hy_cl (r_n_rateAt N F S T C R k n hN (by omega)) rfl ?_
      rintro o w1 ⟨x, rfl, rfl, rfl⟩
      refine And.intro (fun q4 => ?_) (fun q4 => ?_)
      · refine And.intro hin (And.intro hin ?_)
        refine And.intro (fun h => ?_) ?_
        · rw [h] at q4; exact absurd q4 (by decide)
        · refine hy_fin ⟨?_, rfl⟩
          show (N.1 5 (nI k).toNatClampNeg - N.1 6 (nI k).toNatClampNeg + rtf (N.1 1) (N.1 0) (N.1 2) k - 1) / rtf (N.1 1) (N.1 0) (N.1 2) k = _
          rw [hcl, wkf, if_neg (fun h => h q), if_neg (fun h => h q3), if_neg (fun h => h q4)]
      · refine hy_fin ⟨?_, rfl⟩
        rw [wkf, if_neg (fun h => h q), if_neg (fun h => h q3), if_pos q4]
    · have q3 : ¬ N.1 6 k < N.1 5 k := by
        intro q3
        rw [if_pos q3] at q2
        exact absurd rfl q2
      refine hy_fin ⟨?_, rfl⟩
      rw [wkf, if_neg (fun h => h q), if_pos q3]
  · rw [hcl] at q
    refine hy_fin ⟨?_, rfl⟩
    rw [wkf, if_pos q]
set_option maxRecDepth 100000 in
theorem r_n_tellOf (a b : Int32) (n : Nat) (hN : iN N n) : hy_R 5 mX2_tellOf 0 0 [hy_r 1, .inl a, .inl b] (wW N F S T C R) (fun o w1 => ∃ x, o = some x ∧ ((∃ k, k < n ∧ a = nI k ∧ x = tlf N.1 b.toInt k) ∨ (¬ ∃ k, k < n ∧ a = nI k) ∧ x = -1) ∧ w1 = wW N F S T C R) := by
  obtain ⟨c1, c2, -, -⟩ := id hN
  refine hy_Ri (L := [some (hy_r 1), some (.inl a), some (.inl b)]) rfl (by decide) (hy_ple rfl) rfl ?_
  refine hy_go hy_pfA oX2_tellOf [] 60 0 0 _ ?_
  refine hy_cl (r_n_isNet N F S T C R a) rfl ?_
  rintro o w1 ⟨x, rfl, rfl, rfl⟩
  refine And.intro (fun q => ?_) (fun q => ?_)
  · rw [c1] at q
    exact hy_fin ⟨Or.inr ⟨net_out (by omega) q, rfl⟩, rfl⟩
  · rw [c1] at q
    obtain ⟨k, hk, rfl⟩ := net_in (by omega) q
    have hcl : (nI k).toNatClampNeg = k := cl_nI (by omega)
    have hin : vp_in (nI k) 24 := vn_in (by omega) (by omega)
    have fin : ∀ x : Int32, x = tlf N.1 b.toInt k → ∃ y, some x = some y ∧ ((∃ j, j < n ∧ nI k = nI j ∧ y = tlf N.1 b.toInt j) ∨ (¬ ∃ j, j < n ∧ nI k = nI j) ∧ y = -1) ∧ wW N F S T C R = wW N F S T C R := fun x hx => ⟨x, rfl, Or.inl ⟨k, hk, rfl, hx⟩, rfl⟩
    refine And.intro (fun h0 => ?_) (fun h0 => And.intro (fun h1 => ?_) (fun h1 => And.intro (fun h2 => ?_) (fun h2 => And.intro (fun h3 => ?_) (fun h3 => And.intro (fun h4 => ?_) (fun h4 => And.intro (fun h5 => ?_) (fun h5 => And.intro (fun h6 => ?_) (fun h6 => And.intro (fun h7 => ?_) (fun h7 => ?_))))))))
    · refine And.intro hin (fin _ ?_)
      show N.1 2 (nI k).toNatClampNeg = _
      rw [hcl, h0]; rfl
    · refine And.intro hin (fin _ ?_)
      show N.1 6 (nI k).toNatClampNeg = _
      rw [hcl, h1]; rfl
    · refine hy_cl (r_n_isRipe N F S T C R k (by omega)) rfl ?_
      rintro o w1 ⟨x, rfl, rfl, rfl⟩
      have e : tlf N.1 b.toInt k = (if N.1 6 k < N.1 5 k then 0 else 1) := by rw [h2]; rfl
      refine And.intro (fun q2 => fin _ ?_) (fun q2 => fin _ ?_)
      · rw [e]; exact q2.symm
      · rw [e]
        by_cases q3 : N.1 6 k < N.1 5 k
        · rw [if_pos q3] at q2; exact absurd rfl q2
        · rw [if_neg q3]
    · refine And.intro hin (fin _ ?_)
      show N.1 7 (nI k).toNatClampNeg = _
      rw [hcl, h3]; rfl
    · refine And.intro hin (fin _ ?_)
      show N.1 3 (nI k).toNatClampNeg = _
      rw [hcl, h4]; rfl
    · refine And.intro hin (fin _ ?_)
      show N.1 4 (nI k).toNatClampNeg = _
      rw [hcl, h5]; rfl
    · refine fin _ ?_
      rw [h6]; rfl
    · refine hy_cl (r_n_weeks N F S T C R k n hN hk) rfl ?_
      rintro o w1 ⟨x, rfl, rfl, rfl⟩
      refine fin _ ?_
      rw [h7]; rfl
    · refine fin _ ?_
      rw [tlf, if_neg h0, if_neg h1, if_neg h2, if_neg h3, if_neg h4, if_neg h5, if_neg h7]
end
end
section
/-! ===== which nets a find fits ===== -/
abbrev fit (st mk : Nat → Int32) (y no : Int32) (k : Nat) : Prop := st k = 2 ∧ (mk k &&& y) = y ∧ (mk k &&& no) = 0
section
variable (N F S T C : hyB) (R : hyW)
theorem l_n_afloat (Q : hyQ) (y no : Int32) (n : Nat) (hN : iN N n) (K : Q (some (nI (bitf (fit (N.1 7) (N.1 3) y no) n))) (wW N F S T C R)) :
    ∀ (j i : Nat) (x : Option hyV), n - i = j → i ≤ n → hy_X none 4 mX2_afloatWith Q 0 0 (5, [some (hy_r 1), some (.inl y), some (.inl no), some (.inl (nI (bitf (fit (N.1 7) (N.1 3) y no) i))), some (.inl (nI i)), x], [], wW N F S T C R) := by
  obtain ⟨c1, c2, -, -⟩ := id hN
  intro j
  induction j with
  | zero =>
    intro i x hj hi
    have : i = n := by omega
    subst this
    refine hy_go hy_pfA oX2_afloatWith [5] 60 0 0 _ ?_
    refine And.intro (fun q => K) (fun q => absurd ?_ q)
    show N.2 8 ≤ nI i
    rw [c1]; exact Int32.le_refl _
  | succ j ih =>
    intro i x hj hi
    have hcl : (nI i).toNatClampNeg = i := cl_nI (by omega)
    have hin : vp_in (nI i) 24 := vn_in (by omega) (by omega)
    have nx : ∀ x, hy_X none 4 mX2_afloatWith Q 0 0 (5, [some (hy_r 1), some (.inl y), some (.inl no), some (.inl (nI (bitf (fit (N.1 7) (N.1 3) y no) (i + 1)))), some (.inl (nI i + 1)), x], [], wW N F S T C R) := fun x => by
      rw [nI_s]; exact ih (i + 1) x (by omega) (by omega)
    have no1 : ¬ fit (N.1 7) (N.1 3) y no i → ∀ x, hy_X none 4 mX2_afloatWith Q 0 0 (5, [some (hy_r 1), some (.inl y), some (.inl no), some (.inl (nI (bitf (fit (N.1 7) (N.1 3) y no) i))), some (.inl (nI i + 1)), x], [], wW N F S T C R) := fun h x => by
      have := nx x
      rw [bitf, if_neg h, Nat.add_zero] at this
      exact this
    have b2 : ∀ (z : Int32), (z = 0 ∨ fit (N.1 7) (N.1 3) y no i ∨ ¬ N.1 7 i = 2) → (z = 0 → ¬ fit (N.1 7) (N.1 3) y no i) → hy_X none 4 mX2_afloatWith Q 0 0 (46, [some (hy_r 1), some (.inl y), some (.inl no), some (.inl (nI (bitf (fit (N.1 7) (N.1 3) y no) i))), some (.inl (nI i)), some (.inl z)], [], wW N F S T C R) := by
      intro z hz hz2
      refine hy_go hy_pfA oX2_afloatWith [5] 60 0 0 _ ?_
      refine And.intro hin ?_
      refine And.intro (fun q2 => ?_) (fun q2 => ?_)
      · rw [hcl] at q2
        refine And.intro (fun q3 => ?_) (fun q3 => ?_)
        · exact no1 (hz2 q3) _
        · have hf : fit (N.1 7) (N.1 3) y no i := by
            rcases hz with h | h | h
            · exact absurd h q3
            · exact h
            · exact absurd q2 h
          have := nx (some (.inl z))
          rw [bitf, if_pos hf, ← or_2 (bitf_lt _ _) (by omega), ← shl_1 (by omega)] at this
          exact this
      · rw [hcl] at q2
        exact no1 (fun h => q2 h.1) _
    refine hy_go hy_pfA oX2_afloatWith [5, 46] 60 0 0 _ ?_
    refine And.intro (fun q => ?_) (fun q => ?_)
    · rw [c1, nI_le24 (by omega) (by omega)] at q
      omega
    · refine And.intro hin ?_
      refine And.intro (fun q2 => ?_) (fun q2 => ?_)
      · rw [hcl] at q2
        refine And.intro hin ?_
        refine And.intro (fun q3 => ?_) (fun q3 => ?_)
        · rw [hcl] at q3
          refine b2 1 ?_ (fun h => absurd h (by decide))
          by_cases q4 : N.1 7 i = 2
          · exact Or.inr (Or.inl ⟨q4, q2, q3⟩)
          · exact Or.inr (Or.inr q4)
        · rw [hcl] at q3
          exact b2 0 (Or.inl rfl) (fun _ h => q3 h.2.2)
      · rw [hcl] at q2
        exact b2 0 (Or.inl rfl) (fun _ h => q2 h.2.1)
theorem r_n_afloat (y no : Int32) (n : Nat) (hN : iN N n) : hy_R 4 mX2_afloatWith 0 0 [hy_r 1, .inl y, .inl no] (wW N F S T C R) (fun o w1 => ∃ x, o = some x ∧ x = nI (bitf (fit (N.1 7) (N.1 3) y no) n) ∧ w1 = wW N F S T C R) := by
  refine hy_Ri (L := [some (hy_r 1), some (.inl y), some (.inl no), none, none, none]) rfl (by decide) (hy_ple rfl) rfl ?_
  refine hy_go hy_pfA oX2_afloatWith [5] 60 0 0 _ ?_
  exact l_n_afloat N F S T C R _ y no n hN ⟨_, rfl, rfl, rfl⟩ n 0 none (by omega) (by omega)
end
end
section
/-! ===== counting: sets as functions to Bool; bitCount ===== -/
def cb (X : Nat → Bool) : Nat → Nat
  | 0 => 0
  | n + 1 => cb X n + (X n).toNat
theorem cb_add (X : Nat → Bool) (m : Nat) : ∀ n, cb X (m + n) = cb X m + cb (fun k => X (m + k)) n
  | 0 => rfl
  | n + 1 => by
    have := cb_add X m n
    show cb X (m + n) + (X (m + n)).toNat = cb X m + (cb (fun k => X (m + k)) n + (X (m + n)).toNat)
    omega
theorem cb_congr {X Y : Nat → Bool} : ∀ {n : Nat}, (∀ k, k < n → X k = Y k) → cb X n = cb Y n
  | 0, _ => rfl
  | n + 1, h => by
    have := cb_congr (X := X) (Y := Y) (n := n) (fun k hk => h k (by omega))
    show cb X n + (X n).toNat = cb Y n + (Y n).toNat
    rw [this, h n (by omega)]
theorem cb_le (X : Nat → Bool) : ∀ n, cb X n ≤ n
  | 0 => Nat.le_refl 0
  | n + 1 => by
    have := cb_le X n
    have h : (X n).toNat ≤ 1 := Bool.toNat_le _
    show cb X n + (X n).toNat ≤ n + 1
    omega
theorem andB {q r m s : Nat} (hr : r < 256) (hs : s < 256) : (256 * q + r) &&& (256 * m + s) = 256 * (q &&& m) + (r &&& s) := by
  have h3 : r &&& s < 2 ^ 8 := Nat.lt_of_le_of_lt Nat.and_le_left hr
  apply Nat.eq_of_testBit_eq
  intro i
  rw [Nat.testBit_and, show (256 : Nat) = 2 ^ 8 from rfl, Nat.testBit_two_pow_mul_add _ hr, Nat.testBit_two_pow_mul_add _ hs, Nat.testBit_two_pow_mul_add _ h3]
  split
  · rw [Nat.testBit_and]
  · rw [Nat.testBit_and]
def pS1 (M x : Nat) : Nat := x - (x / 2 &&& M)
def pS2 (M x : Nat) : Nat := (x &&& M) + (x / 4 &&& M)
def pS3 (M x : Nat) : Nat := (x + x / 16) &&& M
def pB1 (a : Nat) : Nat := a - (a / 2 &&& 0x55)
def pB2 (a : Nat) : Nat := (a &&& 0x33) + (a / 4 &&& 0x33)
set_option maxRecDepth 100000 in
theorem pT1 : ∀ a : Fin 256, (128 + a.val / 2) &&& 0x55 = (a.val / 2) &&& 0x55 := by decide +kernel
set_option maxRecDepth 100000 in
theorem pT2 : ∀ (c : Fin 4) (a : Fin 256), (64 * c.val + a.val / 4) &&& 0x33 = (a.val / 4) &&& 0x33 := by decide +kernel
set_option maxRecDepth 100000 in
theorem pT3 : ∀ a : Fin 256, pB1 a.val < 256 ∧ pB2 (pB1 a.val) < 256 ∧ pB2 (pB1 a.val) % 16 ≤ 4 ∧ pB2 (pB1 a.val) / 16 ≤ 4 ∧ pB2 (pB1 a.val) % 16 + pB2 (pB1 a.val) / 16 = cb (fun k => a.val.testBit k) 8 := by decide +kernel
theorem pS1_b {m y a : Nat} (ha : a < 256) : pS1 (256 * m + 0x55) (256 * y + a) = 256 * pS1 m y + pB1 a := by
  have h1 : (256 * y + a) / 2 = 256 * (y / 2) + (128 * (y % 2) + a / 2) := by omega
  have h2 : (128 * (y % 2) + a / 2) &&& 0x55 = (a / 2) &&& 0x55 := by
    rcases (show y % 2 = 0 ∨ y % 2 = 1 by omega) with h | h
    · rw [h, Nat.mul_zero, Nat.zero_add]
    · rw [h, Nat.mul_one]; exact pT1 ⟨a, ha⟩
  have h3 : (y / 2 &&& m) ≤ y / 2 := Nat.and_le_left
  have h4 : (a / 2 &&& 0x55) ≤ a / 2 := Nat.and_le_left
  unfold pS1 pB1
  rw [h1, andB (by omega) (by decide), h2]
  omega
theorem pS2_b {m y a : Nat} (ha : a < 256) : pS2 (256 * m + 0x33) (256 * y + a) = 256 * pS2 m y + pB2 a := by
  have h1 : (256 * y + a) / 4 = 256 * (y / 4) + (64 * (y % 4) + a / 4) := by omega
  have h2 : (64 * (y % 4) + a / 4) &&& 0x33 = (a / 4) &&& 0x33 := pT2 ⟨y % 4, by omega⟩ ⟨a, ha⟩
  unfold pS2 pB2
  rw [h1, andB ha (by decide), andB (by omega) (by decide), h2]
  omega
theorem pS3_b {m y a : Nat} (ha : a < 256) (h1 : a % 16 ≤ 4) (h2 : a / 16 ≤ 4) (h3 : y % 16 ≤ 4) : pS3 (256 * m + 0x0f) (256 * y + a) = 256 * pS3 m y + (a % 16 + a / 16) := by
  have e : 256 * y + a + (256 * y + a) / 16 = 256 * (y + y / 16) + (a + a / 16 + 16 * (y % 16)) := by omega
  unfold pS3
  rw [e, andB (by omega) (by decide), show (0x0f : Nat) = 2 ^ 4 - 1 from rfl, Nat.and_two_pow_sub_one_eq_mod]
  omega
theorem nI_and (a b : Nat) : nI a &&& nI b = nI (a &&& b) := by
  apply Int32.toBitVec_inj.mp
  show (Int32.ofNat a &&& Int32.ofNat b).toBitVec = (Int32.ofNat (a &&& b)).toBitVec
  rw [Int32.toBitVec_and, Int32.toBitVec_ofNat', Int32.toBitVec_ofNat', Int32.toBitVec_ofNat']
  exact BitVec.ofNat_and.symm
theorem ush_I {x : Nat} (s : Int32) (k : Nat) (hs : ((s.toUInt32 &&& Int32.toUInt32 31).toBitVec % 32).toNat = k) (h : x < 2 ^ 32) : hy_ush (nI x) s = nI (x / 2 ^ k) := pk_ushrN h s k hs
theorem p_end {p1 p2 p3 : Nat} (h1 : p1 ≤ 8) (h2 : p2 ≤ 8) (h3 : p3 ≤ 8) : (256 * (256 * (256 * 0 + p3) + p2) + p1 + (256 * (256 * (256 * 0 + p3) + p2) + p1) / 2 ^ 8 + (256 * (256 * (256 * 0 + p3) + p2) + p1 + (256 * (256 * (256 * 0 + p3) + p2) + p1) / 2 ^ 8) / 2 ^ 16) % 2 ^ 6 = p1 + (p2 + p3) := by
  have d1 : (256 * (256 * (256 * 0 + p3) + p2) + p1) / 2 ^ 8 = 256 * p3 + p2 := by omega
  rw [d1]
  have d2 : (256 * (256 * (256 * 0 + p3) + p2) + p1 + (256 * p3 + p2)) / 2 ^ 16 = p3 := by omega
  rw [d2]
  omega
theorem bc_I {x : Nat} (h : x < 16777216) : g_bitCount [nI x] = nI (cb (fun k => x.testBit k) 24) := by
  obtain ⟨a, ha, b, hb, c, hc, rfl⟩ : ∃ a, a < 256 ∧ ∃ b, b < 256 ∧ ∃ c, c < 256 ∧ x = 256 * (256 * (256 * 0 + c) + b) + a := ⟨x % 256, by omega, x / 256 % 256, by omega, x / 65536, by omega, by omega⟩
  obtain ⟨a1, a2, a3, a4, a5⟩ := pT3 ⟨a, ha⟩
  obtain ⟨b1, b2, b3, b4, b5⟩ := pT3 ⟨b, hb⟩
  obtain ⟨c1, c2, c3, c4, c5⟩ := pT3 ⟨c, hc⟩
  dsimp only at a1 a2 a3 a4 a5 b1 b2 b3 b4 b5 c1 c2 c3 c4 c5
  generalize hx : 256 * (256 * (256 * 0 + c) + b) + a = x at h ⊢
  have s1 : pS1 1431655765 x = 256 * (256 * (256 * 0 + pB1 c) + pB1 b) + pB1 a := by
    rw [← hx, show (1431655765 : Nat) = 256 * (256 * (256 * 0x55 + 0x55) + 0x55) + 0x55 from rfl, pS1_b ha, pS1_b hb, pS1_b hc]
    rfl
  have g1 : g_bc1 (nI x) = nI (256 * (256 * (256 * 0 + pB1 c) + pB1 b) + pB1 a) := by
    have e : g_bc1 (nI x) = nI (pS1 1431655765 x) := by
      have hle : (x / 2 &&& 1431655765) ≤ x := Nat.le_trans Nat.and_le_left (by omega)
      show nI x - (hy_ush (nI x) 1 &&& nI 1431655765) = _
      rw [ush_I 1 1 (by decide) (by omega), nI_and, pk_sub hle]; rfl
    rw [e, s1]
  generalize hx2 : 256 * (256 * (256 * 0 + pB1 c) + pB1 b) + pB1 a = x2 at g1
  have s2 : pS2 858993459 x2 = 256 * (256 * (256 * 0 + pB2 (pB1 c)) + pB2 (pB1 b)) + pB2 (pB1 a) := by
    rw [← hx2, show (858993459 : Nat) = 256 * (256 * (256 * 0x33 + 0x33) + 0x33) + 0x33 from rfl, pS2_b a1, pS2_b b1, pS2_b c1]
    rfl
  have g2 : g_bc2 (nI x2) = nI (256 * (256 * (256 * 0 + pB2 (pB1 c)) + pB2 (pB1 b)) + pB2 (pB1 a)) := by
    have e : g_bc2 (nI x2) = nI (pS2 858993459 x2) := by
      show (nI x2 &&& nI 858993459) + (hy_ush (nI x2) 2 &&& nI 858993459) = _
      rw [ush_I 2 2 (by decide) (by omega), nI_and, nI_and, nI_add]; rfl
    rw [e, s2]
  generalize hx3 : 256 * (256 * (256 * 0 + pB2 (pB1 c)) + pB2 (pB1 b)) + pB2 (pB1 a) = x3 at g2
  have s3 : pS3 252645135 x3 = 256 * (256 * (256 * 0 + (pB2 (pB1 c) % 16 + pB2 (pB1 c) / 16)) + (pB2 (pB1 b) % 16 + pB2 (pB1 b) / 16)) + (pB2 (pB1 a) % 16 + pB2 (pB1 a) / 16) := by
    rw [← hx3, show (252645135 : Nat) = 256 * (256 * (256 * 0x0f + 0x0f) + 0x0f) + 0x0f from rfl, pS3_b a2 a3 a4 (by omega), pS3_b b2 b3 b4 (by omega), pS3_b c2 c3 c4 (by omega)]
    rfl
  rw [a5, b5, c5] at s3
  have g3 : g_bc3 (nI x3) = nI (pS3 252645135 x3) := by
    show (nI x3 + hy_ush (nI x3) 4) &&& nI 252645135 = _
    rw [ush_I 4 4 (by decide) (by omega), nI_add, nI_and]; rfl
  rw [s3] at g3
  have la := cb_le (fun k => a.testBit k) 8
  have lb := cb_le (fun k => b.testBit k) 8
  have lc := cb_le (fun k => c.testBit k) 8
  have tot : cb (fun k => x.testBit k) 24 = cb (fun k => a.testBit k) 8 + (cb (fun k => b.testBit k) 8 + cb (fun k => c.testBit k) 8) := by
    have t1 : ∀ k, x.testBit (8 + k) = (256 * (256 * 0 + c) + b).testBit k := fun k => by
      rw [← hx, show (256 : Nat) = 2 ^ 8 from rfl, Nat.testBit_two_pow_mul_add _ ha, if_neg (by omega)]
      congr 1; omega
    have t2 : ∀ k, (256 * (256 * 0 + c) + b).testBit (8 + k) = (256 * 0 + c).testBit k := fun k => by
      rw [show (256 : Nat) = 2 ^ 8 from rfl, Nat.testBit_two_pow_mul_add _ hb, if_neg (by omega)]
      congr 1; omega
    rw [show 24 = 8 + (8 + 8) from rfl, cb_add, cb_add]
    congr 1
    · refine cb_congr (fun k hk => ?_)
      rw [← hx, show (256 : Nat) = 2 ^ 8 from rfl, Nat.testBit_two_pow_mul_add _ ha, if_pos hk]
    · congr 1
      · refine cb_congr (fun k hk => ?_)
        rw [t1, show (256 : Nat) = 2 ^ 8 from rfl, Nat.testBit_two_pow_mul_add _ hb, if_pos hk]
      · refine cb_congr (fun k hk => ?_)
        rw [t1, t2, Nat.mul_zero, Nat.zero_add]
  rw [tot]
  show g_bc5 (g_bc4 (g_bc3 (g_bc2 (g_bc1 (nI x))))) &&& nI 63 = _
  rw [g1, g2, g3]
  generalize cb (fun k => a.testBit k) 8 = p1 at *
  generalize cb (fun k => b.testBit k) 8 = p2 at *
  generalize cb (fun k => c.testBit k) 8 = p3 at *
  show (nI (256 * (256 * (256 * 0 + p3) + p2) + p1) + hy_ush (nI (256 * (256 * (256 * 0 + p3) + p2) + p1)) 8 + hy_ush (nI (256 * (256 * (256 * 0 + p3) + p2) + p1) + hy_ush (nI (256 * (256 * (256 * 0 + p3) + p2) + p1)) 8) 16) &&& nI 63 = _
  rw [ush_I 8 8 (by decide) (by omega), nI_add, ush_I 16 16 (by decide) (by omega), nI_add, nI_and, show (63 : Nat) = 2 ^ 6 - 1 from rfl, Nat.and_two_pow_sub_one_eq_mod, p_end la lb lc]
end
section
/-! ===== sets, their numbers, and Hall's rule ===== -/
theorem cb_mono {X Y : Nat → Bool} : ∀ {n : Nat}, (∀ k, k < n → X k = true → Y k = true) → cb X n ≤ cb Y n
  | 0, _ => Nat.le_refl 0
  | n + 1, h => by
    have h1 := cb_mono (X := X) (Y := Y) (n := n) (fun k hk => h k (by omega))
    have h2 : (X n).toNat ≤ (Y n).toNat := by
      cases hx : X n with
      | false => exact Nat.zero_le _
      | true => rw [h n (by omega) hx]; exact Nat.le_refl _
    show cb X n + (X n).toNat ≤ cb Y n + (Y n).toNat
    omega
/-- a set without one -/
def wo (X : Nat → Bool) (a : Nat) : Nat → Bool := fun k => X k && !(Nat.beq k a)
theorem wo_self (X : Nat → Bool) (a : Nat) : wo X a a = false := by simp [wo]
theorem wo_ne {X : Nat → Bool} {a k : Nat} (h : k ≠ a) : wo X a k = X k := by
  have : Nat.beq k a = false := by
    cases hb : Nat.beq k a with
    | false => rfl
    | true => exact absurd (Nat.eq_of_beq_eq_true hb) h
  simp [wo, this]
theorem wo_imp {X : Nat → Bool} {a k : Nat} (h : wo X a k = true) : X k = true ∧ k ≠ a := by
  by_cases e : k = a
  · subst e; rw [wo_self] at h; cases h
  · rw [wo_ne e] at h; exact ⟨h, e⟩
theorem cb_wo_out {X : Nat → Bool} {a : Nat} : ∀ {n : Nat}, (X a = false ∨ n ≤ a) → cb (wo X a) n = cb X n := fun {n} h => by
  refine cb_congr (fun k hk => ?_)
  by_cases e : k = a
  · subst e
    rcases h with h | h
    · rw [wo_self, h]
    · omega
  · exact wo_ne e
theorem cb_wo_in {X : Nat → Bool} {a : Nat} : ∀ {n : Nat}, a < n → X a = true → cb (wo X a) n + 1 = cb X n
  | 0, h, _ => absurd h (by omega)
  | n + 1, h, hx => by
    show cb (wo X a) n + (wo X a n).toNat + 1 = cb X n + (X n).toNat
    by_cases e : a = n
    · subst e
      rw [wo_self, hx, cb_wo_out (Or.inr (Nat.le_refl _))]; rfl
    · have := cb_wo_in (n := n) (by omega) hx
      rw [wo_ne (by omega : n ≠ a)]
      omega
theorem cb_pos {X : Nat → Bool} : ∀ {n : Nat}, 0 < cb X n → ∃ k, k < n ∧ X k = true
  | 0, h => absurd h (by show ¬ 0 < 0; omega)
  | n + 1, h => by
    cases hx : X n with
    | true => exact ⟨n, by omega, hx⟩
    | false =>
      have h1 : 0 < cb X n := by
        have : 0 < cb X n + (X n).toNat := h
        rw [hx] at this
        simpa using this
      obtain ⟨k, h2, h3⟩ := cb_pos h1
      exact ⟨k, by omega, h3⟩
theorem cb_zero {X : Nat → Bool} {n : Nat} (h : cb X n = 0) : ∀ k, k < n → X k = false := by
  intro k hk
  cases hx : X k with
  | false => rfl
  | true =>
    have := cb_wo_in hk hx
    omega
/-- of two sets: those of the one that aren't in the other -/
def df (X Y : Nat → Bool) : Nat → Bool := fun k => X k && !(Y k)
def un (X Y : Nat → Bool) : Nat → Bool := fun k => X k || Y k
theorem cb_un (X Y : Nat → Bool) : ∀ n, cb (un X Y) n = cb (df X Y) n + cb Y n
  | 0 => rfl
  | n + 1 => by
    have := cb_un X Y n
    show cb (un X Y) n + (un X Y n).toNat = cb (df X Y) n + (df X Y n).toNat + (cb Y n + (Y n).toNat)
    have h : (un X Y n).toNat = (df X Y n).toNat + (Y n).toNat := by
      unfold un df
      cases X n <;> cases Y n <;> rfl
    omega
/-- a map that keeps apart: so many at least -/
theorem cb_inj {m : Nat} {φ : Nat → Nat} : ∀ {c : Nat} {X Y : Nat → Bool}, (∀ f, f < c → X f = true → φ f < m ∧ Y (φ f) = true) → (∀ f g, f < c → g < c → X f = true → X g = true → φ f = φ g → f = g) → cb X c ≤ cb Y m
  | 0, _, _, _, _ => Nat.zero_le _
  | c + 1, X, Y, h, hi => by
    show cb X c + (X c).toNat ≤ cb Y m
    cases hx : X c with
    | false =>
      have := cb_inj (c := c) (X := X) (Y := Y) (fun f hf => h f (by omega)) (fun f g hf hg => hi f g (by omega) (by omega))
      simpa using this
    | true =>
      obtain ⟨h1, h2⟩ := h c (by omega) hx
      have := cb_inj (c := c) (X := X) (Y := wo Y (φ c)) (fun f hf hX => by
        obtain ⟨a1, a2⟩ := h f (by omega) hX
        refine ⟨a1, ?_⟩
        rw [wo_ne]
        · exact a2
        · intro e
          have := hi f c (by omega) (by omega) hX hx e
          omega) (fun f g hf hg => hi f g (by omega) (by omega))
      have h3 := cb_wo_in h1 h2
      show cb X c + 1 ≤ cb Y m
      omega
/-- the places that the ones of X fit -/
def nb (S : Nat → Nat → Bool) (X : Nat → Bool) : Nat → Nat → Bool
  | 0, _ => false
  | c + 1, n => nb S X c n || (X c && S c n)
theorem nb_iff {S : Nat → Nat → Bool} {X : Nat → Bool} {n : Nat} : ∀ {c : Nat}, nb S X c n = true ↔ ∃ f, f < c ∧ X f = true ∧ S f n = true
  | 0 => by
    constructor
    · intro h; cases h
    · rintro ⟨f, h, -⟩; omega
  | c + 1 => by
    show (nb S X c n || (X c && S c n)) = true ↔ _
    rw [Bool.or_eq_true, Bool.and_eq_true, nb_iff]
    constructor
    · rintro (⟨f, h1, h2⟩ | h)
      · exact ⟨f, by omega, h2⟩
      · exact ⟨c, by omega, h⟩
    · rintro ⟨f, h1, h2⟩
      by_cases e : f = c
      · subst e; exact Or.inr h2
      · exact Or.inl ⟨f, by omega, h2⟩
/-- Hall's rule -/
theorem hall (m c : Nat) : ∀ (k : Nat) (I : Nat → Bool) (S : Nat → Nat → Bool), cb I c ≤ k → (∀ X : Nat → Bool, (∀ f, X f = true → I f = true) → cb X c ≤ cb (nb S X c) m) → ∃ φ : Nat → Nat, (∀ f, f < c → I f = true → φ f < m ∧ S f (φ f) = true) ∧ ∀ f g, f < c → g < c → I f = true → I g = true → φ f = φ g → f = g := by
  intro k
  induction k with
  | zero =>
    intro I S hk h
    have hz := cb_zero (X := I) (n := c) (by omega)
    exact ⟨fun _ => 0, fun f hf hI => (by rw [hz f hf] at hI; cases hI), fun f g hf hg hI => (by rw [hz f hf] at hI; cases hI)⟩
  | succ k ih =>
    intro I S hk h
    by_cases hsmall : cb I c ≤ k
    · exact ih I S hsmall h
    · have hI : cb I c = k + 1 := by omega
      by_cases ht : ∃ X : Nat → Bool, (∀ f, X f = true → I f = true) ∧ 0 < cb X c ∧ cb X c < cb I c ∧ cb (nb S X c) m ≤ cb X c
      · obtain ⟨X, x1, x2, x3, x4⟩ := ht
        obtain ⟨φ1, p1, p2⟩ := ih X S (by omega) (fun Y hY => h Y (fun f hf => x1 f (hY f hf)))
        have hun : cb (un I X) c = cb I c := cb_congr (fun j _ => by
          unfold un
          cases hi : I j with
          | true => rfl
          | false =>
            cases hx : X j with
            | false => rfl
            | true => rw [x1 j hx] at hi; cases hi)
        have hd : cb (df I X) c + cb X c = cb I c := by rw [← cb_un, hun]
        obtain ⟨φ2, q1, q2⟩ := ih (df I X) (fun f => df (S f) (nb S X c)) (by omega) (fun Y hY => by
          have h1 := h (un Y X) (fun f hf => by
            unfold un at hf
            rcases Bool.or_eq_true_iff.mp hf with h | h
            · have := hY f h
              unfold df at this
              exact (Bool.and_eq_true_iff.mp this).1
            · exact x1 f h)
          rw [cb_un] at h1
          have h2 : cb (df Y X) c = cb Y c := cb_congr (fun j _ => by
            unfold df
            cases hy : Y j with
            | false => rfl
            | true =>
              have := hY j hy
              unfold df at this
              rw [(Bool.and_eq_true_iff.mp this).2]; rfl)
          have h3 : cb (nb S (un Y X) c) m ≤ cb (un (nb (fun f => df (S f) (nb S X c)) Y c) (nb S X c)) m := cb_mono (fun j _ hj => by
            unfold un
            cases hn : nb S X c j with
            | true => simp
            | false =>
              simp only [Bool.or_false]
              obtain ⟨f, f1, f2, f3⟩ := nb_iff.mp hj
              refine nb_iff.mpr ⟨f, f1, ?_, ?_⟩
              · rcases Bool.or_eq_true_iff.mp f2 with h | h
                · exact h
                · rw [nb_iff.mpr ⟨f, f1, h, f3⟩] at hn; cases hn
              · unfold df
                rw [f3, hn]; rfl)
          have h4 : cb (un (nb (fun f => df (S f) (nb S X c)) Y c) (nb S X c)) m ≤ cb (nb (fun f => df (S f) (nb S X c)) Y c) m + cb (nb S X c) m := by
            rw [cb_un]
            have : cb (df (nb (fun f => df (S f) (nb S X c)) Y c) (nb S X c)) m ≤ cb (nb (fun f => df (S f) (nb S X c)) Y c) m := cb_mono (fun j _ hj => by
              unfold df at hj
              exact (Bool.and_eq_true_iff.mp hj).1)
            omega
          omega)
        refine ⟨fun f => if X f = true then φ1 f else φ2 f, fun f hf hI1 => ?_, fun f g hf hg hI1 hI2 he => ?_⟩
        · dsimp only
          by_cases hx : X f = true
          · rw [if_pos hx]; exact p1 f hf hx
          · rw [if_neg hx]
            have hd1 : df I X f = true := by
              unfold df
              rw [hI1]
              cases hxx : X f with
              | true => exact absurd hxx hx
              | false => rfl
            obtain ⟨a1, a2⟩ := q1 f hf hd1
            unfold df at a2
            exact ⟨a1, (Bool.and_eq_true_iff.mp a2).1⟩
        · dsimp only at he
          have key : ∀ f g, f < c → g < c → I g = true → X f = true → ¬ X g = true → φ1 f = φ2 g → False := fun f g hf hg hI2 hx hy he => by
            have hd1 : df I X g = true := by
              unfold df
              rw [hI2]
              cases hxx : X g with
              | true => exact absurd hxx hy
              | false => rfl
            obtain ⟨a1, a2⟩ := q1 g hg hd1
            obtain ⟨b1, b2⟩ := p1 f hf hx
            unfold df at a2
            have a3 := (Bool.and_eq_true_iff.mp a2).2
            rw [← he, nb_iff.mpr ⟨f, hf, hx, b2⟩] at a3
            cases a3
          by_cases hx : X f = true
          · by_cases hy : X g = true
            · rw [if_pos hx, if_pos hy] at he
              exact p2 f g hf hg hx hy he
            · rw [if_pos hx, if_neg hy] at he
              exact (key f g hf hg hI2 hx hy he).elim
          · by_cases hy : X g = true
            · rw [if_neg hx, if_pos hy] at he
              exact (key g f hg hf hI1 hy hx he.symm).elim
            · rw [if_neg hx, if_neg hy] at he
              have d1 : df I X f = true := by
                unfold df
                rw [hI1]
                cases hxx : X f with
                | true => exact absurd hxx hx
                | false => rfl
              have d2 : df I X g = true := by
                unfold df
                rw [hI2]
                cases hxx : X g with
                | true => exact absurd hxx hy
                | false => rfl
              exact q2 f g hf hg d1 d2 he
      · obtain ⟨a, ha1, ha2⟩ := cb_pos (X := I) (n := c) (by omega)
        have hone := h (fun j => Nat.beq j a) (fun f hf => by rw [Nat.eq_of_beq_eq_true hf]; exact ha2)
        have h1 : 0 < cb (nb S (fun j => Nat.beq j a) c) m := by
          have : 0 < cb (fun j => Nat.beq j a) c := by
            have := cb_wo_in (X := fun j => Nat.beq j a) (a := a) (n := c) ha1 (Nat.beq_refl a)
            omega
          omega
        obtain ⟨y, hy1, hy2⟩ := cb_pos h1
        obtain ⟨f0, f1, f2, f3⟩ := nb_iff.mp hy2
        have hf0 : f0 = a := Nat.eq_of_beq_eq_true f2
        subst hf0
        have hc1 := cb_wo_in ha1 ha2
        obtain ⟨φ, p1, p2⟩ := ih (wo I f0) (fun f => wo (S f) y) (by omega) (fun Y hY => by
          by_cases hz : cb Y c = 0
          · omega
          · have h2 : ∀ f, Y f = true → I f = true := fun f hf => (wo_imp (hY f hf)).1
            have h3 : cb Y c ≤ cb (wo I f0) c := cb_mono (fun j _ hj => hY j hj)
            have h4 : ¬ cb (nb S Y c) m ≤ cb Y c := fun q => ht ⟨Y, h2, by omega, by omega, q⟩
            have h5 : cb (wo (nb S Y c) y) m ≤ cb (nb (fun f => wo (S f) y) Y c) m := cb_mono (fun j _ hj => by
              obtain ⟨g1, g2⟩ := wo_imp hj
              obtain ⟨f, e1, e2, e3⟩ := nb_iff.mp g1
              exact nb_iff.mpr ⟨f, e1, e2, by rw [wo_ne g2]; exact e3⟩)
            have h6 : cb (nb S Y c) m ≤ cb (wo (nb S Y c) y) m + 1 := by
              cases hn : nb S Y c y with
              | false => rw [cb_wo_out (Or.inl hn)]; omega
              | true => rw [cb_wo_in hy1 hn]; exact Nat.le_refl _
            omega)
        refine ⟨fun f => if f = f0 then y else φ f, fun f hf hI1 => ?_, fun f g hf hg hI1 hI2 he => ?_⟩
        · dsimp only
          by_cases e : f = f0
          · rw [if_pos e, e]; exact ⟨hy1, f3⟩
          · rw [if_neg e]
            obtain ⟨a1, a2⟩ := p1 f hf (by rw [wo_ne e]; exact hI1)
            exact ⟨a1, (wo_imp a2).1⟩
        · dsimp only at he
          have key : ∀ f, f < c → I f = true → f ≠ f0 → y = φ f → False := fun f hf hI1 e he => by
            obtain ⟨a1, a2⟩ := p1 f hf (by rw [wo_ne e]; exact hI1)
            exact (wo_imp a2).2 he.symm
          by_cases e : f = f0
          · by_cases e2 : g = f0
            · rw [e, e2]
            · rw [if_pos e, if_neg e2] at he
              exact (key g hg hI2 e2 he).elim
          · by_cases e2 : g = f0
            · rw [if_neg e, if_pos e2] at he
              exact (key f hf hI1 e he.symm).elim
            · rw [if_neg e, if_neg e2] at he
              exact p2 f g hf hg (by rw [wo_ne e]; exact hI1) (by rw [wo_ne e2]; exact hI2) he
end
section
/-! ===== ways: all finds led to different nets ===== -/
def way (s : Nat → Nat) (c : Nat) (φ : Nat → Nat) : Prop := (∀ f, f < c → (s f).testBit (φ f) = true) ∧ ∀ f g, f < c → g < c → φ f = φ g → f = g
def fS (s : Nat → Nat) : Nat → Nat → Bool := fun f n => (s f).testBit n
def pcn (x : Nat) : Nat := cb (fun k => x.testBit k) 24
/-- all that the finds of X fit -/
def orU (s : Nat → Nat) (X : Nat) : Nat → Nat
  | 0 => 0
  | j + 1 => if X.testBit j then orU s X j ||| s j else orU s X j
theorem orU_bit (s : Nat → Nat) (X n : Nat) : ∀ j, (orU s X j).testBit n = nb (fS s) (fun k => X.testBit k) j n
  | 0 => by simp [orU, nb]
  | j + 1 => by
    have := orU_bit s X n j
    unfold orU nb
    cases hx : X.testBit j with
    | true => rw [if_pos rfl, Nat.testBit_or, this]; simp [fS]
    | false => rw [if_neg (by simp), this]; simp
theorem or_lt24 {a b : Nat} (ha : a < 2 ^ 24) (hb : b < 2 ^ 24) : a ||| b < 2 ^ 24 := Nat.or_lt_two_pow ha hb
theorem orU_lt {s : Nat → Nat} (hs : ∀ f, s f < 2 ^ 24) (X : Nat) : ∀ j, orU s X j < 2 ^ 24
  | 0 => by show 0 < 2 ^ 24; decide
  | j + 1 => by
    have := orU_lt hs X j
    unfold orU
    split
    · exact or_lt24 this (hs j)
    · exact this
theorem tb_lt {x n i : Nat} (hx : x < 2 ^ n) (h : x.testBit i = true) : i < n := by
  apply Classical.byContradiction
  intro q
  have : x < 2 ^ i := Nat.lt_of_lt_of_le hx (Nat.pow_le_pow_right (by omega) (by omega))
  rw [Nat.testBit_lt_two_pow this] at h
  cases h
theorem cb_more {X : Nat → Bool} {c : Nat} (h : ∀ k, c ≤ k → X k = false) : ∀ r, cb X (c + r) = cb X c
  | 0 => rfl
  | r + 1 => by
    have := cb_more h r
    show cb X (c + r) + (X (c + r)).toNat = _
    rw [this, h (c + r) (by omega)]; rfl
theorem cb_to {X : Nat → Bool} {c m : Nat} (h : ∀ k, c ≤ k → X k = false) (hm : c ≤ m) : cb X m = cb X c := by
  have := cb_more h (m - c)
  rwa [show c + (m - c) = m by omega] at this
/-- sets of finds as numbers -/
theorem set_num (Y : Nat → Bool) (c : Nat) (hY : ∀ k, Y k = true → k < c) : ∃ X, X < 2 ^ c ∧ ∀ k, X.testBit k = Y k := by
  refine ⟨bitf (fun k => Y k = true) c, bitf_lt _ _, fun k => ?_⟩
  rw [bitf_test]
  cases hy : Y k with
  | true => simp [hY k hy]
  | false => simp
def hallC (s : Nat → Nat) (c : Nat) : Prop := ∀ X, 1 ≤ X → X < 2 ^ c → pcn X ≤ pcn (orU s X 8)
theorem hall_gen {s : Nat → Nat} {c : Nat} (hc : c ≤ 8) {S : Nat → Nat → Bool} (I : Nat → Bool) (hI : ∀ k, I k = true → k < c) (h : ∀ X, 1 ≤ X → X < 2 ^ c → (∀ k, X.testBit k = true → I k = true) → pcn X ≤ cb (nb S (fun k => X.testBit k) c) 24) : ∃ φ : Nat → Nat, (∀ f, f < c → I f = true → φ f < 24 ∧ S f (φ f) = true) ∧ ∀ f g, f < c → g < c → I f = true → I g = true → φ f = φ g → f = g := by
  refine hall 24 c c I S (cb_le _ _) (fun Y hY => ?_)
  by_cases hz : cb Y c = 0
  · omega
  · obtain ⟨X, x1, x2⟩ := set_num Y c (fun k hk => hI k (hY k hk))
    obtain ⟨k0, k1, k2⟩ := cb_pos (X := Y) (n := c) (by omega)
    have hX : 1 ≤ X := by
      apply Classical.byContradiction
      intro q
      have : X = 0 := by omega
      have h3 := x2 k0
      rw [this, k2] at h3
      simp at h3
    have h1 := h X hX x1 (fun k hk => hY k (by rw [← x2]; exact hk))
    have e1 : (fun k => X.testBit k) = Y := funext x2
    have e2 : pcn X = cb Y c := by
      unfold pcn
      rw [e1]
      refine cb_to (fun k hk => ?_) (by omega)
      cases hy : Y k with
      | false => rfl
      | true => have := hI k (hY k hy); omega
    rw [e1, e2] at h1
    exact h1
theorem nb_8 {s : Nat → Nat} {X c : Nat} (hX : X < 2 ^ c) (hc : c ≤ 8) (n : Nat) : (orU s X 8).testBit n = nb (fS s) (fun k => X.testBit k) c n := by
  rw [orU_bit]
  apply Bool.eq_iff_iff.mpr
  rw [nb_iff, nb_iff]
  constructor
  · rintro ⟨f, h1, h2, h3⟩
    exact ⟨f, tb_lt hX h2, h2, h3⟩
  · rintro ⟨f, h1, h2, h3⟩
    exact ⟨f, by omega, h2, h3⟩
theorem pcn_nb {s : Nat → Nat} {X c : Nat} (hX : X < 2 ^ c) (hc : c ≤ 8) : pcn (orU s X 8) = cb (nb (fS s) (fun k => X.testBit k) c) 24 := cb_congr (fun n _ => nb_8 hX hc n)
theorem hall_way {s : Nat → Nat} {c : Nat} (hs : ∀ f, s f < 2 ^ 24) (hc : c ≤ 8) : hallC s c ↔ ∃ φ, way s c φ := by
  constructor
  · intro h
    obtain ⟨φ, p1, p2⟩ := hall_gen (s := s) hc (S := fS s) (fun k => decide (k < c)) (fun k hk => by simpa using hk) (fun X h1 h2 _ => by
      have := h X h1 h2
      rwa [pcn_nb h2 hc] at this)
    exact ⟨φ, fun f hf => (p1 f hf (by simpa using hf)).2, fun f g hf hg => p2 f g hf hg (by simpa using hf) (by simpa using hg)⟩
  · rintro ⟨φ, p1, p2⟩ X h1 h2
    have e : pcn X = cb (fun k => X.testBit k) c := cb_to (fun k hk => by
      cases hx : X.testBit k with
      | false => rfl
      | true => have := tb_lt h2 hx; omega) (by omega)
    rw [e]
    refine cb_inj (φ := φ) (fun f hf hx => ⟨tb_lt (hs f) (p1 f hf), ?_⟩) (fun f g hf hg _ _ => p2 f g hf hg)
    rw [nb_8 h2 hc]
    exact nb_iff.mpr ⟨f, hf, hx, p1 f hf⟩
/-- the nets to which some way leads a find -/
def rch (s : Nat → Nat) (c f n : Nat) : Prop := (s f).testBit n = true ∧ ∀ X, 1 ≤ X → X < 2 ^ c → X.testBit f = false → pcn (orU s X 8) = pcn X → (orU s X 8).testBit n = false
theorem rch_way {s : Nat → Nat} {c f n : Nat} (hs : ∀ f, s f < 2 ^ 24) (hc : c ≤ 8) (hh : hallC s c) (hf : f < c) : rch s c f n ↔ ∃ φ, way s c φ ∧ φ f = n := by
  constructor
  · rintro ⟨r1, r2⟩
    have hn : n < 24 := tb_lt (hs f) r1
    obtain ⟨φ, p1, p2⟩ := hall_gen (s := s) hc (S := fun g => wo (fS s g) n) (fun k => decide (k < c) && !(Nat.beq k f)) (fun k hk => by simp at hk; exact hk.1) (fun X h1 h2 h3 => by
      have hXf : X.testBit f = false := by
        cases hx : X.testBit f with
        | false => rfl
        | true => have := h3 f hx; simp at this
      have h4 := hh X h1 h2
      have h5 : cb (wo (nb (fS s) (fun k => X.testBit k) c) n) 24 ≤ cb (nb (fun g => wo (fS s g) n) (fun k => X.testBit k) c) 24 := cb_mono (fun j _ hj => by
        obtain ⟨g1, g2⟩ := wo_imp hj
        obtain ⟨g, e1, e2, e3⟩ := nb_iff.mp g1
        exact nb_iff.mpr ⟨g, e1, e2, by rw [wo_ne g2]; exact e3⟩)
      rw [pcn_nb h2 hc] at h4
      by_cases hnn : nb (fS s) (fun k => X.testBit k) c n = true
      · have h6 := cb_wo_in hn hnn
        have h7 : pcn (orU s X 8) ≠ pcn X := fun q => by
          have := r2 X h1 h2 hXf q
          rw [nb_8 h2 hc, hnn] at this
          cases this
        rw [pcn_nb h2 hc] at h7
        omega
      · have h6 := cb_wo_out (X := nb (fS s) (fun k => X.testBit k) c) (a := n) (n := 24) (Or.inl (by simpa using hnn))
        omega)
    have hI : ∀ g, g < c → g ≠ f → (decide (g < c) && !(Nat.beq g f)) = true := fun g h1 h2 => by
      have : Nat.beq g f = false := by
        cases hb : Nat.beq g f with
        | false => rfl
        | true => exact absurd (Nat.eq_of_beq_eq_true hb) h2
      simp [h1, this]
    refine ⟨fun g => if g = f then n else φ g, ⟨fun g hg => ?_, fun g h hg hh he => ?_⟩, if_pos rfl⟩
    · dsimp only
      by_cases e : g = f
      · rw [if_pos e, e]; exact r1
      · rw [if_neg e]
        exact (wo_imp (p1 g hg (hI g hg e)).2).1
    · dsimp only at he
      by_cases e : g = f
      · by_cases e2 : h = f
        · rw [e, e2]
        · rw [if_pos e, if_neg e2] at he
          exact absurd he.symm (wo_imp (p1 h hh (hI h hh e2)).2).2
      · by_cases e2 : h = f
        · rw [if_neg e, if_pos e2] at he
          exact absurd he (wo_imp (p1 g hg (hI g hg e)).2).2
        · rw [if_neg e, if_neg e2] at he
          exact p2 g h hg hh (hI g hg e) (hI h hh e2) he
  · rintro ⟨φ, ⟨p1, p2⟩, rfl⟩
    refine ⟨p1 f hf, fun X h1 h2 h3 h4 => ?_⟩
    cases hb : (orU s X 8).testBit (φ f) with
    | false => rfl
    | true =>
      have e : pcn X = cb (fun k => X.testBit k) c := cb_to (fun k hk => by
        cases hx : X.testBit k with
        | false => rfl
        | true => have := tb_lt h2 hx; omega) (by omega)
      have h5 : cb (fun k => X.testBit k) c ≤ cb (wo (fun k => (orU s X 8).testBit k) (φ f)) 24 := cb_inj (φ := φ) (fun g hg hx => ⟨tb_lt (hs g) (p1 g hg), by
        rw [wo_ne]
        · rw [nb_8 h2 hc]; exact nb_iff.mpr ⟨g, hg, hx, p1 g hg⟩
        · intro q
          have : g = f := p2 g f hg hf q
          rw [this] at hx
          have hx : X.testBit f = true := hx
          rw [h3] at hx; cases hx⟩) (fun g h hg hh _ _ => p2 g h hg hh)
      have h6 := cb_wo_in (X := fun k => (orU s X 8).testBit k) (a := φ f) (n := 24) (tb_lt (hs f) (p1 f hf)) hb
      have h7 : pcn (orU s X 8) = cb (fun k => (orU s X 8).testBit k) 24 := rfl
      omega
/-- of which net a find is sure -/
def sureP (s : Nat → Nat) (c f : Nat) (r : Int32) : Prop := (∃ k, k < 24 ∧ r = nI k ∧ ∀ n, (∃ φ, way s c φ ∧ φ f = n) ↔ n = k) ∨ (r = -1 ∧ ¬ ∃ k, ∀ n, (∃ φ, way s c φ ∧ φ f = n) ↔ n = k)
theorem sureP_eq {s : Nat → Nat} {c f : Nat} {r r2 : Int32} (h : sureP s c f r) (h2 : sureP s c f r2) : r = r2 := by
  rcases h with ⟨k, a1, a2, a3⟩ | ⟨a1, a2⟩
  · rcases h2 with ⟨k2, b1, b2, b3⟩ | ⟨b1, b2⟩
    · have := (b3 k).mp ((a3 k).mpr rfl)
      rw [a2, b2, this]
    · exact absurd ⟨k, a3⟩ b2
  · rcases h2 with ⟨k2, b1, b2, b3⟩ | ⟨b1, b2⟩
    · exact absurd ⟨k2, b3⟩ a2
    · rw [a1, b1]
theorem pow_bit {x k : Nat} : x = 2 ^ k ↔ ∀ n, x.testBit n = true ↔ n = k := by
  constructor
  · rintro rfl n
    rw [Nat.testBit_two_pow]
    simp only [decide_eq_true_eq]
    exact ⟨fun h => h.symm, fun h => h.symm⟩
  · intro h
    apply Nat.eq_of_testBit_eq
    intro n
    rw [Nat.testBit_two_pow]
    apply Bool.eq_iff_iff.mpr
    rw [h n]
    simp only [decide_eq_true_eq]
    exact ⟨fun h => h.symm, fun h => h.symm⟩
theorem pcn_1 {x : Nat} (hx : x < 2 ^ 24) : pcn x = 1 ↔ ∃ k, k < 24 ∧ x = 2 ^ k := by
  constructor
  · intro h
    unfold pcn at h
    obtain ⟨k, h1, h2⟩ := cb_pos (X := fun k => x.testBit k) (n := 24) (by omega)
    refine ⟨k, h1, pow_bit.mpr (fun n => ⟨fun hn => ?_, fun hn => hn ▸ h2⟩)⟩
    apply Classical.byContradiction
    intro q
    have h3 := cb_wo_in (X := fun k => x.testBit k) (a := k) (n := 24) h1 h2
    have h4 := cb_zero (X := wo (fun k => x.testBit k) k) (n := 24) (by omega) n (tb_lt hx hn)
    rw [wo_ne q] at h4
    have h4 : x.testBit n = false := h4
    rw [h4] at hn; cases hn
  · rintro ⟨k, h1, rfl⟩
    unfold pcn
    have h2 : (2 ^ k).testBit k = true := by rw [Nat.testBit_two_pow]; simp
    have h3 := cb_wo_in (X := fun j => (2 ^ k).testBit j) (a := k) (n := 24) h1 h2
    have h4 : cb (wo (fun j => (2 ^ k).testBit j) k) 24 = cb (fun _ => false) 24 := cb_congr (fun j _ => by
      by_cases e : j = k
      · subst e; exact wo_self _ _
      · rw [wo_ne e, Nat.testBit_two_pow]
        simp only [decide_eq_false_iff_not]
        exact fun q => e q.symm)
    have h5 : cb (fun _ => false) 24 = 0 := by decide
    omega
/-- more finds make fewer ways -/
theorem way_sub {s s' : Nat → Nat} {c : Nat} {φ : Nat → Nat} (h : way s' (c + 1) φ) (he : ∀ f, f < c → s' f = s f) : way s c φ :=
  ⟨fun f hf => by rw [← he f hf]; exact h.1 f (by omega), fun f g hf hg => h.2 f g (by omega) (by omega)⟩
theorem sure_stays {s s' : Nat → Nat} {c f k : Nat} (hk : ∀ n, (∃ φ, way s c φ ∧ φ f = n) ↔ n = k) (he : ∀ f, f < c → s' f = s f) (hw : ∃ φ, way s' (c + 1) φ) : ∀ n, (∃ φ, way s' (c + 1) φ ∧ φ f = n) ↔ n = k := by
  intro n
  constructor
  · rintro ⟨φ, h1, h2⟩
    exact (hk n).mp ⟨φ, way_sub h1 he, h2⟩
  · rintro rfl
    obtain ⟨φ, h1⟩ := hw
    exact ⟨φ, h1, (hk _).mp ⟨φ, way_sub h1 he, rfl⟩⟩
end
section
/-! ===== the finds of the class ===== -/
theorem sh_c : ∀ f : Fin 32, ((nI f.val &&& 31).toBitVec.smod 32).toNat = f.val := by decide
theorem shr_I {X f : Nat} (hX : X < 2147483648) (hf : f < 32) : nI X >>> (nI f &&& 31) = nI (X / 2 ^ f) := pk_shrN hX _ f (sh_c ⟨f, hf⟩)
theorem bit_I {X f : Nat} (hX : X < 2147483648) (hf : f < 32) : (nI X >>> (nI f &&& 31)) &&& 1 = nI (X.testBit f).toNat := by
  rw [shr_I hX hf]
  show nI (X / 2 ^ f) &&& nI 1 = _
  rw [nI_and, show (1 : Nat) = 2 ^ 1 - 1 from rfl, Nat.and_two_pow_sub_one_eq_mod, Nat.toNat_testBit]
theorem bit_0 {X f : Nat} (hX : X < 2147483648) (hf : f < 32) : (nI X >>> (nI f &&& 31)) &&& 1 = 0 ↔ X.testBit f = false := by
  rw [bit_I hX hf]
  cases X.testBit f with
  | true => exact ⟨fun h => absurd h (by decide), fun h => by cases h⟩
  | false => exact ⟨fun _ => rfl, fun _ => rfl⟩
theorem nI_or (a b : Nat) : nI a ||| nI b = nI (a ||| b) := by
  apply Int32.toBitVec_inj.mp
  show (Int32.ofNat a ||| Int32.ofNat b).toBitVec = (Int32.ofNat (a ||| b)).toBitVec
  rw [Int32.toBitVec_or, Int32.toBitVec_ofNat', Int32.toBitVec_ofNat', Int32.toBitVec_ofNat']
  exact BitVec.ofNat_or.symm
theorem nI_dif (a b : Nat) : nI a &&& (nI b ^^^ (-1)) = nI (a ^^^ (a &&& b)) := by
  apply Int32.toBitVec_inj.mp
  have hm : (-1 : Int32).toBitVec = BitVec.allOnes 32 := by decide
  show (Int32.ofNat a &&& (Int32.ofNat b ^^^ (-1))).toBitVec = (Int32.ofNat (a ^^^ (a &&& b))).toBitVec
  rw [Int32.toBitVec_and, Int32.toBitVec_xor, Int32.toBitVec_ofNat', Int32.toBitVec_ofNat', Int32.toBitVec_ofNat', hm]
  apply BitVec.eq_of_getLsbD_eq
  intro i hi
  simp only [BitVec.getLsbD_and, BitVec.getLsbD_xor, BitVec.getLsbD_ofNat, BitVec.getLsbD_allOnes, Nat.testBit_xor, Nat.testBit_and, hi, decide_true, Bool.true_and]
  cases a.testBit i <;> cases b.testBit i <;> rfl
/-- the finds: fits as numbers, their number -/
def iF (F : hyB) (s : Nat → Nat) (c : Nat) : Prop := F.2 2 = nI c ∧ c ≤ 8 ∧ (∀ f, F.1 0 f = nI (s f)) ∧ ∀ f, s f < 2 ^ 24
section
variable (N F S T C : hyB) (R : hyW)
theorem r_f_count : hy_R 3 mX0_count 0 0 [hy_r 10] (wW N F S T C R) (fun o w1 => ∃ x, o = some x ∧ x = F.2 2 ∧ w1 = wW N F S T C R) := by
  refine hy_Ri (L := [some (hy_r 10)]) rfl (by decide) (hy_ple rfl) rfl ?_
  refine hy_go hy_pfA oX0_count [] 60 0 0 _ ?_
  exact hy_fin ⟨rfl, rfl⟩
theorem r_f_isFind (a : Int32) : hy_R 4 mX0_isFind 0 0 [hy_r 10, .inl a] (wW N F S T C R) (fun o w1 => ∃ x, o = some x ∧ x = g_within [a, 0, F.2 2 - 1] ∧ w1 = wW N F S T C R) := by
  refine hy_Rz (L := [some (hy_r 10), some (.inl a)]) rfl (by decide) (fun x w h => h.1 ▸ g_within_01 _) (hy_ple rfl) rfl ?_
  refine hy_go hy_pfA oX0_isFind [] 60 0 0 _ ?_
  exact hy_fin ⟨rfl, rfl⟩
theorem l_f_fitted (Q : hyQ) (s : Nat → Nat) (c X : Nat) (hF : iF F s c) (hX : X < 256) (K : Q (some (nI (orU s X 8))) (wW N F S T C R)) :
    ∀ (j i : Nat), 8 - i = j → i ≤ 8 → hy_X none 4 mX0_fittedBy Q 0 0 (4, [some (hy_r 10), some (.inl (nI X)), some (.inl (nI (orU s X i))), some (.inl (nI i))], [], wW N F S T C R) := by
  obtain ⟨c1, c2, c3, c4⟩ := id hF
  intro j
  induction j with
  | zero =>
    intro i hj hi
    have : i = 8 := by omega
    subst this
    refine hy_go hy_pfA oX0_fittedBy [4] 60 0 0 _ ?_
    exact And.intro (fun q => K) (fun q => absurd (by decide : (8 : Int32) ≤ nI 8) q)
  | succ j ih =>
    intro i hj hi
    have hcl : (nI i).toNatClampNeg = i := cl_nI (by omega)
    have hin : vp_in (nI i) 8 := vn_in (by omega) (by omega)
    have nx := ih (i + 1) (by omega) (by omega)
    rw [← nI_s] at nx
    refine hy_go hy_pfA oX0_fittedBy [4] 60 0 0 _ ?_
    refine And.intro (fun q => ?_) (fun q => ?_)
    · have q : nI 8 ≤ nI i := q
      rw [nI_le24 (by omega) (by omega)] at q
      omega
    · refine And.intro (fun q2 => ?_) (fun q2 => ?_)
      · have q2 := (bit_0 (by omega) (by omega)).mp q2
        rw [orU, q2, if_neg (by decide)] at nx
        exact nx
      · have q2 : X.testBit i = true := by
          cases hx : X.testBit i with
          | true => rfl
          | false => exact absurd ((bit_0 (by omega) (by omega)).mpr hx) q2
        refine And.intro hin ?_
        rw [orU, q2, if_pos rfl, ← nI_or, ← c3 i] at nx
        rw [← hcl] at nx
        have nx2 : hy_X none 4 mX0_fittedBy Q 0 0 (4, [some (hy_r 10), some (.inl (nI X)), some (.inl (nI (orU s X i) ||| F.1 0 (nI i).toNatClampNeg)), some (.inl (nI i + 1))], [], wW N F S T C R) := by
          rw [hcl] at nx ⊢
          exact nx
        exact nx2
theorem r_f_fitted (s : Nat → Nat) (c X : Nat) (hF : iF F s c) (hX : X < 256) : hy_R 4 mX0_fittedBy 0 0 [hy_r 10, .inl (nI X)] (wW N F S T C R) (fun o w1 => ∃ x, o = some x ∧ x = nI (orU s X 8) ∧ w1 = wW N F S T C R) := by
  refine hy_Ri (L := [some (hy_r 10), some (.inl (nI X)), none, none]) rfl (by decide) (hy_ple rfl) rfl ?_
  refine hy_go hy_pfA oX0_fittedBy [4] 60 0 0 _ ?_
  exact l_f_fitted N F S T C R _ s c X hF hX ⟨_, rfl, rfl, rfl⟩ 8 0 (by omega) (by omega)
theorem pw8 {c : Nat} (h : c ≤ 8) : 2 ^ c ≤ 256 := Nat.pow_le_pow_right (n := 2) (by omega) h
theorem l_f_hasWay (Q : hyQ) (s : Nat → Nat) (c t : Nat) (hF : iF F s c) (ht : t ≤ 8) (K : (hallC s t → Q (some 1) (wW N F S T C R)) ∧ (¬ hallC s t → Q (some 0) (wW N F S T C R))) :
    ∀ (j i : Nat), 2 ^ t - i = j → 1 ≤ i → i ≤ 2 ^ t → (∀ X, 1 ≤ X → X < i → pcn X ≤ pcn (orU s X 8)) → hy_X none 5 mX0_hasWay Q 0 0 (6, [some (hy_r 10), some (.inl (nI t)), some (.inl (nI (2 ^ t))), some (.inl (nI i))], [], wW N F S T C R) := by
  have hp := pw8 ht
  intro j
  induction j with
  | zero =>
    intro i hj h1 hi h2
    have : i = 2 ^ t := by omega
    refine hy_go hy_pfA oX0_hasWay [6] 60 0 0 _ ?_
    refine And.intro (fun q => ?_) (fun q => absurd ?_ q)
    · exact K.1 (fun X a b => h2 X a (by omega))
    · rw [this]; exact Int32.le_refl _
  | succ j ih =>
    intro i hj h1 hi h2
    refine hy_go hy_pfA oX0_hasWay [6] 60 0 0 _ ?_
    refine And.intro (fun q => ?_) (fun q => ?_)
    · rw [nI_le24 (by omega) (by omega)] at q
      omega
    · refine hy_cl (r_f_fitted N F S T C R s c i hF (by omega)) rfl ?_
      rintro o w1 ⟨x, rfl, rfl, rfl⟩
      have e1 : g_bitCount [nI (orU s i 8)] = nI (pcn (orU s i 8)) := bc_I (orU_lt hF.2.2.2 i 8)
      have e2 : g_bitCount [nI i] = nI (pcn i) := bc_I (by omega)
      have l1 : pcn (orU s i 8) ≤ 24 := cb_le _ _
      have l2 : pcn i ≤ 24 := cb_le _ _
      refine And.intro (fun q2 => ?_) (fun q2 => ?_)
      · rw [e1, e2, nI_le24 (by omega) (by omega)] at q2
        have nx := ih (i + 1) (by omega) (by omega) (by omega) (fun X a b => by
          by_cases e : X = i
          · rw [e]; exact q2
          · exact h2 X a (by omega))
        rw [← nI_s] at nx
        exact nx
      · rw [e1, e2, nI_le24 (by omega) (by omega)] at q2
        exact K.2 (fun h => q2 (h i h1 (by omega)))
theorem r_f_hasWay (s : Nat → Nat) (c t : Nat) (hF : iF F s c) (ht : t ≤ 8) : hy_R 5 mX0_hasWay 0 0 [hy_r 10, .inl (nI t)] (wW N F S T C R) (fun o w1 => ∃ x, o = some x ∧ ((hallC s t ∧ x = 1) ∨ (¬ hallC s t ∧ x = 0)) ∧ w1 = wW N F S T C R) := by
  refine hy_Rz (L := [some (hy_r 10), some (.inl (nI t)), none, none]) rfl (by decide) (fun x w h => ?_) (hy_ple rfl) rfl ?_
  · rcases h.1 with h | h
    · exact Or.inr h.2
    · exact Or.inl h.2
  refine hy_go hy_pfA oX0_hasWay [6] 60 0 0 _ ?_
  have := l_f_hasWay N F S T C R (fun o w1 => ∃ x, o = some x ∧ ((hallC s t ∧ x = 1) ∨ (¬ hallC s t ∧ x = 0)) ∧ w1 = wW N F S T C R) s c t hF ht ⟨fun h => ⟨1, rfl, Or.inl ⟨h, rfl⟩, rfl⟩, fun h => ⟨0, rfl, Or.inr ⟨h, rfl⟩, rfl⟩⟩ _ 1 rfl (by omega) (Nat.pos_of_ne_zero (by simp)) (fun X a b => by omega)
  rw [← shl_1 (by omega)] at this
  exact this
theorem l_f_reach (Q : hyQ) (s : Nat → Nat) (c f : Nat) (hF : iF F s c) (hf : f < 8) (K : ∀ o, o < 2 ^ 24 → (∀ n, o.testBit n = true ↔ rch s c f n) → Q (some (nI o)) (wW N F S T C R)) :
    ∀ (j i o : Nat) (x1 x2 : Option hyV), 2 ^ c - i = j → 1 ≤ i → i ≤ 2 ^ c → o < 2 ^ 24 → (∀ n, o.testBit n = true ↔ (s f).testBit n = true ∧ ∀ X, 1 ≤ X → X < i → X.testBit f = false → pcn (orU s X 8) = pcn X → (orU s X 8).testBit n = false) → hy_X none 5 mX0_reachable Q 0 0 (17, [some (hy_r 10), some (.inl (nI f)), some (.inl (nI o)), some (.inl (nI (2 ^ c))), some (.inl (nI i)), x1, x2], [], wW N F S T C R) := by
  have hp := pw8 hF.2.1
  intro j
  induction j with
  | zero =>
    intro i o x1 x2 hj h1 hi ho h2
    have : i = 2 ^ c := by omega
    refine hy_go hy_pfA oX0_reachable [17] 60 0 0 _ ?_
    refine And.intro (fun q => ?_) (fun q => absurd ?_ q)
    · exact K o ho (fun n => by rw [h2 n, this]; exact Iff.rfl)
    · rw [this]; exact Int32.le_refl _
  | succ j ih =>
    intro i o x1 x2 hj h1 hi ho h2
    have keep : (i.testBit f = true ∨ pcn (orU s i 8) ≠ pcn i) → ∀ x1 x2, hy_X none 5 mX0_reachable Q 0 0 (17, [some (hy_r 10), some (.inl (nI f)), some (.inl (nI o)), some (.inl (nI (2 ^ c))), some (.inl (nI i + 1)), x1, x2], [], wW N F S T C R) := fun hk x1 x2 => by
      rw [nI_s]
      refine ih (i + 1) o x1 x2 (by omega) (by omega) (by omega) ho (fun n => ?_)
      rw [h2 n]
      constructor
      · rintro ⟨a, b⟩
        refine ⟨a, fun X g1 g2 g3 g4 => ?_⟩
        by_cases e : X = i
        · rw [e] at g3 g4
          rcases hk with hk | hk
          · rw [hk] at g3; cases g3
          · exact absurd g4 hk
        · exact b X g1 (by omega) g3 g4
      · rintro ⟨a, b⟩
        exact ⟨a, fun X g1 g2 g3 g4 => b X g1 (by omega) g3 g4⟩
    have e1 : g_bitCount [nI (orU s i 8)] = nI (pcn (orU s i 8)) := bc_I (orU_lt hF.2.2.2 i 8)
    have e2 : g_bitCount [nI i] = nI (pcn i) := bc_I (by omega)
    have l1 : pcn (orU s i 8) ≤ 24 := cb_le _ _
    have l2 : pcn i ≤ 24 := cb_le _ _
    have b2 : ∀ z : Int32, (z = 0 → i.testBit f = true) → (¬ z = 0 → i.testBit f = false) → hy_X none 5 mX0_reachable Q 0 0 (39, [some (hy_r 10), some (.inl (nI f)), some (.inl (nI o)), some (.inl (nI (2 ^ c))), some (.inl (nI i)), some (.inl z), x2], [], wW N F S T C R) := by
      intro z hz1 hz2
      refine hy_go hy_pfA oX0_reachable [17] 60 0 0 _ ?_
      refine hy_cl (r_f_fitted N F S T C R s c i hF (by omega)) rfl ?_
      rintro o2 w1 ⟨x, rfl, rfl, rfl⟩
      refine And.intro (fun q2 => ?_) (fun q2 => ?_)
      · exact keep (Or.inl (hz1 q2)) _ _
      · refine And.intro (fun q3 => ?_) (fun q3 => ?_)
        · rw [e1, e2, zi_eq, zi_nI (by omega), zi_nI (by omega)] at q3
          have nx := ih (i + 1) (o ^^^ (o &&& orU s i 8)) (some (.inl z)) (some (.inl (nI (orU s i 8)))) (by omega) (by omega) (by omega) (Nat.xor_lt_two_pow ho (Nat.lt_of_le_of_lt Nat.and_le_left ho)) (fun n => by
            have : (o ^^^ (o &&& orU s i 8)).testBit n = (o.testBit n && !((orU s i 8).testBit n)) := by
              rw [Nat.testBit_xor, Nat.testBit_and]
              cases o.testBit n <;> cases (orU s i 8).testBit n <;> rfl
            rw [this, Bool.and_eq_true, h2 n]
            constructor
            · rintro ⟨⟨a, b⟩, d⟩
              refine ⟨a, fun X g1 g2 g3 g4 => ?_⟩
              by_cases e : X = i
              · rw [e]; simpa using d
              · exact b X g1 (by omega) g3 g4
            · rintro ⟨a, b⟩
              refine ⟨⟨a, fun X g1 g2 g3 g4 => b X g1 (by omega) g3 g4⟩, ?_⟩
              have := b i h1 (by omega) (hz2 q2) (by omega)
              simpa using this)
          rw [← nI_s, ← nI_dif] at nx
          exact nx
        · rw [e1, e2, zi_eq, zi_nI (by omega), zi_nI (by omega)] at q3
          exact keep (Or.inr (by omega)) _ _
    refine hy_go hy_pfA oX0_reachable [17, 39] 60 0 0 _ ?_
    refine And.intro (fun q => ?_) (fun q => ?_)
    · rw [nI_le24 (by omega) (by omega)] at q
      omega
    · refine And.intro (fun q2 => ?_) (fun q2 => ?_)
      · have q2 := (bit_0 (by omega) (by omega)).mp q2
        exact b2 1 (fun h => absurd h (by decide)) (fun _ => q2)
      · have q2 : i.testBit f = true := by
          cases hx : i.testBit f with
          | true => rfl
          | false => exact absurd ((bit_0 (by omega) (by omega)).mpr hx) q2
        exact b2 0 (fun _ => q2) (fun h => absurd rfl h)
theorem r_f_reach (s : Nat → Nat) (c f : Nat) (hF : iF F s c) (hf : f < 8) : hy_R 5 mX0_reachable 0 0 [hy_r 10, .inl (nI f)] (wW N F S T C R) (fun o w1 => ∃ x, o = some x ∧ (∃ z, x = nI z ∧ z < 2 ^ 24 ∧ ∀ n, z.testBit n = true ↔ rch s c f n) ∧ w1 = wW N F S T C R) := by
  have hcl : (nI f).toNatClampNeg = f := cl_nI (by omega)
  refine hy_Ri (L := [some (hy_r 10), some (.inl (nI f)), none, none, none, none, none]) rfl (by decide) (hy_ple rfl) rfl ?_
  refine hy_go hy_pfA oX0_reachable [17] 60 0 0 _ ?_
  refine And.intro (vn_in hf (by omega)) ?_
  have := l_f_reach N F S T C R (fun o w1 => ∃ x, o = some x ∧ (∃ z, x = nI z ∧ z < 2 ^ 24 ∧ ∀ n, z.testBit n = true ↔ rch s c f n) ∧ w1 = wW N F S T C R) s c f hF hf (fun o h1 h2 => ⟨_, rfl, ⟨o, rfl, h1, h2⟩, rfl⟩) _ 1 (s f) none none rfl (by omega) (Nat.pos_of_ne_zero (by simp)) (hF.2.2.2 f) (fun n => ⟨fun h => ⟨h, fun X a b => by omega⟩, fun h => h.1⟩)
  rw [← shl_1 (by have := hF.2.1; omega), ← hF.2.2.1 f, ← hF.1] at this
  have e : F.1 0 (nI f).toNatClampNeg = F.1 0 f := by rw [hcl]
  rw [← e] at this
  exact this
end
end
section
/-! ===== the finds of the class, the rest ===== -/
def e74 (n y : Int32) : Int32 := n + hy_ush y 1
def e62 (n y : Int32) : Int32 := if y ≤ 4 then e74 n y else e74 (n + 2) (hy_ush y 2)
def e49 (n y : Int32) : Int32 := if y ≤ 16 then e62 n y else e62 (n + 4) (hy_ush y 4)
def e34 (n y : Int32) : Int32 := if y ≤ 256 then e49 n y else e49 (n + 8) (hy_ush y 8)
def e17 (y : Int32) : Int32 := if y ≤ 65536 then e34 1 y else e34 (1 + 16) (hy_ush y 16)
def nzf (x : Int32) : Int32 := if 0 < ((x ^^^ (-1)) &&& (x - 1)) then e17 ((x ^^^ (-1)) &&& (x - 1)) else ((x ^^^ (-1)) &&& (x - 1)) &&& 32
theorem nzf_pow : ∀ k : Fin 24, nzf (nI (2 ^ k.val)) = nI k.val := by decide
theorem r_ntz (d : Nat) (x : Int32) (w : hyW) : hy_R d mJ6_numberOfTrailingZeros_0f7a4 0 0 [.inl x] w (fun o w1 => ∃ z, o = some z ∧ z = nzf x ∧ w1 = w) := by
  refine hy_Ri (L := [some (.inl x), none]) rfl (by decide) (hy_ple rfl) rfl ?_
  have k74 : ∀ n y : Int32, e74 n y = nzf x → hy_X none d mJ6_numberOfTrailingZeros_0f7a4 (fun o w1 => ∃ z, o = some z ∧ z = nzf x ∧ w1 = w) 0 0 (74, [some (.inl y), some (.inl n)], [], w) := fun n y h => by
    refine hy_go hy_pfA oJ6_numberOfTrailingZeros_0f7a4 [] 60 0 0 _ ?_
    exact hy_fin ⟨h, rfl⟩
  have k62 : ∀ n y : Int32, e62 n y = nzf x → hy_X none d mJ6_numberOfTrailingZeros_0f7a4 (fun o w1 => ∃ z, o = some z ∧ z = nzf x ∧ w1 = w) 0 0 (62, [some (.inl y), some (.inl n)], [], w) := fun n y h => by
    refine hy_go hy_pfA oJ6_numberOfTrailingZeros_0f7a4 [74] 60 0 0 _ ?_
    refine And.intro (fun q => k74 n y ?_) (fun q => k74 (n + 2) (hy_ush y 2) ?_)
    · rw [e62, if_pos q] at h; exact h
    · rw [e62, if_neg q] at h; exact h
  have k49 : ∀ n y : Int32, e49 n y = nzf x → hy_X none d mJ6_numberOfTrailingZeros_0f7a4 (fun o w1 => ∃ z, o = some z ∧ z = nzf x ∧ w1 = w) 0 0 (49, [some (.inl y), some (.inl n)], [], w) := fun n y h => by
    refine hy_go hy_pfA oJ6_numberOfTrailingZeros_0f7a4 [62] 60 0 0 _ ?_
    refine And.intro (fun q => k62 n y ?_) (fun q => k62 (n + 4) (hy_ush y 4) ?_)
    · rw [e49, if_pos q] at h; exact h
    · rw [e49, if_neg q] at h; exact h
  have k34 : ∀ n y : Int32, e34 n y = nzf x → hy_X none d mJ6_numberOfTrailingZeros_0f7a4 (fun o w1 => ∃ z, o = some z ∧ z = nzf x ∧ w1 = w) 0 0 (34, [some (.inl y), some (.inl n)], [], w) := fun n y h => by
    refine hy_go hy_pfA oJ6_numberOfTrailingZeros_0f7a4 [49] 60 0 0 _ ?_
    refine And.intro (fun q => k49 n y ?_) (fun q => k49 (n + 8) (hy_ush y 8) ?_)
    · rw [e34, if_pos q] at h; exact h
    · rw [e34, if_neg q] at h; exact h
  refine hy_go hy_pfA oJ6_numberOfTrailingZeros_0f7a4 [34] 60 0 0 _ ?_
  refine And.intro (fun q => And.intro (fun q2 => k34 _ _ ?_) (fun q2 => k34 _ _ ?_)) (fun q => hy_fin ⟨?_, rfl⟩)
  · rw [nzf, if_pos q, e17, if_pos q2]
  · rw [nzf, if_pos q, e17, if_neg q2]; rfl
  · rw [nzf, if_neg q]
theorem r_onlyOne (x : Nat) (hx : x < 2 ^ 24) (w : hyW) : hy_R 4 mX0_onlyOne 0 0 [.inl (nI x)] w (fun o w1 => ∃ z, o = some z ∧ ((∃ k, k < 24 ∧ x = 2 ^ k ∧ z = nI k) ∨ (¬ ∃ k, k < 24 ∧ x = 2 ^ k) ∧ z = -1) ∧ w1 = w) := by
  refine hy_Ri (L := [some (.inl (nI x))]) rfl (by decide) (hy_ple rfl) rfl ?_
  refine hy_go hy_pfA oX0_onlyOne [] 60 0 0 _ ?_
  have e1 : g_bitCount [nI x] = nI (pcn x) := bc_I hx
  have l1 : pcn x ≤ 24 := cb_le _ _
  have h1 : g_bitCount [nI x] = 1 ↔ pcn x = 1 := by
    rw [e1, zi_eq, zi_nI (by omega), zi_lit1]; omega
  refine And.intro (fun q => ?_) (fun q => ?_)
  · obtain ⟨k, k1, k2⟩ := (pcn_1 hx).mp (h1.mp q)
    refine hy_cl (r_ntz 3 (nI x) w) rfl ?_
    rintro o w1 ⟨z, rfl, rfl, rfl⟩
    refine hy_fin ⟨Or.inl ⟨k, k1, k2, ?_⟩, rfl⟩
    rw [k2]; exact nzf_pow ⟨k, k1⟩
  · exact hy_fin ⟨Or.inr ⟨fun h => q (h1.mpr ((pcn_1 hx).mpr h)), rfl⟩, rfl⟩
theorem sureP_of {s : Nat → Nat} {c f x : Nat} {z : Int32} (hs : ∀ f, s f < 2 ^ 24) (hc : c ≤ 8) (hh : hallC s c) (hf : f < c) (hx : ∀ n, x.testBit n = true ↔ rch s c f n) (hz : (∃ k, k < 24 ∧ x = 2 ^ k ∧ z = nI k) ∨ (¬ ∃ k, k < 24 ∧ x = 2 ^ k) ∧ z = -1) : sureP s c f z := by
  have h1 : ∀ n, (∃ φ, way s c φ ∧ φ f = n) ↔ x.testBit n = true := fun n => by rw [hx, rch_way hs hc hh hf]
  rcases hz with ⟨k, k1, k2, k3⟩ | ⟨k1, k2⟩
  · exact Or.inl ⟨k, k1, k3, fun n => by rw [h1 n]; exact pow_bit.mp k2 n⟩
  · refine Or.inr ⟨k2, ?_⟩
    rintro ⟨k, hk⟩
    have h2 : x = 2 ^ k := pow_bit.mpr (fun n => by rw [← h1 n]; exact hk n)
    have h3 : k < 24 := by
      have h4 : (s f).testBit k = true := ((hx k).mp ((pow_bit.mp h2 k).mpr rfl)).1
      exact tb_lt (hs f) h4
    exact k1 ⟨k, h3, h2⟩
def us (s : Nat → Nat) (c x : Nat) : Nat → Nat := fun f => if f = c then x else s f
theorem us_lt {s : Nat → Nat} {c x : Nat} (hs : ∀ f, s f < 2 ^ 24) (hx : x < 2 ^ 24) : ∀ f, us s c x f < 2 ^ 24 := fun f => by
  unfold us; split
  · exact hx
  · exact hs f
section
variable (N F S T C : hyB) (R : hyW)
theorem l_f_tell (Q : hyQ) (a : Option hyV) (s : Nat → Nat) (c : Nat) (hF : iF F s c) (h1 : 1 ≤ c) (hh : hallC s c)
    (K : ∀ g : Nat → Int32, (∀ f, f < c → sureP s c f (g f)) → Q (some (nI (c - 1))) (wW N (sa F 1 g) S T C R)) :
    ∀ (j i : Nat) (g : Nat → Int32), c - i = j → i ≤ c → (∀ f, f < i → sureP s c f (g f)) → hy_X none 6 mX0_tell Q 0 0 (48, [some (hy_r 10), a, some (.inl (nI i))], [], wW N (sa F 1 g) S T C R) := by
  obtain ⟨c1, c2, c3, c4⟩ := id hF
  intro j
  induction j with
  | zero =>
    intro i g hj hi hg
    have : i = c := by omega
    subst this
    refine hy_go hy_pfA oX0_tell [48] 60 0 0 _ ?_
    refine And.intro (fun q => ?_) (fun q => absurd ?_ q)
    · have := K g hg
      have e : nI (i - 1) = F.2 2 - 1 := by
        rw [c1]
        have := nI_pred (i - 1)
        rw [show i - 1 + 1 = i by omega] at this
        exact this.symm
      rw [e] at this
      exact this
    · show F.2 2 ≤ nI i
      rw [c1]; exact Int32.le_refl _
  | succ j ih =>
    intro i g hj hi hg
    have hcl : (nI i).toNatClampNeg = i := cl_nI (by omega)
    have a1 : c - (i + 1) = j := by omega
    have a2 : i + 1 ≤ c := by omega
    have a3 : i < 8 := by omega
    refine hy_go hy_pfA oX0_tell [48] 60 0 0 _ ?_
    refine And.intro (fun q => ?_) (fun q => ?_)
    · have q : F.2 2 ≤ nI i := q
      rw [c1, nI_le24 (by omega) (by omega)] at q
      omega
    · refine hy_cl (r_f_reach N (sa F 1 g) S T C R s c i hF (by omega)) rfl ?_
      rintro o w1 ⟨x, rfl, ⟨z, rfl, z1, z2⟩, rfl⟩
      refine hy_cl (r_onlyOne z z1 _) rfl ?_
      rintro o w1 ⟨x, rfl, hx, rfl⟩
      refine And.intro (vn_in a3 (by decide)) ?_
      have nx := ih (i + 1) (upd g (nI i).toNatClampNeg x) a1 a2 (fun f hf => by
        rw [hcl]
        unfold upd
        by_cases e : f = i
        · rw [if_pos e, e]
          exact sureP_of c4 c2 hh a2 z2 hx
        · rw [if_neg e]
          exact hg f (Nat.lt_of_le_of_ne (Nat.le_of_lt_succ hf) e))
      rw [← nI_s] at nx
      exact nx
/-- what telling a find does -/
def sp_tell (F : hyB) (s : Nat → Nat) (c x : Nat) (r : Int32) (F' : hyB) : Prop :=
  (c < 8 ∧ (∃ φ, way (us s c x) (c + 1) φ) ∧ r = nI c ∧ ∃ g : Nat → Int32, (∀ f, f < c + 1 → sureP (us s c x) (c + 1) f (g f)) ∧ F' = ss (sa (sa F 0 (upd (F.1 0) c (nI x))) 1 g) 2 (nI (c + 1))) ∨
  (c < 8 ∧ (¬ ∃ φ, way (us s c x) (c + 1) φ) ∧ r = -1 ∧ F' = sa F 0 (upd (F.1 0) c (nI x))) ∨ (¬ c < 8 ∧ r = -1 ∧ F' = F)
theorem iF_upd {F : hyB} {s : Nat → Nat} {c x : Nat} (hF : iF F s c) (hx : x < 2 ^ 24) : iF (sa F 0 (upd (F.1 0) c (nI x))) (us s c x) c := by
  obtain ⟨c1, c2, c3, c4⟩ := hF
  refine ⟨c1, c2, fun f => ?_, us_lt c4 hx⟩
  show upd (F.1 0) c (nI x) f = nI (us s c x f)
  unfold upd us
  split
  · rfl
  · exact c3 f
set_option maxRecDepth 100000 in
theorem r_f_tell (s : Nat → Nat) (c x : Nat) (hF : iF F s c) (hx : x < 2 ^ 24) : hy_R 6 mX0_tell 0 0 [hy_r 10, .inl (nI x)] (wW N F S T C R) (fun o w1 => ∃ r, o = some r ∧ ∃ F', sp_tell F s c x r F' ∧ w1 = wW N F' S T C R) := by
  obtain ⟨c1, c2, c3, c4⟩ := id hF
  refine hy_Ri (L := [some (hy_r 10), some (.inl (nI x)), none]) rfl (by decide) (hy_ple rfl) rfl ?_
  refine hy_go hy_pfA oX0_tell [48] 60 0 0 _ ?_
  refine And.intro (fun q => ?_) (fun q => ?_)
  · have hc : c < 8 := by
      have q := zi_lt.mp q
      rw [c1, zi_nI (by omega)] at q
      have : (8 : Int32).toInt = 8 := rfl
      omega
    have hcl : (F.2 2).toNatClampNeg = c := by rw [c1]; exact cl_nI (by omega)
    have hF2 := iF_upd hF hx
    refine And.intro (by rw [c1]; exact vn_in hc (by omega)) ?_
    have e0 : nI (c + 1) = F.2 2 + 1 := by rw [c1, nI_s]
    have hw : hy_R 5 mX0_hasWay 0 0 [hy_r 10, .inl (F.2 2 + 1)] (wW N (sa F 0 (upd (F.1 0) (F.2 2).toNatClampNeg (nI x))) S T C R) (fun o w1 => ∃ z, o = some z ∧ ((hallC (us s c x) (c + 1) ∧ z = 1) ∨ (¬ hallC (us s c x) (c + 1) ∧ z = 0)) ∧ w1 = wW N (sa F 0 (upd (F.1 0) c (nI x))) S T C R) := by
      rw [hcl, ← e0]
      exact r_f_hasWay N (sa F 0 (upd (F.1 0) c (nI x))) S T C R (us s c x) c (c + 1) hF2 (by omega)
    refine hy_cl hw rfl ?_
    rintro o w1 ⟨z, rfl, hz, rfl⟩
    refine And.intro (fun q2 => ?_) (fun q2 => ?_)
    · rcases hz with ⟨h1, h2⟩ | ⟨h1, h2⟩
      · rw [h2] at q2; exact absurd q2 (by decide)
      · refine hy_fin ⟨sa F 0 (upd (F.1 0) c (nI x)), Or.inr (Or.inl ⟨hc, fun h => h1 ((hall_way (us_lt c4 hx) (by omega)).mpr h), rfl, rfl⟩), rfl⟩
    · rcases hz with ⟨h1, h2⟩ | ⟨h1, h2⟩
      · have hF3 : iF (ss (sa F 0 (upd (F.1 0) c (nI x))) 2 (nI (c + 1))) (us s c x) (c + 1) := ⟨rfl, by omega, hF2.2.2.1, hF2.2.2.2⟩
        have key := l_f_tell N (ss (sa F 0 (upd (F.1 0) c (nI x))) 2 (nI (c + 1))) S T C R (fun o w1 => ∃ r, o = some r ∧ ∃ F', sp_tell F s c x r F' ∧ w1 = wW N F' S T C R) (some (.inl (nI x))) (us s c x) (c + 1) hF3 (by omega) h1 (fun g hg => ⟨_, rfl, ss (sa (sa F 0 (upd (F.1 0) c (nI x))) 1 g) 2 (nI (c + 1)), Or.inl ⟨hc, (hall_way (us_lt c4 hx) (by omega)).mp h1, rfl, g, hg, rfl⟩, rfl⟩) (c + 1) 0 (F.1 1) (by omega) (by omega) (fun f hf => by omega)
        have e : F.2 2 + 1 = nI (c + 1) := e0.symm
        have goal : hy_X none 6 mX0_tell (fun o w1 => ∃ r, o = some r ∧ ∃ F', sp_tell F s c x r F' ∧ w1 = wW N F' S T C R) 0 0 (48, [some (hy_r 10), some (.inl (nI x)), some (.inl 0)], [], wW N (ss (sa F 0 (upd (F.1 0) c (nI x))) 2 (F.2 2 + 1)) S T C R) := by
          rw [e]; exact key
        exact goal
      · rw [h2] at q2; exact absurd rfl q2
  · refine hy_fin ⟨F, Or.inr (Or.inr ⟨fun h => q (zi_lt.mpr ?_), rfl, rfl⟩), rfl⟩
    rw [c1, zi_nI (by omega)]
    have : (8 : Int32).toInt = 8 := rfl
    omega
theorem r_f_howMany (a : Int32) (s : Nat → Nat) (c : Nat) (hF : iF F s c) : hy_R 5 mX0_howManyFit 0 0 [hy_r 10, .inl a] (wW N F S T C R) (fun o w1 => ∃ x, o = some x ∧ ((∃ f, f < c ∧ a = nI f ∧ x = nI (pcn (s f))) ∨ (¬ ∃ f, f < c ∧ a = nI f) ∧ x = -1) ∧ w1 = wW N F S T C R) := by
  obtain ⟨c1, c2, c3, c4⟩ := id hF
  refine hy_Ri (L := [some (hy_r 10), some (.inl a)]) rfl (by decide) (hy_ple rfl) rfl ?_
  refine hy_go hy_pfA oX0_howManyFit [] 60 0 0 _ ?_
  refine hy_cl (r_f_isFind N F S T C R a) rfl ?_
  rintro o w1 ⟨x, rfl, rfl, rfl⟩
  refine And.intro (fun q => ?_) (fun q => ?_)
  · rw [c1] at q
    exact hy_fin ⟨Or.inr ⟨net_out (by omega) q, rfl⟩, rfl⟩
  · rw [c1] at q
    obtain ⟨f, hf, rfl⟩ := net_in (by omega) q
    have hcl : (nI f).toNatClampNeg = f := cl_nI (by omega)
    refine And.intro (vn_in (by omega) (by omega)) ?_
    refine hy_fin ⟨Or.inl ⟨f, hf, rfl, ?_⟩, rfl⟩
    show g_bitCount [F.1 0 (nI f).toNatClampNeg] = _
    rw [hcl, c3 f]; exact bc_I (c4 f)
theorem r_f_sureNet (a : Int32) (s : Nat → Nat) (c : Nat) (hF : iF F s c) : hy_R 5 mX0_sureNet 0 0 [hy_r 10, .inl a] (wW N F S T C R) (fun o w1 => ∃ x, o = some x ∧ ((∃ f, f < c ∧ a = nI f ∧ x = F.1 1 f) ∨ (¬ ∃ f, f < c ∧ a = nI f) ∧ x = -1) ∧ w1 = wW N F S T C R) := by
  obtain ⟨c1, c2, c3, c4⟩ := id hF
  refine hy_Ri (L := [some (hy_r 10), some (.inl a)]) rfl (by decide) (hy_ple rfl) rfl ?_
  refine hy_go hy_pfA oX0_sureNet [] 60 0 0 _ ?_
  refine hy_cl (r_f_isFind N F S T C R a) rfl ?_
  rintro o w1 ⟨x, rfl, rfl, rfl⟩
  refine And.intro (fun q => ?_) (fun q => ?_)
  · rw [c1] at q
    exact hy_fin ⟨Or.inr ⟨net_out (by omega) q, rfl⟩, rfl⟩
  · rw [c1] at q
    obtain ⟨f, hf, rfl⟩ := net_in (by omega) q
    have hcl : (nI f).toNatClampNeg = f := cl_nI (by omega)
    refine And.intro (vn_in (by omega) (by omega)) ?_
    refine hy_fin ⟨Or.inl ⟨f, hf, rfl, ?_⟩, rfl⟩
    show F.1 1 (nI f).toNatClampNeg = _
    rw [hcl]
/-- the first find that is sure of a net -/
def sp_sf (g : Nat → Int32) (c : Nat) (a r : Int32) : Prop := (∃ f, f < c ∧ 0 ≤ a ∧ g f = a ∧ r = nI f ∧ ∀ h, h < f → g h ≠ a) ∨ ((¬ ∃ f, f < c ∧ 0 ≤ a ∧ g f = a) ∧ r = -1)
theorem l_f_sureFind (Q : hyQ) (a : Int32) (ha : 0 ≤ a) (s : Nat → Nat) (c : Nat) (hF : iF F s c) (K : ∀ r, sp_sf (F.1 1) c a r → Q (some r) (wW N F S T C R)) :
    ∀ (j i : Nat), c - i = j → i ≤ c → (∀ h, h < i → F.1 1 h ≠ a) → hy_X none 4 mX0_sureFind Q 0 0 (8, [some (hy_r 10), some (.inl a), some (.inl (nI i))], [], wW N F S T C R) := by
  obtain ⟨c1, c2, c3, c4⟩ := id hF
  intro j
  induction j with
  | zero =>
    intro i hj hi hg
    have : i = c := by omega
    subst this
    refine hy_go hy_pfA oX0_sureFind [8] 60 0 0 _ ?_
    refine And.intro (fun q => ?_) (fun q => absurd ?_ q)
    · refine K (-1) (Or.inr ⟨?_, rfl⟩)
      rintro ⟨f, h1, h2, h3⟩
      exact hg f h1 h3
    · rw [c1]; exact Int32.le_refl _
  | succ j ih =>
    intro i hj hi hg
    have hcl : (nI i).toNatClampNeg = i := cl_nI (by omega)
    refine hy_go hy_pfA oX0_sureFind [8] 60 0 0 _ ?_
    refine And.intro (fun q => ?_) (fun q => ?_)
    · rw [c1, nI_le24 (by omega) (by omega)] at q
      omega
    · refine And.intro (vn_in (by omega) (by omega)) ?_
      refine And.intro (fun q2 => ?_) (fun q2 => ?_)
      · rw [hcl] at q2
        exact K (nI i) (Or.inl ⟨i, by omega, ha, q2, rfl, hg⟩)
      · rw [hcl] at q2
        have nx := ih (i + 1) (by omega) (by omega) (fun h hh => by
          by_cases e : h = i
          · rw [e]; exact q2
          · exact hg h (by omega))
        rw [← nI_s] at nx
        exact nx
theorem r_f_sureFind (a : Int32) (s : Nat → Nat) (c : Nat) (hF : iF F s c) : hy_R 4 mX0_sureFind 0 0 [hy_r 10, .inl a] (wW N F S T C R) (fun o w1 => ∃ r, o = some r ∧ sp_sf (F.1 1) c a r ∧ w1 = wW N F S T C R) := by
  refine hy_Ri (L := [some (hy_r 10), some (.inl a), none]) rfl (by decide) (hy_ple rfl) rfl ?_
  refine hy_go hy_pfA oX0_sureFind [8] 60 0 0 _ ?_
  refine And.intro (fun q => ?_) (fun q => ?_)
  · exact l_f_sureFind N F S T C R _ a q s c hF (fun r hr => ⟨r, rfl, hr, rfl⟩) c 0 (by omega) (by omega) (fun h hh => by omega)
  · refine hy_fin ⟨Or.inr ⟨?_, rfl⟩, rfl⟩
    rintro ⟨f, -, h, -⟩
    exact q h
end
end
section
/-! ===== the reference's ways: net by net, over sets of finds ===== -/
def cst (fd nt : Int32) (f n : Nat) : Prop := ¬ nI f = fd ∨ nI n = nt
/-- the finds of X led to different nets below m -/
def mt (s : Nat → Nat) (fd nt : Int32) (m X : Nat) : Prop := ∃ φ : Nat → Nat, (∀ f, X.testBit f = true → φ f < m ∧ (s f).testBit (φ f) = true ∧ cst fd nt f (φ f)) ∧ ∀ f g, X.testBit f = true → X.testBit g = true → φ f = φ g → f = g
def xo (Y f : Nat) : Nat := Y ^^^ 2 ^ f
theorem xo_bit (Y f g : Nat) : (xo Y f).testBit g = (Y.testBit g ^^ decide (f = g)) := by
  unfold xo; rw [Nat.testBit_xor, Nat.testBit_two_pow]
theorem xo_ne {Y f g : Nat} (h : g ≠ f) : (xo Y f).testBit g = Y.testBit g := by
  rw [xo_bit, decide_eq_false (fun e => h e.symm), Bool.xor_false]
theorem xo_lt {Y f : Nat} (h : Y.testBit f = true) : xo Y f < Y := by
  have hq : Y / 2 ^ f % 2 = 1 := by
    have := Nat.toNat_testBit Y f
    rw [h] at this
    exact this.symm
  have hp : 0 < 2 ^ f := Nat.pow_pos (by omega)
  have hr : Y % 2 ^ f < 2 ^ f := Nat.mod_lt _ hp
  have hY : 2 ^ f * (Y / 2 ^ f) + Y % 2 ^ f = Y := Nat.div_add_mod _ _
  generalize Y % 2 ^ f = r at hr hY
  generalize Y / 2 ^ f = a at hq hY
  obtain ⟨q, rfl⟩ : ∃ q, a = 2 * q + 1 := ⟨a / 2, by omega⟩
  have e : xo Y f = 2 ^ f * (2 * q) + r := by
    apply Nat.eq_of_testBit_eq
    intro j
    rw [xo_bit, ← hY, Nat.testBit_two_pow_mul_add _ hr, Nat.testBit_two_pow_mul_add _ hr]
    by_cases h1 : j < f
    · have : ¬ f = j := by omega
      simp [h1, this]
    · rw [if_neg h1, if_neg h1]
      by_cases h2 : j = f
      · subst h2
        simp
      · obtain ⟨i, hi⟩ : ∃ i, j - f = i + 1 := ⟨j - f - 1, by omega⟩
        have h3 : ¬ f = j := by omega
        rw [hi, Nat.testBit_succ, Nat.testBit_succ, decide_eq_false h3, Bool.xor_false]
        congr 1
        omega
  rw [e, ← hY, Nat.mul_add, Nat.mul_one]
  omega
theorem xo_or {k f : Nat} (h : k.testBit f = false) : (k ||| 2 ^ f).testBit f = true ∧ xo (k ||| 2 ^ f) f = k := by
  constructor
  · rw [Nat.testBit_or, Nat.testBit_two_pow]; simp
  · apply Nat.eq_of_testBit_eq
    intro j
    rw [xo_bit, Nat.testBit_or, Nat.testBit_two_pow]
    by_cases e : f = j
    · subst e; rw [h]; simp
    · simp [e]
theorem xo_back {Y k f : Nat} (h : Y.testBit f = true) (h2 : xo Y f = k) : Y = k ||| 2 ^ f ∧ k.testBit f = false := by
  subst h2
  constructor
  · apply Nat.eq_of_testBit_eq
    intro j
    rw [Nat.testBit_or, xo_bit, Nat.testBit_two_pow]
    by_cases e : f = j
    · subst e; rw [h]; simp
    · simp [e]
  · rw [xo_bit, h]; simp
theorem mt_0 {s : Nat → Nat} {fd nt : Int32} {X : Nat} : mt s fd nt 0 X ↔ X = 0 := by
  constructor
  · rintro ⟨φ, h1, -⟩
    apply Nat.eq_of_testBit_eq
    intro j
    cases hx : X.testBit j with
    | false => simp
    | true => have := (h1 j hx).1; omega
  · rintro rfl
    exact ⟨fun _ => 0, fun f hf => by simp at hf, fun f g hf => by simp at hf⟩
theorem mt_s {s : Nat → Nat} {fd nt : Int32} {m X : Nat} : mt s fd nt (m + 1) X ↔ mt s fd nt m X ∨ ∃ f, X.testBit f = true ∧ (s f).testBit m = true ∧ cst fd nt f m ∧ mt s fd nt m (xo X f) := by
  constructor
  · rintro ⟨φ, h1, h2⟩
    by_cases h : ∃ f, X.testBit f = true ∧ φ f = m
    · obtain ⟨f, f1, f2⟩ := h
      obtain ⟨a1, a2, a3⟩ := h1 f f1
      rw [f2] at a2 a3
      refine Or.inr ⟨f, f1, a2, a3, φ, fun g hg => ?_, fun g g' hg hg' => ?_⟩
      · have e : g ≠ f := fun e => by rw [e, xo_bit, f1] at hg; simp at hg
        rw [xo_ne e] at hg
        obtain ⟨b1, b2⟩ := h1 g hg
        refine ⟨?_, b2⟩
        have : φ g ≠ m := fun q => e (h2 g f hg f1 (q.trans f2.symm))
        omega
      · have e : g ≠ f := fun e => by rw [e, xo_bit, f1] at hg; simp at hg
        have e' : g' ≠ f := fun e => by rw [e, xo_bit, f1] at hg'; simp at hg'
        rw [xo_ne e] at hg
        rw [xo_ne e'] at hg'
        exact h2 g g' hg hg'
    · refine Or.inl ⟨φ, fun f hf => ?_, h2⟩
      obtain ⟨b1, b2⟩ := h1 f hf
      exact ⟨by have : φ f ≠ m := (fun q => h ⟨f, hf, q⟩); omega, b2⟩
  · rintro (⟨φ, h1, h2⟩ | ⟨f, f1, f2, f3, φ, h1, h2⟩)
    · exact ⟨φ, fun f hf => ⟨by have := (h1 f hf).1; omega, (h1 f hf).2⟩, h2⟩
    · refine ⟨fun g => if g = f then m else φ g, fun g hg => ?_, fun g g' hg hg' he => ?_⟩
      · dsimp only
        by_cases e : g = f
        · rw [if_pos e, e]; exact ⟨by omega, f2, f3⟩
        · rw [if_neg e]
          obtain ⟨b1, b2⟩ := h1 g (by rw [xo_ne e]; exact hg)
          exact ⟨by omega, b2⟩
      · dsimp only at he
        by_cases e : g = f
        · by_cases e' : g' = f
          · rw [e, e']
          · rw [if_pos e, if_neg e'] at he
            have := (h1 g' (by rw [xo_ne e']; exact hg')).1
            omega
        · by_cases e' : g' = f
          · rw [if_neg e, if_pos e'] at he
            have := (h1 g (by rw [xo_ne e]; exact hg)).1
            omega
          · rw [if_neg e, if_neg e'] at he
            exact h2 g g' (by rw [xo_ne e]; exact hg) (by rw [xo_ne e']; exact hg') he
theorem ones_bit {c k : Nat} : (2 ^ c - 1).testBit k = decide (k < c) := Nat.testBit_two_pow_sub_one c k
theorem mt_way {s : Nat → Nat} {c n : Nat} (hs : ∀ f, f < c → s f < 2 ^ n) : mt s (-1) (-1) n (2 ^ c - 1) ∧ c ≤ 8 ↔ (∃ φ, way s c φ) ∧ c ≤ 8 := by
  constructor
  · rintro ⟨⟨φ, h1, h2⟩, hc⟩
    exact ⟨⟨φ, fun f hf => (h1 f (by rw [ones_bit]; simpa using hf)).2.1, fun f g hf hg => h2 f g (by rw [ones_bit]; simpa using hf) (by rw [ones_bit]; simpa using hg)⟩, hc⟩
  · rintro ⟨⟨φ, h1, h2⟩, hc⟩
    refine ⟨⟨φ, fun f hf => ?_, fun f g hf hg => ?_⟩, hc⟩
    · rw [ones_bit] at hf
      have hf : f < c := by simpa using hf
      refine ⟨tb_lt (hs f hf) (h1 f hf), h1 f hf, Or.inl (fun e => ?_)⟩
      rw [zi_eq, zi_nI (by omega), zi_m1] at e; omega
    · rw [ones_bit] at hf hg
      exact h2 f g (by simpa using hf) (by simpa using hg)
theorem mt_way2 {s : Nat → Nat} {c n f k : Nat} (hs : ∀ f, f < c → s f < 2 ^ n) (hc : c ≤ 8) (hn : n ≤ 24) (hf : f < c) (hk : k < n) : mt s (nI f) (nI k) n (2 ^ c - 1) ↔ ∃ φ, way s c φ ∧ φ f = k := by
  constructor
  · rintro ⟨φ, h1, h2⟩
    have hb : ∀ g, g < c → (2 ^ c - 1).testBit g = true := fun g hg => by rw [ones_bit]; simpa using hg
    refine ⟨φ, ⟨fun g hg => (h1 g (hb g hg)).2.1, fun g h hg hh => h2 g h (hb g hg) (hb h hh)⟩, ?_⟩
    obtain ⟨a1, -, a3⟩ := h1 f (hb f hf)
    rcases a3 with a3 | a3
    · exact absurd rfl a3
    · rw [zi_eq, zi_nI (by omega), zi_nI (by omega)] at a3; omega
  · rintro ⟨φ, ⟨h1, h2⟩, h3⟩
    refine ⟨φ, fun g hg => ?_, fun g h hg hh => ?_⟩
    · rw [ones_bit] at hg
      have hg : g < c := by simpa using hg
      refine ⟨tb_lt (hs g hg) (h1 g hg), h1 g hg, ?_⟩
      by_cases e : g = f
      · rw [e, h3]; exact Or.inr rfl
      · refine Or.inl (fun q => e ?_)
        rw [zi_eq, zi_nI (by omega), zi_nI (by omega)] at q; omega
    · rw [ones_bit] at hg hh
      exact h2 g h (by simpa using hg) (by simpa using hh)
/-- a row of booleans that holds P -/
def cnP (P : Nat → Prop) (c : Nat) (a : Nat → Int32) : Prop := ∀ X, X < 2 ^ c → (a X = 1 ∧ P X) ∨ (a X = 0 ∧ ¬ P X)
theorem cnP_iff {P P' : Nat → Prop} {c : Nat} {a : Nat → Int32} (h : ∀ X, X < 2 ^ c → (P X ↔ P' X)) (hp : cnP P c a) : cnP P' c a := fun X hX => by
  rcases hp X hX with ⟨h1, h2⟩ | ⟨h1, h2⟩
  · exact Or.inl ⟨h1, (h X hX).mp h2⟩
  · exact Or.inr ⟨h1, fun q => h2 ((h X hX).mpr q)⟩
theorem cnP_upd {P P' : Nat → Prop} {c k : Nat} {a : Nat → Int32} (h : ∀ X, X < 2 ^ c → X ≠ k → (P X ↔ P' X)) (hk : P' k) (hp : cnP P c a) : cnP P' c (upd a k (vp_nar .boolean 1)) := fun X hX => by
  unfold upd
  by_cases e : X = k
  · rw [if_pos e, e]; exact Or.inl ⟨by decide, hk⟩
  · rw [if_neg e]
    rcases hp X hX with ⟨h1, h2⟩ | ⟨h1, h2⟩
    · exact Or.inl ⟨h1, (h X hX e).mp h2⟩
    · exact Or.inr ⟨h1, fun q => h2 ((h X hX e).mpr q)⟩
/-- while a net is looked at: sets from t on are through -/
def bs (s : Nat → Nat) (fd nt : Int32) (m t Y : Nat) : Prop := mt s fd nt m Y ∨ ∃ f, Y.testBit f = true ∧ (s f).testBit m = true ∧ cst fd nt f m ∧ mt s fd nt m (xo Y f) ∧ t ≤ xo Y f
def bj (s : Nat → Nat) (fd nt : Int32) (m k j Y : Nat) : Prop := bs s fd nt m (k + 1) Y ∨ ∃ f, f < j ∧ Y.testBit f = true ∧ (s f).testBit m = true ∧ cst fd nt f m ∧ mt s fd nt m k ∧ xo Y f = k
theorem bs_k {s : Nat → Nat} {fd nt : Int32} {m k j : Nat} : bj s fd nt m k j k ↔ mt s fd nt m k := by
  constructor
  · rintro ((h | ⟨f, f1, f2, f3, f4, f5⟩) | ⟨f, f0, f1, f2, f3, f4, f5⟩)
    · exact h
    · have := xo_lt f1; omega
    · exact f4
  · exact fun h => Or.inl (Or.inl h)
theorem bj_0 {s : Nat → Nat} {fd nt : Int32} {m k Y : Nat} : bj s fd nt m k 0 Y ↔ bs s fd nt m (k + 1) Y := by
  constructor
  · rintro (h | ⟨f, f0, -⟩)
    · exact h
    · omega
  · exact Or.inl
theorem bj_c {s : Nat → Nat} {fd nt : Int32} {m k c Y : Nat} (hY : Y < 2 ^ c) : bj s fd nt m k c Y ↔ bs s fd nt m k Y := by
  constructor
  · rintro ((h | ⟨f, f1, f2, f3, f4, f5⟩) | ⟨f, f0, f1, f2, f3, f4, f5⟩)
    · exact Or.inl h
    · exact Or.inr ⟨f, f1, f2, f3, f4, by omega⟩
    · exact Or.inr ⟨f, f1, f2, f3, f5.symm ▸ f4, by omega⟩
  · rintro (h | ⟨f, f1, f2, f3, f4, f5⟩)
    · exact Or.inl (Or.inl h)
    · by_cases e : xo Y f = k
      · exact Or.inr ⟨f, tb_lt hY f1, f1, f2, f3, e ▸ f4, e⟩
      · exact Or.inl (Or.inr ⟨f, f1, f2, f3, f4, by omega⟩)
theorem bj_no {s : Nat → Nat} {fd nt : Int32} {m k j c Y : Nat} (hY : Y < 2 ^ c) (h : ¬ mt s fd nt m k) : bj s fd nt m k j Y ↔ bs s fd nt m k Y := by
  rw [← bj_c (s := s) (fd := fd) (nt := nt) (m := m) (k := k) hY]
  constructor
  · rintro (q | ⟨f, f0, f1, f2, f3, f4, f5⟩)
    · exact Or.inl q
    · exact absurd f4 h
  · rintro (q | ⟨f, f0, f1, f2, f3, f4, f5⟩)
    · exact Or.inl q
    · exact absurd f4 h
theorem bj_keep {s : Nat → Nat} {fd nt : Int32} {m k j Y : Nat} (h : ¬ (k.testBit j = false ∧ (s j).testBit m = true ∧ cst fd nt j m)) : bj s fd nt m k j Y ↔ bj s fd nt m k (j + 1) Y := by
  constructor
  · rintro (q | ⟨f, f0, f1⟩)
    · exact Or.inl q
    · exact Or.inr ⟨f, by omega, f1⟩
  · rintro (q | ⟨f, f0, f1, f2, f3, f4, f5⟩)
    · exact Or.inl q
    · by_cases e : f = j
      · rw [e] at f1 f2 f3 f5
        exact absurd ⟨(xo_back f1 f5).2, f2, f3⟩ h
      · exact Or.inr ⟨f, by omega, f1, f2, f3, f4, f5⟩
theorem bj_put {s : Nat → Nat} {fd nt : Int32} {m k j Y : Nat} (h : k.testBit j = false ∧ (s j).testBit m = true ∧ cst fd nt j m) (hm : mt s fd nt m k) : (Y ≠ k ||| 2 ^ j → (bj s fd nt m k j Y ↔ bj s fd nt m k (j + 1) Y)) ∧ bj s fd nt m k (j + 1) (k ||| 2 ^ j) := by
  constructor
  · intro hne
    constructor
    · rintro (q | ⟨f, f0, f1⟩)
      · exact Or.inl q
      · exact Or.inr ⟨f, by omega, f1⟩
    · rintro (q | ⟨f, f0, f1, f2, f3, f4, f5⟩)
      · exact Or.inl q
      · by_cases e : f = j
        · rw [e] at f1 f5
          exact absurd (xo_back f1 f5).1 hne
        · exact Or.inr ⟨f, by omega, f1, f2, f3, f4, f5⟩
  · exact Or.inr ⟨j, by omega, (xo_or h.1).1, h.2.1, h.2.2, hm, (xo_or h.1).2⟩
/-- the reference's finds -/
def iFM (M : hyB) (s : Nat → Nat) (c n : Nat) : Prop := M.2 10 = nI c ∧ c ≤ 8 ∧ (∀ f, M.1 11 f = nI (s f)) ∧ (∀ f, s f < 2 ^ 24) ∧ M.2 3 = nI n ∧ n ≤ 24 ∧ ∀ f, f < c → s f < 2 ^ n
section
variable (N F S T C M : hyB)
theorem m_fits (s : Nat → Nat) (c n f k : Nat) (hM : iFM M s c n) (hf : f < 8) (hk : k < 24) : hy_R 3 mX6_fits 0 0 [hy_r 30, .inl (nI f), .inl (nI k)] (wW N F S T C (wM M)) (fun o w1 => ∃ x, o = some x ∧ (((s f).testBit k = true ∧ x = 1) ∨ ((s f).testBit k = false ∧ x = 0)) ∧ w1 = wW N F S T C (wM M)) := by
  have hcl : (nI f).toNatClampNeg = f := cl_nI (by omega)
  have hlt := hM.2.2.2.1 f
  refine hy_Rz (L := [some (hy_r 30), some (.inl (nI f)), some (.inl (nI k))]) rfl (by decide) (fun x w h => ?_) (hy_ple rfl) rfl ?_
  · rcases h.1 with h | h
    · exact Or.inr h.2
    · exact Or.inl h.2
  refine hy_go hy_pfA oX6_fits [] 60 0 0 _ ?_
  refine And.intro (vn_in hf (by decide)) ?_
  have e : (M.1 11 (nI f).toNatClampNeg >>> (nI k &&& 31)) &&& 1 = nI ((s f).testBit k).toNat := by
    rw [hcl, hM.2.2.1 f]; exact bit_I (by omega) (by omega)
  refine And.intro (fun q => ?_) (fun q => ?_)
  · rw [e] at q
    cases hb : (s f).testBit k with
    | true => exact hy_fin ⟨Or.inl ⟨rfl, rfl⟩, rfl⟩
    | false => rw [hb] at q; exact absurd q (by decide)
  · rw [e] at q
    cases hb : (s f).testBit k with
    | true => rw [hb] at q; exact absurd (by decide) q
    | false => exact hy_fin ⟨Or.inr ⟨rfl, rfl⟩, rfl⟩
end
end
section
/-! ===== the reference's isWay, walked ===== -/
section
variable (N F S T C M : hyB)
theorem l_iw3 (Q : hyQ) (fd nt : Int32) (s : Nat → Nat) (c n m k : Nat) (hM : iFM M s c n) (hm : m < 24) (hk : k < 2 ^ c)
    (K : ∀ (a : Nat → Int32) (x : Option hyV), cnP (bs s fd nt m k) c a → hy_X none 6 mX6_isWay Q 0 0 (135, [some (hy_r 30), some (.inl fd), some (.inl nt), some (.inl (nI (2 ^ c - 1))), some (.inl (nI m)), some (.inl (nI k)), x], [], wW N F S T C (wM (sa M 30 a)))) :
    ∀ (j i : Nat) (a : Nat → Int32), c - i = j → i ≤ c → cnP (bj s fd nt m k i) c a → hy_X none 6 mX6_isWay Q 0 0 (64, [some (hy_r 30), some (.inl fd), some (.inl nt), some (.inl (nI (2 ^ c - 1))), some (.inl (nI m)), some (.inl (nI k)), some (.inl (nI i))], [], wW N F S T C (wM (sa M 30 a))) := by
  obtain ⟨c1, c2, c3, c4, c5, c6, c7⟩ := id hM
  have hp := pw8 c2
  have hkc : (nI k).toNatClampNeg = k := cl_nI (by omega)
  intro j
  induction j with
  | zero =>
    intro i a hj hi ha
    have : i = c := by omega
    refine hy_go hy_pfA oX6_isWay [64, 135] 60 0 0 _ ?_
    refine And.intro (fun q => ?_) (fun q => absurd ?_ q)
    · exact K a _ (cnP_iff (fun X hX => by rw [this]; exact bj_c hX) ha)
    · show M.2 10 ≤ nI i
      rw [c1, this]; exact Int32.le_refl _
  | succ j ih =>
    intro i a hj hi ha
    have hic : i < c := by omega
    refine hy_go hy_pfA oX6_isWay [64, 135] 60 0 0 _ ?_
    refine And.intro (fun q => ?_) (fun q => ?_)
    · have q : M.2 10 ≤ nI i := q
      rw [c1, nI_le24 (by omega) (by omega)] at q
      omega
    · refine And.intro (vn_in (by omega) (by decide)) ?_
      refine And.intro (fun q2 => ?_) (fun q2 => ?_)
      · have q2 : a (nI k).toNatClampNeg = 0 := q2
        rw [hkc] at q2
        rcases ha k hk with ⟨h1, h2⟩ | ⟨h1, h2⟩
        · rw [h1] at q2; exact absurd q2 (by decide)
        · rw [bs_k] at h2
          exact K a _ (cnP_iff (fun X hX => bj_no hX h2) ha)
      · have q2 : ¬ a (nI k).toNatClampNeg = 0 := q2
        rw [hkc] at q2
        have hmt : mt s fd nt m k := by
          rcases ha k hk with ⟨h1, h2⟩ | ⟨h1, h2⟩
          · exact bs_k.mp h2
          · exact absurd h1 q2
        have skip : ¬ (k.testBit i = false ∧ (s i).testBit m = true ∧ cst fd nt i m) → hy_X none 6 mX6_isWay Q 0 0 (64, [some (hy_r 30), some (.inl fd), some (.inl nt), some (.inl (nI (2 ^ c - 1))), some (.inl (nI m)), some (.inl (nI k)), some (.inl (nI i + 1))], [], wW N F S T C (wM (sa M 30 a))) := fun h => by
          rw [nI_s]
          exact ih (i + 1) a (by omega) (by omega) (cnP_iff (fun X hX => bj_keep h) ha)
        refine And.intro (fun q3 => ?_) (fun q3 => ?_)
        · have q3 := (bit_0 (by omega) (by omega)).mp q3
          refine hy_cl (m_fits N F S T C (sa M 30 a) s c n i m hM (by omega) hm) rfl ?_
          rintro o w1 ⟨x, rfl, hx, rfl⟩
          refine And.intro (fun q4 => ?_) (fun q4 => ?_)
          · rcases hx with ⟨h1, h2⟩ | ⟨h1, h2⟩
            · rw [h2] at q4; exact absurd q4 (by decide)
            · exact skip (fun h => by rw [h.2.1] at h1; cases h1)
          · rcases hx with ⟨h1, h2⟩ | ⟨h1, h2⟩
            · have hlt : k ||| 2 ^ i < 2 ^ c := Nat.or_lt_two_pow hk (Nat.pow_lt_pow_right (by omega) hic)
              have e1 : nI k ||| ((1 : Int32) <<< (nI i &&& 31)) = nI (k ||| 2 ^ i) := by rw [shl_1 (by omega), nI_or]
              have hcl : (nI k ||| ((1 : Int32) <<< (nI i &&& 31))).toNatClampNeg = k ||| 2 ^ i := by rw [e1]; exact cl_nI (by omega)
              have put : cst fd nt i m → vp_in (nI k ||| ((1 : Int32) <<< (nI i &&& 31))) 256 ∧ hy_X none 6 mX6_isWay Q 0 0 (64, [some (hy_r 30), some (.inl fd), some (.inl nt), some (.inl (nI (2 ^ c - 1))), some (.inl (nI m)), some (.inl (nI k)), some (.inl (nI i + 1))], [], wW N F S T C (wM (sa M 30 (upd a (nI k ||| ((1 : Int32) <<< (nI i &&& 31))).toNatClampNeg (vp_nar .boolean 1))))) := fun h => by
                refine ⟨by rw [e1]; exact vn_in (by omega) (by decide), ?_⟩
                rw [nI_s, hcl]
                exact ih (i + 1) _ (by omega) (by omega) (cnP_upd (fun X hX hne => (bj_put ⟨q3, h1, h⟩ hmt).1 hne) (bj_put (Y := 0) ⟨q3, h1, h⟩ hmt).2 ha)
              refine And.intro (fun q5 => ?_) (fun q5 => ?_)
              · refine And.intro (fun q6 => ?_) (fun q6 => ?_)
                · exact And.intro (put (Or.inr q6)).1 (put (Or.inr q6)).2
                · exact skip (fun h => h.2.2.elim (fun h => h q5) q6)
              · exact And.intro (put (Or.inl q5)).1 (put (Or.inl q5)).2
            · rw [h2] at q4; exact absurd rfl q4
        · exact skip (fun h => q3 ((bit_0 (by omega) (by omega)).mpr h.1))
theorem l_iw2 (Q : hyQ) (fd nt : Int32) (s : Nat → Nat) (c n m : Nat) (hM : iFM M s c n) (hm : m < 24)
    (K : ∀ (a : Nat → Int32) (x y : Option hyV), cnP (mt s fd nt (m + 1)) c a → hy_X none 6 mX6_isWay Q 0 0 (141, [some (hy_r 30), some (.inl fd), some (.inl nt), some (.inl (nI (2 ^ c - 1))), some (.inl (nI m)), x, y], [], wW N F S T C (wM (sa M 30 a)))) :
    ∀ (t : Nat) (a : Nat → Int32) (x : Option hyV), t ≤ 2 ^ c → cnP (bs s fd nt m t) c a → hy_X none 6 mX6_isWay Q 0 0 (56, [some (hy_r 30), some (.inl fd), some (.inl nt), some (.inl (nI (2 ^ c - 1))), some (.inl (nI m)), some (.inl (nI t - 1)), x], [], wW N F S T C (wM (sa M 30 a))) := by
  obtain ⟨c1, c2, c3, c4, c5, c6, c7⟩ := id hM
  have hp := pw8 c2
  intro t
  induction t with
  | zero =>
    intro a x ht ha
    refine hy_go hy_pfA oX6_isWay [56, 141] 60 0 0 _ ?_
    refine And.intro (fun q => ?_) (fun q => absurd (by decide) q)
    refine K a _ _ (cnP_iff (fun X hX => ?_) ha)
    rw [mt_s]
    constructor
    · rintro (h | ⟨f, f1, f2, f3, f4, f5⟩)
      · exact Or.inl h
      · exact Or.inr ⟨f, f1, f2, f3, f4⟩
    · rintro (h | ⟨f, f1, f2, f3, f4⟩)
      · exact Or.inl h
      · exact Or.inr ⟨f, f1, f2, f3, f4, Nat.zero_le _⟩
  | succ t ih =>
    intro a x ht ha
    rw [nI_pred]
    refine hy_go hy_pfA oX6_isWay [64, 141] 60 0 0 _ ?_
    refine And.intro (fun q => ?_) (fun q => ?_)
    · have q := zi_lt.mp q
      rw [zi_nI (by omega), zi_lit0] at q; omega
    · refine l_iw3 N F S T C M Q fd nt s c n m t hM hm (by omega) (fun a' x' ha' => ?_) c 0 a (by omega) (by omega) (cnP_iff (fun X hX => bj_0.symm) ha)
      refine hy_go hy_pfA oX6_isWay [56] 60 0 0 _ ?_
      have nx := ih a' x' (by omega) ha'
      have e : nI t - 1 = nI t + (-1) := Int32.sub_eq_add_neg _ _
      rw [e] at nx
      exact nx
theorem l_iw1 (Q : hyQ) (fd nt : Int32) (s : Nat → Nat) (c n : Nat) (hM : iFM M s c n)
    (K : ∀ (a : Nat → Int32) (x y : Option hyV), cnP (mt s fd nt n) c a → hy_X none 6 mX6_isWay Q 0 0 (147, [some (hy_r 30), some (.inl fd), some (.inl nt), some (.inl (nI (2 ^ c - 1))), some (.inl (nI n)), x, y], [], wW N F S T C (wM (sa M 30 a)))) :
    ∀ (j i : Nat) (a : Nat → Int32) (x y : Option hyV), n - i = j → i ≤ n → cnP (mt s fd nt i) c a → hy_X none 6 mX6_isWay Q 0 0 (44, [some (hy_r 30), some (.inl fd), some (.inl nt), some (.inl (nI (2 ^ c - 1))), some (.inl (nI i)), x, y], [], wW N F S T C (wM (sa M 30 a))) := by
  obtain ⟨c1, c2, c3, c4, c5, c6, c7⟩ := id hM
  have hp := pw8 c2
  intro j
  induction j with
  | zero =>
    intro i a x y hj hi ha
    have : i = n := by omega
    subst this
    refine hy_go hy_pfA oX6_isWay [44, 147] 60 0 0 _ ?_
    refine And.intro (fun q => K a x y ha) (fun q => absurd ?_ q)
    show M.2 3 ≤ nI i
    rw [c5]; exact Int32.le_refl _
  | succ j ih =>
    intro i a x y hj hi ha
    refine hy_go hy_pfA oX6_isWay [56, 147] 60 0 0 _ ?_
    refine And.intro (fun q => ?_) (fun q => ?_)
    · have q : M.2 3 ≤ nI i := q
      rw [c5, nI_le24 (by omega) (by omega)] at q
      omega
    · have := l_iw2 N F S T C M Q fd nt s c n i hM (by omega) (fun a' x' y' ha' => by
        refine hy_go hy_pfA oX6_isWay [44] 60 0 0 _ ?_
        have nx := ih (i + 1) a' x' y' (by omega) (by omega) ha'
        rw [← nI_s] at nx
        exact nx) (2 ^ c) a y (Nat.le_refl _) (cnP_iff (fun X hX => by
          constructor
          · exact Or.inl
          · rintro (h | ⟨f, f1, f2, f3, f4, f5⟩)
            · exact h
            · have := xo_lt f1; omega) ha)
      have e : nI (2 ^ c) - 1 = nI (2 ^ c - 1) := by
        have hpos : 0 < 2 ^ c := Nat.pow_pos (by omega)
        have := nI_pred (2 ^ c - 1)
        rwa [show 2 ^ c - 1 + 1 = 2 ^ c by omega] at this
      rw [e] at this
      exact this
theorem l_iw0 (Q : hyQ) (fd nt : Int32) (s : Nat → Nat) (c n : Nat) (hM : iFM M s c n)
    (K : ∀ (a : Nat → Int32) (x : Option hyV), cnP (fun X => X = 0) c a → hy_X none 6 mX6_isWay Q 0 0 (41, [some (hy_r 30), some (.inl fd), some (.inl nt), some (.inl (nI (2 ^ c - 1))), x, none, none], [], wW N F S T C (wM (sa M 30 a)))) :
    ∀ (j i : Nat) (a : Nat → Int32), 2 ^ c - i = j → i ≤ 2 ^ c → (∀ X, X < i → (a X = 1 ∧ X = 0) ∨ (a X = 0 ∧ ¬ X = 0)) → hy_X none 6 mX6_isWay Q 0 0 (12, [some (hy_r 30), some (.inl fd), some (.inl nt), some (.inl (nI (2 ^ c - 1))), some (.inl (nI i)), none, none], [], wW N F S T C (wM (sa M 30 a))) := by
  have hp := pw8 hM.2.1
  intro j
  induction j with
  | zero =>
    intro i a hj hi ha
    have : i = 2 ^ c := by omega
    refine hy_go hy_pfA oX6_isWay [12, 41] 60 0 0 _ ?_
    refine And.intro (fun q => K a _ (fun X hX => ha X (by omega))) (fun q => absurd (zi_lt.mpr ?_) q)
    rw [zi_nI (by omega), zi_nI (by omega)]
    have : 0 < 2 ^ c := Nat.pow_pos (by omega)
    omega
  | succ j ih =>
    intro i a hj hi ha
    have hcl : (nI i).toNatClampNeg = i := cl_nI (by omega)
    refine hy_go hy_pfA oX6_isWay [12, 41] 60 0 0 _ ?_
    refine And.intro (fun q => ?_) (fun q => ?_)
    · have q := zi_lt.mp q
      rw [zi_nI (by omega), zi_nI (by omega)] at q; omega
    · have step : ∀ v : Int32, (v = 1 ∧ i = 0) ∨ (v = 0 ∧ ¬ i = 0) → vp_in (nI i) 256 ∧ hy_X none 6 mX6_isWay Q 0 0 (12, [some (hy_r 30), some (.inl fd), some (.inl nt), some (.inl (nI (2 ^ c - 1))), some (.inl (nI i + 1)), none, none], [], wW N F S T C (wM (sa M 30 (upd a (nI i).toNatClampNeg (vp_nar .boolean v))))) := fun v hv => by
        refine ⟨vn_in (by omega) (by decide), ?_⟩
        rw [nI_s, hcl]
        refine ih (i + 1) _ (by omega) (by omega) (fun X hX => ?_)
        unfold upd
        by_cases e : X = i
        · rw [if_pos e, e]
          rcases hv with ⟨h1, h2⟩ | ⟨h1, h2⟩
          · exact Or.inl ⟨by rw [h1]; decide, h2⟩
          · exact Or.inr ⟨by rw [h1]; decide, h2⟩
        · rw [if_neg e]; exact ha X (by omega)
      refine And.intro (fun q2 => ?_) (fun q2 => ?_)
      · have : i = 0 := by
          have q2 := zi_eq.mp q2
          rw [zi_nI (by omega), zi_lit0] at q2; omega
        exact And.intro (step 1 (Or.inl ⟨rfl, this⟩)).1 (step 1 (Or.inl ⟨rfl, this⟩)).2
      · have : ¬ i = 0 := fun h => q2 (by rw [h]; rfl)
        exact And.intro (step 0 (Or.inr ⟨rfl, this⟩)).1 (step 0 (Or.inr ⟨rfl, this⟩)).2
theorem m_isWay (fd nt : Int32) (s : Nat → Nat) (c n : Nat) (hM : iFM M s c n) : hy_R 6 mX6_isWay 0 0 [hy_r 30, .inl fd, .inl nt] (wW N F S T C (wM M)) (fun o w1 => ∃ x, o = some x ∧ ((mt s fd nt n (2 ^ c - 1) ∧ x = 1) ∨ (¬ mt s fd nt n (2 ^ c - 1) ∧ x = 0)) ∧ ∃ a, w1 = wW N F S T C (wM (sa M 30 a))) := by
  have hp := pw8 hM.2.1
  have hpos : 0 < 2 ^ c := Nat.pow_pos (by omega)
  refine hy_Rz (L := [some (hy_r 30), some (.inl fd), some (.inl nt), none, none, none, none]) rfl (by decide) (fun x w h => ?_) (hy_ple rfl) rfl ?_
  · rcases h.1 with h | h
    · exact Or.inr h.2
    · exact Or.inl h.2
  refine hy_go hy_pfA oX6_isWay [12] 60 0 0 _ ?_
  have e : nI (2 ^ c - 1) = ((1 : Int32) <<< (M.2 10 &&& 31)) - 1 := by
    rw [hM.1, shl_1 (by have := hM.2.1; omega)]
    have := nI_pred (2 ^ c - 1)
    rw [show 2 ^ c - 1 + 1 = 2 ^ c by omega] at this
    exact this.symm
  have key := l_iw0 N F S T C M (fun o w1 => ∃ x, o = some x ∧ ((mt s fd nt n (2 ^ c - 1) ∧ x = 1) ∨ (¬ mt s fd nt n (2 ^ c - 1) ∧ x = 0)) ∧ ∃ a, w1 = wW N F S T C (wM (sa M 30 a))) fd nt s c n hM (fun a x ha => by
    refine hy_go hy_pfA oX6_isWay [44] 60 0 0 _ ?_
    refine l_iw1 N F S T C M _ fd nt s c n hM (fun a' x' y' ha' => ?_) n 0 a none none (by omega) (by omega) (cnP_iff (fun X hX => mt_0.symm) ha)
    refine hy_go hy_pfA oX6_isWay [] 60 0 0 _ ?_
    refine And.intro (vn_in (by omega) (by decide)) ?_
    refine hy_fin ⟨?_, a', rfl⟩
    show (mt s fd nt n (2 ^ c - 1) ∧ a' (nI (2 ^ c - 1)).toNatClampNeg = 1) ∨ (¬ mt s fd nt n (2 ^ c - 1) ∧ a' (nI (2 ^ c - 1)).toNatClampNeg = 0)
    rw [cl_nI (by omega)]
    rcases ha' (2 ^ c - 1) (by omega) with ⟨h1, h2⟩ | ⟨h1, h2⟩
    · exact Or.inl ⟨h2, h1⟩
    · exact Or.inr ⟨h2, h1⟩) _ 0 (M.1 30) rfl (Nat.zero_le _) (fun X hX => by omega)
  rw [e] at key
  exact key
end
end
section
/-! ===== what the reference knows ===== -/
def scrM (M M' : hyB) : Prop := (∀ k, k ≠ 13 → k ≠ 30 → M'.1 k = M.1 k) ∧ ∀ k, k ≠ 12 → M'.2 k = M.2 k
theorem scrM_refl (M : hyB) : scrM M M := ⟨fun _ _ _ => rfl, fun _ _ => rfl⟩
theorem scrM_trans {A B D : hyB} (h : scrM A B) (h2 : scrM B D) : scrM A D := ⟨fun k a b => (h2.1 k a b).trans (h.1 k a b), fun k a => (h2.2 k a).trans (h.2 k a)⟩
theorem sv_ne {α : Type} {f : Nat → α} {k j : Nat} {x : α} (h : j ≠ k) : sv f k x j = f j := by
  unfold sv
  cases hb : Nat.beq j k with
  | true => exact absurd (Nat.eq_of_beq_eq_true hb) h
  | false => rfl
theorem scrM_mk (M : hyB) (v : Int32) (a g : Nat → Int32) : scrM M (sa (sa (ss M 12 v) 30 a) 13 g) := by
  refine ⟨fun k h1 h2 => ?_, fun k h1 => ?_⟩
  · show sv (sv M.1 30 a) 13 g k = M.1 k
    rw [sv_ne h1, sv_ne h2]
  · show sv M.2 12 v k = M.2 k
    rw [sv_ne h1]
theorem scrM_mk0 (M : hyB) (a : Nat → Int32) : scrM M (sa M 30 a) := by
  refine ⟨fun k h1 h2 => ?_, fun k h1 => rfl⟩
  show sv M.1 30 a k = M.1 k
  rw [sv_ne h2]
theorem iFM_scr {M M' : hyB} {s : Nat → Nat} {c n : Nat} (h : iFM M s c n) (hs : scrM M M') : iFM M' s c n := by
  obtain ⟨c1, c2, c3, c4, c5, c6, c7⟩ := h
  refine ⟨(hs.2 10 (by decide)).trans c1, c2, fun f => ?_, c4, (hs.2 3 (by decide)).trans c5, c6, c7⟩
  rw [hs.1 11 (by decide) (by decide)]; exact c3 f
def kM (M : hyB) (s : Nat → Nat) (c n : Nat) : Prop := iFM M s c n ∧ (M.2 12 = 0 ∨ (M.2 12 = 1 ∧ ∀ f, f < c → sureP s c f (M.1 13 f)))
def rcw (s : Nat → Nat) (c f k : Nat) : Prop := ∃ φ, way s c φ ∧ φ f = k
def kv (s : Nat → Nat) (c f i : Nat) (mn v : Int32) : Prop :=
  (mn = 0 ∧ v = -1 ∧ ∀ k, k < i → ¬ rcw s c f k) ∨ (mn = 1 ∧ ∃ k0, k0 < i ∧ rcw s c f k0 ∧ v = nI k0 ∧ ∀ k, k < i → rcw s c f k → k = k0) ∨ (mn = 2 ∧ ∃ k1 k2, k1 ≠ k2 ∧ rcw s c f k1 ∧ rcw s c f k2)
theorem kv_no {s : Nat → Nat} {c f i : Nat} {mn v : Int32} (h : kv s c f i mn v) (hn : ¬ rcw s c f i) : kv s c f (i + 1) mn v := by
  rcases h with ⟨h1, h2, h3⟩ | ⟨h1, k0, h2, h3, h4, h5⟩ | h
  · refine Or.inl ⟨h1, h2, fun k hk => ?_⟩
    by_cases e : k = i
    · rw [e]; exact hn
    · exact h3 k (by omega)
  · refine Or.inr (Or.inl ⟨h1, k0, by omega, h3, h4, fun k hk hr => ?_⟩)
    by_cases e : k = i
    · rw [e] at hr; exact absurd hr hn
    · exact h5 k (by omega) hr
  · exact Or.inr (Or.inr h)
theorem kv_yes {s : Nat → Nat} {c f i : Nat} {mn v : Int32} (h : kv s c f i mn v) (hm : ¬ mn = 2) (hy : rcw s c f i) : kv s c f (i + 1) (mn + 1) (nI i) := by
  rcases h with ⟨h1, h2, h3⟩ | ⟨h1, k0, h2, h3, h4, h5⟩ | h
  · refine Or.inr (Or.inl ⟨by rw [h1]; rfl, i, by omega, hy, rfl, fun k hk hr => ?_⟩)
    apply Classical.byContradiction
    intro e
    exact h3 k (by omega) hr
  · exact Or.inr (Or.inr ⟨by rw [h1]; rfl, k0, i, by omega, h3, hy⟩)
  · exact absurd h.1 hm
theorem kv_end {s : Nat → Nat} {c f n i : Nat} {mn v : Int32} (hf : f < c) (hs : s f < 2 ^ n) (hn : n ≤ 24) (h : kv s c f i mn v) (hi : mn = 2 ∨ n ≤ i) : sureP s c f (if mn = 1 then v else -1) := by
  have hlt : ∀ k, rcw s c f k → k < n := fun k ⟨φ, h1, h2⟩ => by rw [← h2]; exact tb_lt hs (h1.1 f hf)
  rcases h with ⟨h1, h2, h3⟩ | ⟨h1, k0, h2, h3, h4, h5⟩ | ⟨h1, k1, k2, h2, h3, h4⟩
  · rw [h1, if_neg (by decide)]
    refine Or.inr ⟨rfl, ?_⟩
    rintro ⟨k, hk⟩
    have hr := (hk k).mpr rfl
    rcases hi with hi | hi
    · rw [h1] at hi; exact absurd hi (by decide)
    · exact h3 k (by have := hlt k hr; omega) hr
  · rw [h1, if_pos rfl]
    rcases hi with hi | hi
    · rw [h1] at hi; exact absurd hi (by decide)
    · refine Or.inl ⟨k0, by have := hlt k0 h3; omega, h4, fun k => ⟨fun hr => h5 k (by have := hlt k hr; omega) hr, fun e => e ▸ h3⟩⟩
  · rw [h1, if_neg (by decide)]
    refine Or.inr ⟨rfl, ?_⟩
    rintro ⟨k, hk⟩
    exact h2 (((hk k1).mp h3).trans ((hk k2).mp h4).symm)
section
variable (N F S T C M : hyB)
theorem l_kn2 (Q : hyQ) (s : Nat → Nat) (c n f : Nat) (hM : iFM M s c n) (hf : f < c)
    (K : ∀ (a g : Nat → Int32) (mn x : Int32), sureP s c f (if mn = 1 then g f else -1) → (∀ h, h < f → sureP s c h (g h)) → hy_X none 7 mX6_knows Q 0 0 (81, [some (hy_r 30), some (.inl (nI f)), some (.inl mn), some (.inl x)], [], wW N F S T C (wM (sa (sa (ss M 12 1) 30 a) 13 g)))) :
    ∀ (j i : Nat) (a g : Nat → Int32) (mn : Int32), n - i = j → i ≤ n → kv s c f i mn (g f) → (∀ h, h < f → sureP s c h (g h)) → hy_X none 7 mX6_knows Q 0 0 (34, [some (hy_r 30), some (.inl (nI f)), some (.inl mn), some (.inl (nI i))], [], wW N F S T C (wM (sa (sa (ss M 12 1) 30 a) 13 g))) := by
  obtain ⟨c1, c2, c3, c4, c5, c6, c7⟩ := id hM
  have hcl : (nI f).toNatClampNeg = f := cl_nI (by omega)
  intro j
  induction j with
  | zero =>
    intro i a g mn hj hi hv hg
    have hin : i = n := by omega
    refine hy_go hy_pfA oX6_knows [34, 81] 60 0 0 _ ?_
    refine And.intro (fun q => K a g mn _ (kv_end hf (c7 f hf) c6 hv (Or.inr (by omega))) hg) (fun q => absurd ?_ q)
    show M.2 3 ≤ nI i
    rw [c5, hin]; exact Int32.le_refl _
  | succ j ih =>
    intro i a g mn hj hi hv hg
    have a1 : n - (i + 1) = j := by omega
    have a2 : i + 1 ≤ n := by omega
    have a3 : i < 24 := by omega
    refine hy_go hy_pfA oX6_knows [34, 81] 60 0 0 _ ?_
    refine And.intro (fun q => ?_) (fun q => ?_)
    · have q : M.2 3 ≤ nI i := q
      rw [c5, nI_le24 (by omega) (by omega)] at q
      omega
    · refine And.intro (fun q2 => ?_) (fun q2 => ?_)
      · refine K a g mn _ (kv_end hf (c7 f hf) c6 hv (Or.inl ?_)) hg
        rcases hv with ⟨h1, -⟩ | ⟨h1, -⟩ | ⟨h1, -⟩
        · rw [h1] at q2; exact absurd q2 (by decide)
        · rw [h1] at q2; exact absurd q2 (by decide)
        · exact h1
      · have hm : ¬ mn = 2 := fun h => q2 (by rw [h]; decide)
        refine hy_cl (m_fits N F S T C (sa (sa (ss M 12 1) 30 a) 13 g) s c n f i hM (by omega) (by omega)) rfl ?_
        rintro o w1 ⟨x, rfl, hx, rfl⟩
        have skip : ∀ a', ¬ rcw s c f i → hy_X none 7 mX6_knows Q 0 0 (34, [some (hy_r 30), some (.inl (nI f)), some (.inl mn), some (.inl (nI i + 1))], [], wW N F S T C (wM (sa (sa (ss M 12 1) 30 a') 13 g))) := fun a' h => by
          rw [nI_s]
          exact ih (i + 1) a' g mn a1 a2 (kv_no hv h) hg
        refine And.intro (fun q3 => ?_) (fun q3 => ?_)
        · rcases hx with ⟨h1, h2⟩ | ⟨h1, h2⟩
          · rw [h2] at q3; exact absurd q3 (by decide)
          · exact skip a (fun ⟨φ, p1, p2⟩ => by
              have := p1.1 f hf
              rw [p2, h1] at this; cases this)
        · refine hy_cl (m_isWay N F S T C (sa (sa (ss M 12 1) 30 a) 13 g) (nI f) (nI i) s c n hM) rfl ?_
          rintro o w1 ⟨y, rfl, hy, a', rfl⟩
          rw [mt_way2 c7 c2 c6 hf (by omega)] at hy
          refine And.intro (fun q4 => ?_) (fun q4 => ?_)
          · rcases hy with ⟨h1, h2⟩ | ⟨h1, h2⟩
            · rw [h2] at q4; exact absurd q4 (by decide)
            · exact skip a' h1
          · rcases hy with ⟨h1, h2⟩ | ⟨h1, h2⟩
            · refine And.intro (vn_in (by omega) (by decide)) ?_
              have nx := ih (i + 1) a' (upd g (nI f).toNatClampNeg (nI i)) (mn + 1) a1 a2 (by
                rw [hcl]
                have : upd g f (nI i) f = nI i := by unfold upd; rw [if_pos rfl]
                rw [this]
                exact kv_yes hv hm h1) (fun h hh => by
                rw [hcl]
                have : upd g f (nI i) h = g h := by unfold upd; rw [if_neg (by omega)]
                rw [this]; exact hg h hh)
              rw [← nI_s] at nx
              exact nx
            · rw [h2] at q4; exact absurd rfl q4
theorem l_kn1 (Q : hyQ) (s : Nat → Nat) (c n : Nat) (hM : iFM M s c n)
    (K : ∀ (a g : Nat → Int32), (∀ f, f < c → sureP s c f (g f)) → Q none (wW N F S T C (wM (sa (sa (ss M 12 1) 30 a) 13 g)))) :
    ∀ (j i : Nat) (a g : Nat → Int32) (x y : Option hyV), c - i = j → i ≤ c → (∀ f, f < i → sureP s c f (g f)) → hy_X none 7 mX6_knows Q 0 0 (15, [some (hy_r 30), some (.inl (nI i)), x, y], [], wW N F S T C (wM (sa (sa (ss M 12 1) 30 a) 13 g))) := by
  obtain ⟨c1, c2, c3, c4, c5, c6, c7⟩ := id hM
  intro j
  induction j with
  | zero =>
    intro i a g x y hj hi hg
    have hin : i = c := by omega
    refine hy_go hy_pfA oX6_knows [15] 60 0 0 _ ?_
    refine And.intro (fun q => K a g (fun f hf => hg f (by omega))) (fun q => absurd ?_ q)
    show M.2 10 ≤ nI i
    rw [c1, hin]; exact Int32.le_refl _
  | succ j ih =>
    intro i a g x y hj hi hg
    have hcl : (nI i).toNatClampNeg = i := cl_nI (by omega)
    have a1 : c - (i + 1) = j := by omega
    have a2 : i + 1 ≤ c := by omega
    have a3 : i < 8 := by omega
    refine hy_go hy_pfA oX6_knows [34] 60 0 0 _ ?_
    refine And.intro (fun q => ?_) (fun q => ?_)
    · have q : M.2 10 ≤ nI i := q
      rw [c1, nI_le24 (by omega) (by omega)] at q
      omega
    · refine And.intro (vn_in a3 (by decide)) ?_
      refine l_kn2 N F S T C M Q s c n i hM a2 (fun a' g' mn z hs hg' => ?_) n 0 a (upd g (nI i).toNatClampNeg (-1)) 0 (by omega) (by omega) (Or.inl ⟨rfl, by rw [hcl]; unfold upd; rw [if_pos rfl], fun k hk => by omega⟩) (fun h hh => by
        rw [hcl]
        have : upd g i (-1) h = g h := by unfold upd; rw [if_neg (by omega)]
        rw [this]; exact hg h hh)
      refine hy_go hy_pfA oX6_knows [15] 60 0 0 _ ?_
      have step : ∀ v : Int32, sureP s c i v → hy_X none 7 mX6_knows Q 0 0 (15, [some (hy_r 30), some (.inl (nI i + 1)), some (.inl mn), some (.inl z)], [], wW N F S T C (wM (sa (sa (ss M 12 1) 30 a') 13 (upd g' (nI i).toNatClampNeg v)))) := fun v hv => by
        rw [nI_s, hcl]
        refine ih (i + 1) a' _ _ _ a1 a2 (fun f hf => ?_)
        unfold upd
        by_cases e : f = i
        · rw [if_pos e, e]; exact hv
        · rw [if_neg e]; exact hg' f (by omega)
      refine And.intro (fun q2 => ?_) (fun q2 => ?_)
      · refine And.intro (vn_in a3 (by decide)) (And.intro (vn_in a3 (by decide)) ?_)
        rw [if_pos q2] at hs
        have := step (g' (nI i).toNatClampNeg) (by rw [hcl]; exact hs)
        exact this
      · refine And.intro (vn_in a3 (by decide)) ?_
        rw [if_neg q2] at hs
        exact step (-1) hs
theorem m_knows (s : Nat → Nat) (c n : Nat) (hM : kM M s c n) : hy_R 7 mX6_knows 0 0 [hy_r 30] (wW N F S T C (wM M)) (fun o w1 => o = none ∧ ∃ M', scrM M M' ∧ kM M' s c n ∧ M'.2 12 = 1 ∧ w1 = wW N F S T C (wM M')) := by
  obtain ⟨hI, hk⟩ := hM
  refine hy_Rv (L := [some (hy_r 30), none, none, none]) rfl (by decide) (hy_ple rfl) rfl ?_
  refine hy_go hy_pfA oX6_knows [15] 60 0 0 _ ?_
  refine And.intro (fun q => ?_) (fun q => ?_)
  · refine And.intro (Or.inr rfl) ?_
    have key := l_kn1 N F S T C M (fun o w1 => o = none ∧ ∃ M', scrM M M' ∧ kM M' s c n ∧ M'.2 12 = 1 ∧ w1 = wW N F S T C (wM M')) s c n hI (fun a g hg => ⟨rfl, _, scrM_mk M 1 a g, ⟨iFM_scr hI (scrM_mk M 1 a g), Or.inr ⟨rfl, hg⟩⟩, rfl, rfl⟩) c 0 (M.1 30) (M.1 13) none none (by omega) (by omega) (fun f hf => by omega)
    exact key
  · rcases hk with h | h
    · exact absurd h q
    · exact And.intro rfl ⟨M, scrM_refl M, ⟨hI, Or.inr h⟩, h.1, rfl⟩
/-- the last find that is sure of a net -/
def sp_lf (g : Nat → Int32) (c : Nat) (a r : Int32) : Prop := (∃ f, f < c ∧ g f = a ∧ r = nI f ∧ ∀ h, f < h → h < c → g h ≠ a) ∨ ((¬ ∃ f, f < c ∧ g f = a) ∧ r = -1)
theorem l_findOf (Q : hyQ) (a : Int32) (s : Nat → Nat) (c n : Nat) (hM : iFM M s c n) (K : ∀ r, sp_lf (M.1 13) c a r → Q (some r) (wW N F S T C (wM M))) :
    ∀ (j i : Nat) (r : Int32), c - i = j → i ≤ c → sp_lf (M.1 13) i a r → hy_X none 8 mX6_findOf Q 0 0 (8, [some (hy_r 30), some (.inl a), some (.inl r), some (.inl (nI i))], [], wW N F S T C (wM M)) := by
  obtain ⟨c1, c2, c3, c4, c5, c6, c7⟩ := id hM
  intro j
  induction j with
  | zero =>
    intro i r hj hi hr
    have hin : i = c := by omega
    subst hin
    refine hy_go hy_pfA oX6_findOf [8] 60 0 0 _ ?_
    refine And.intro (fun q => K r hr) (fun q => absurd ?_ q)
    rw [c1]; exact Int32.le_refl _
  | succ j ih =>
    intro i r hj hi hr
    have hcl : (nI i).toNatClampNeg = i := cl_nI (by omega)
    refine hy_go hy_pfA oX6_findOf [8] 60 0 0 _ ?_
    refine And.intro (fun q => ?_) (fun q => ?_)
    · rw [c1, nI_le24 (by omega) (by omega)] at q
      omega
    · refine And.intro (vn_in (by omega) (by decide)) ?_
      refine And.intro (fun q2 => ?_) (fun q2 => ?_)
      · rw [hcl] at q2
        have nx := ih (i + 1) (nI i) (by omega) (by omega) (Or.inl ⟨i, by omega, q2, rfl, fun h h1 h2 => by omega⟩)
        rw [← nI_s] at nx
        exact nx
      · rw [hcl] at q2
        have nx := ih (i + 1) r (by omega) (by omega) (by
          rcases hr with ⟨f, f1, f2, f3, f4⟩ | ⟨f1, f2⟩
          · refine Or.inl ⟨f, by omega, f2, f3, fun h h1 h2 => ?_⟩
            by_cases e : h = i
            · rw [e]; exact q2
            · exact f4 h h1 (by omega)
          · refine Or.inr ⟨?_, f2⟩
            rintro ⟨f, g1, g2⟩
            by_cases e : f = i
            · rw [e] at g2; exact q2 g2
            · exact f1 ⟨f, by omega, g2⟩)
        rw [← nI_s] at nx
        exact nx
/-- a find that is sure of the net k -/
def sureN (s : Nat → Nat) (c f k : Nat) : Prop := f < c ∧ ∀ n, (∃ φ, way s c φ ∧ φ f = n) ↔ n = k
theorem sureN_one {s : Nat → Nat} {c f h k : Nat} (h1 : sureN s c f k) (h2 : sureN s c h k) : f = h := by
  obtain ⟨φ, p1, p2⟩ := (h1.2 k).mpr rfl
  have := (h2.2 (φ h)).mp ⟨φ, p1, rfl⟩
  exact p1.2 f h h1.1 h2.1 (by rw [p2, this])
theorem sureP_iff {s : Nat → Nat} {c f k : Nat} {v : Int32} (h : sureP s c f v) (hf : f < c) (hk : k < 2147483648) : v = nI k ↔ sureN s c f k := by
  rcases h with ⟨k0, h1, h2, h3⟩ | ⟨h1, h2⟩
  · constructor
    · intro e
      rw [h2, zi_eq, zi_nI (by omega), zi_nI (by omega)] at e
      have : k0 = k := by omega
      exact ⟨hf, this ▸ h3⟩
    · rintro ⟨-, hs⟩
      have : k0 = k := (hs k0).mp ((h3 k0).mpr rfl)
      rw [h2, this]
  · constructor
    · intro e
      rw [h1, zi_eq, zi_nI (by omega), zi_m1] at e; omega
    · rintro ⟨-, hs⟩
      exact absurd ⟨k, hs⟩ h2
/-- which find is sure of a net, as both tell it -/
def sp_of (s : Nat → Nat) (c : Nat) (a r : Int32) : Prop := (∃ f k, a = nI k ∧ k < 24 ∧ sureN s c f k ∧ r = nI f) ∨ ((¬ ∃ f k, a = nI k ∧ k < 24 ∧ sureN s c f k) ∧ r = -1)
theorem sp_of_eq {s : Nat → Nat} {c : Nat} {a r r2 : Int32} (h : sp_of s c a r) (h2 : sp_of s c a r2) : r = r2 := by
  rcases h with ⟨f, k, a1, a2, a3, a4⟩ | ⟨a1, a2⟩
  · rcases h2 with ⟨f', k', b1, b2, b3, b4⟩ | ⟨b1, b2⟩
    · have : k = k' := by
        have := congrArg Int32.toInt (a1.symm.trans b1)
        rw [zi_nI (by omega), zi_nI (by omega)] at this; omega
      subst this
      rw [a4, b4, sureN_one a3 b3]
    · exact absurd ⟨f, k, a1, a2, a3⟩ b1
  · rcases h2 with ⟨f', k', b1, b2, b3, b4⟩ | ⟨b1, b2⟩
    · exact absurd ⟨f', k', b1, b2, b3⟩ a1
    · rw [a2, b2]
theorem sureP_val {s : Nat → Nat} {c f : Nat} {v : Int32} (h : sureP s c f v) : v = -1 ∨ ∃ k, k < 24 ∧ v = nI k := by
  rcases h with ⟨k, h1, h2, -⟩ | ⟨h1, -⟩
  · exact Or.inr ⟨k, h1, h2⟩
  · exact Or.inl h1
theorem lf_of {s : Nat → Nat} {c : Nat} {g : Nat → Int32} {a r : Int32} (hg : ∀ f, f < c → sureP s c f (g f)) (ha : 0 ≤ a.toInt) (h : sp_lf g c a r) : sp_of s c a r := by
  have key : ∀ f, f < c → g f = a → ∃ k, a = nI k ∧ k < 24 ∧ sureN s c f k := fun f hf e => by
    rcases sureP_val (hg f hf) with h1 | ⟨k, h1, h2⟩
    · rw [e] at h1; rw [h1, zi_m1] at ha; omega
    · exact ⟨k, e.symm.trans h2, h1, (sureP_iff (hg f hf) hf (by omega)).mp h2⟩
  rcases h with ⟨f, f1, f2, f3, -⟩ | ⟨f1, f2⟩
  · obtain ⟨k, k1, k2, k3⟩ := key f f1 f2
    exact Or.inl ⟨f, k, k1, k2, k3, f3⟩
  · refine Or.inr ⟨?_, f2⟩
    rintro ⟨f, k, k1, k2, k3⟩
    exact f1 ⟨f, k3.1, by rw [k1]; exact (sureP_iff (hg f k3.1) k3.1 (by omega)).mpr k3⟩
theorem sf_of {s : Nat → Nat} {c : Nat} {g : Nat → Int32} {a r : Int32} (hg : ∀ f, f < c → sureP s c f (g f)) (h : sp_sf g c a r) : sp_of s c a r := by
  rcases h with ⟨f, f1, f0, f2, f3, -⟩ | ⟨f1, f2⟩
  · rcases sureP_val (hg f f1) with h1 | ⟨k, h1, h2⟩
    · rw [f2] at h1; rw [h1] at f0; exact absurd f0 (by decide)
    · exact Or.inl ⟨f, k, f2.symm.trans h2, h1, (sureP_iff (hg f f1) f1 (by omega)).mp h2, f3⟩
  · refine Or.inr ⟨?_, f2⟩
    rintro ⟨f, k, k1, k2, k3⟩
    refine f1 ⟨f, k3.1, ?_, by rw [k1]; exact (sureP_iff (hg f k3.1) k3.1 (by omega)).mpr k3⟩
    rw [k1, zi_le, zi_nI (by omega)]
    show (0 : Int) ≤ k; omega
theorem m_findOf (a : Int32) (ha : 0 ≤ a.toInt) (s : Nat → Nat) (c n : Nat) (hM : kM M s c n) : hy_R 8 mX6_findOf 0 0 [hy_r 30, .inl a] (wW N F S T C (wM M)) (fun o w1 => ∃ r, o = some r ∧ sp_of s c a r ∧ ∃ M', scrM M M' ∧ kM M' s c n ∧ w1 = wW N F S T C (wM M')) := by
  refine hy_Ri (L := [some (hy_r 30), some (.inl a), none, none]) rfl (by decide) (hy_ple rfl) rfl ?_
  refine hy_go hy_pfA oX6_findOf [8] 60 0 0 _ ?_
  refine hy_cl (m_knows N F S T C M s c n hM) rfl ?_
  rintro o w1 ⟨rfl, M', h1, h2, h3, rfl⟩
  have hg : ∀ f, f < c → sureP s c f (M'.1 13 f) := by
    rcases h2.2 with h | h
    · rw [h] at h3; exact absurd h3 (by decide)
    · exact h.2
  exact l_findOf N F S T C M' _ a s c n h2.1 (fun r hr => ⟨r, rfl, lf_of hg ha hr, M', h1, h2, rfl⟩) c 0 (-1) (by omega) (by omega) (Or.inr ⟨fun ⟨f, h, _⟩ => by omega, rfl⟩)
/-- a net's state, as it is told -/
def sp_st (s : Nat → Nat) (c : Nat) (st : Nat → Int32) (k : Nat) (r : Int32) : Prop := (st k = 2 ∧ (∃ f, sureN s c f k) ∧ r = 3) ∨ (¬ (st k = 2 ∧ ∃ f, sureN s c f k) ∧ r = st k)
theorem m_stateOf (k : Nat) (hk : k < 24) (s : Nat → Nat) (c n : Nat) (hM : kM M s c n) : hy_R 9 mX6_stateOf 0 0 [hy_r 30, .inl (nI k)] (wW N F S T C (wM M)) (fun o w1 => ∃ r, o = some r ∧ sp_st s c (M.1 9) k r ∧ ∃ M', scrM M M' ∧ kM M' s c n ∧ w1 = wW N F S T C (wM M')) := by
  have hcl : (nI k).toNatClampNeg = k := cl_nI (by omega)
  have hin : vp_in (nI k) 24 := vn_in hk (by decide)
  refine hy_Ri (L := [some (hy_r 30), some (.inl (nI k))]) rfl (by decide) (hy_ple rfl) rfl ?_
  refine hy_go hy_pfA oX6_stateOf [] 60 0 0 _ ?_
  refine And.intro hin ?_
  refine And.intro (fun q => ?_) (fun q => ?_)
  · rw [hcl] at q
    refine hy_cl (m_findOf N F S T C M (nI k) (by rw [zi_nI (by omega)]; omega) s c n hM) rfl ?_
    rintro o w1 ⟨r, rfl, hr, M', h1, h2, rfl⟩
    refine And.intro (fun q2 => ?_) (fun q2 => ?_)
    · refine And.intro hin ?_
      refine hy_fin ⟨?_, M', h1, h2, rfl⟩
      show sp_st s c (M.1 9) k (M'.1 9 (nI k).toNatClampNeg)
      rw [hcl, h1.1 9 (by decide) (by decide)]
      refine Or.inr ⟨?_, rfl⟩
      rintro ⟨-, f, hf⟩
      rcases hr with ⟨f', k', b1, b2, b3, b4⟩ | ⟨b1, b2⟩
      · have q2 := zi_lt.mp q2
        have : f' < 8 := Nat.lt_of_lt_of_le b3.1 hM.1.2.1
        rw [b4, zi_nI (by omega), zi_lit0] at q2; omega
      · exact b1 ⟨f, k, rfl, hk, hf⟩
    · refine hy_fin ⟨Or.inl ⟨q, ?_, rfl⟩, M', h1, h2, rfl⟩
      rcases hr with ⟨f', k', b1, b2, b3, b4⟩ | ⟨b1, b2⟩
      · have : k = k' := by
          have := congrArg Int32.toInt b1
          rw [zi_nI (by omega), zi_nI (by omega)] at this; omega
        exact ⟨f', this ▸ b3⟩
      · rw [b2] at q2; exact absurd (by decide) q2
  · rw [hcl] at q
    refine And.intro hin ?_
    refine hy_fin ⟨?_, M, scrM_refl M, hM, rfl⟩
    show sp_st s c (M.1 9) k (M.1 9 (nI k).toNatClampNeg)
    rw [hcl]
    exact Or.inr ⟨fun h => q h.1, rfl⟩
end
end
section
/-! ===== the reference's nets ===== -/
def iNM (M : hyB) (n : Nat) : Prop := M.2 3 = nI n ∧ n ≤ 24 ∧ (∀ i, 0 ≤ (M.1 1 i).toInt ∧ (M.1 1 i).toInt ≤ 9) ∧ (∀ i, 0 ≤ (M.1 4 i).toInt ∧ (M.1 4 i).toInt ≤ 7)
section
variable (N F S T C M : hyB)
theorem m_salt (a v : Int32) : hy_R 4 mX6_salt 0 0 [hy_r 30, .inl a, .inl v] (wW N F S T C (wM M)) (fun o w1 => ∃ x, o = some x ∧ (((0 ≤ a ∧ a ≤ 7) ∧ (0 ≤ v ∧ v ≤ 9)) ∧ x = 1 ∧ w1 = wW N F S T C (wM (sa M 1 (upd (M.1 1) a.toNatClampNeg v))) ∨ ¬ ((0 ≤ a ∧ a ≤ 7) ∧ (0 ≤ v ∧ v ≤ 9)) ∧ x = 0 ∧ w1 = wW N F S T C (wM M))) := by
  refine hy_Rz (L := [some (hy_r 30), some (.inl a), some (.inl v)]) rfl (by decide) (fun x w h => ?_) (hy_ple rfl) rfl ?_
  · rcases h with ⟨-, h, -⟩ | ⟨-, h, -⟩
    · exact Or.inr h
    · exact Or.inl h
  refine hy_go hy_pfA oX6_salt [] 60 0 0 _ ?_
  refine And.intro (fun q => ?_) (fun q => And.intro (fun q2 => ?_) (fun q2 => ?_))
  · exact hy_fin (Or.inr ⟨fun h => g_within_0 q h.1, rfl, rfl⟩)
  · exact hy_fin (Or.inr ⟨fun h => g_within_0 q2 h.2, rfl, rfl⟩)
  · have h1 := g_within_n0 q
    have h2 : 0 ≤ a.toInt := zi_le.mp h1.1
    have h3 : a.toInt ≤ 7 := zi_le.mp h1.2
    refine And.intro (vi_of h2 (by omega)) ?_
    exact hy_fin (Or.inl ⟨⟨h1, g_within_n0 q2⟩, rfl, rfl⟩)
theorem m_ripens (a v : Int32) : hy_R 4 mX6_ripens 0 0 [hy_r 30, .inl a, .inl v] (wW N F S T C (wM M)) (fun o w1 => ∃ x, o = some x ∧ (((0 ≤ a ∧ a ≤ 9) ∧ (0 ≤ v ∧ v ≤ 50)) ∧ x = 1 ∧ w1 = wW N F S T C (wM (sa M 2 (upd (M.1 2) a.toNatClampNeg v))) ∨ ¬ ((0 ≤ a ∧ a ≤ 9) ∧ (0 ≤ v ∧ v ≤ 50)) ∧ x = 0 ∧ w1 = wW N F S T C (wM M))) := by
  refine hy_Rz (L := [some (hy_r 30), some (.inl a), some (.inl v)]) rfl (by decide) (fun x w h => ?_) (hy_ple rfl) rfl ?_
  · rcases h with ⟨-, h, -⟩ | ⟨-, h, -⟩
    · exact Or.inr h
    · exact Or.inl h
  refine hy_go hy_pfA oX6_ripens [] 60 0 0 _ ?_
  refine And.intro (fun q => ?_) (fun q => And.intro (fun q2 => ?_) (fun q2 => ?_))
  · exact hy_fin (Or.inr ⟨fun h => g_within_0 q h.1, rfl, rfl⟩)
  · exact hy_fin (Or.inr ⟨fun h => g_within_0 q2 h.2, rfl, rfl⟩)
  · have h1 := g_within_n0 q
    have h2 : 0 ≤ a.toInt := zi_le.mp h1.1
    have h3 : a.toInt ≤ 9 := zi_le.mp h1.2
    refine And.intro (vi_of h2 (by omega)) ?_
    exact hy_fin (Or.inl ⟨⟨h1, g_within_n0 q2⟩, rfl, rfl⟩)
def mnet (M : hyB) (j : Nat) (a b h g : Int32) (v : Int32) : hyB := ss (sa (sa (sa (sa (sa (sa M 4 (upd (M.1 4) j a)) 5 (upd (M.1 5) j b)) 6 (upd (M.1 6) j h)) 7 (upd (M.1 7) j g)) 8 (upd (M.1 8) j 0)) 9 (upd (M.1 9) j 0)) 3 v
set_option maxRecDepth 100000 in
theorem m_net (a b h g : Int32) (n : Nat) (hM : iNM M n) : hy_R 4 mX6_net 0 0 [hy_r 30, .inl a, .inl b, .inl h, .inl g] (wW N F S T C (wM M)) (fun o w1 => ∃ x, o = some x ∧ (c_net a b h g n ∧ x = nI n ∧ w1 = wW N F S T C (wM (mnet M n a b h g (nI (n + 1)))) ∨ ¬ c_net a b h g n ∧ x = -1 ∧ w1 = wW N F S T C (wM M))) := by
  obtain ⟨c1, c2, -, -⟩ := hM
  refine hy_Ri (L := [some (hy_r 30), some (.inl a), some (.inl b), some (.inl h), some (.inl g)]) rfl (by decide) (hy_ple rfl) rfl ?_
  refine hy_go hy_pfA oX6_net [] 80 0 0 _ ?_
  have hi : n < 24 → vp_in (M.2 3) 24 := fun h => by rw [c1]; exact vn_in h (by omega)
  have h24 : (24 : Int32).toInt = 24 := rfl
  refine And.intro (fun q => ?_) (fun q => And.intro (fun q2 => ?_) (fun q2 => And.intro (fun q3 => ?_) (fun q3 => And.intro (fun q4 => ?_) (fun q4 => And.intro (fun q5 => ?_) (fun q5 => ?_)))))
  · exact hy_fin (Or.inr ⟨fun h => g_within_0 q h.1, rfl, rfl⟩)
  · exact hy_fin (Or.inr ⟨fun h => g_within_0 q2 h.2.1, rfl, rfl⟩)
  · exact hy_fin (Or.inr ⟨fun h => g_within_0 q3 h.2.2.1, rfl, rfl⟩)
  · exact hy_fin (Or.inr ⟨fun h => g_within_0 q4 h.2.2.2.1, rfl, rfl⟩)
  · refine hy_fin (Or.inr ⟨fun h => ?_, rfl, rfl⟩)
    have := h.2.2.2.2
    have q5 := zi_eq.mp q5
    rw [c1, zi_nI (by omega)] at q5
    omega
  · have hn : n < 24 := by
      have q5 : ¬ (M.2 3).toInt = 24 := fun h => q5 (zi_eq.mpr h)
      rw [c1, zi_nI (by omega)] at q5
      omega
    refine And.intro (hi hn) (And.intro (hi hn) (And.intro (hi hn) (And.intro (hi hn) (And.intro (hi hn) (And.intro (hi hn) ?_)))))
    have hcl : (M.2 3).toNatClampNeg = n := by rw [c1, cl_nI (by omega)]
    have e1 : M.2 3 + 1 = nI (n + 1) := by rw [c1, nI_s]
    have e2 : M.2 3 + 1 - 1 = nI n := by rw [e1]; exact nI_pred n
    have key : ∃ x, some (M.2 3 + 1 - 1) = some x ∧ (c_net a b h g n ∧ x = nI n ∧ wW N F S T C (wM (mnet M (M.2 3).toNatClampNeg a b h g (M.2 3 + 1))) = wW N F S T C (wM (mnet M n a b h g (nI (n + 1)))) ∨ ¬ c_net a b h g n ∧ x = -1 ∧ wW N F S T C (wM (mnet M (M.2 3).toNatClampNeg a b h g (M.2 3 + 1))) = wW N F S T C (wM M)) := ⟨_, rfl, Or.inl ⟨⟨g_within_n0 q, g_within_n0 q2, g_within_n0 q3, g_within_n0 q4, hn⟩, e2, by rw [hcl, e1]⟩⟩
    exact key
theorem upd_self0 {f : Nat → Int32} {k : Nat} : upd f k (f k + 0) = f := by
  funext j
  unfold upd
  split
  · rename_i h; rw [h, Int32.add_zero]
  · rfl
theorem l_m_weeks (Q : hyQ) (v : Int32) (n : Nat) (hM : iNM M n)
    (K : hy_X none 4 mX6_weeks Q 0 0 (80, [some (hy_r 30), some (.inl v), some (.inl (nI n))], [], wW N F S T C (wM (sa M 8 (ptf (fun k => M.1 9 k = 0) (M.1 8) (rtf (M.1 2) (M.1 1) (M.1 4)) v n))))) :
    ∀ (j i : Nat), n - i = j → i ≤ n → hy_X none 4 mX6_weeks Q 0 0 (26, [some (hy_r 30), some (.inl v), some (.inl (nI i))], [], wW N F S T C (wM (sa M 8 (ptf (fun k => M.1 9 k = 0) (M.1 8) (rtf (M.1 2) (M.1 1) (M.1 4)) v i)))) := by
  obtain ⟨c1, c2, c3, c4⟩ := id hM
  intro j
  induction j with
  | zero =>
    intro i hj hi
    have : i = n := by omega
    subst this
    refine hy_go hy_pfA oX6_weeks [26, 80] 60 0 0 _ ?_
    refine And.intro (fun q => K) (fun q => absurd ?_ q)
    show M.2 3 ≤ nI i
    rw [c1]; exact Int32.le_refl _
  | succ j ih =>
    intro i hj hi
    have hcl : (nI i).toNatClampNeg = i := cl_nI (by omega)
    have nx := ih (i + 1) (by omega) (by omega)
    rw [← nI_s] at nx
    have hin : vp_in (nI i) 24 := vn_in (by omega) (by decide)
    refine hy_go hy_pfA oX6_weeks [26, 80] 60 0 0 _ ?_
    refine And.intro (fun q => ?_) (fun q => ?_)
    · have q : M.2 3 ≤ nI i := q
      rw [c1, nI_le24 (by omega) (by omega)] at q
      omega
    · refine And.intro hin (And.intro hin ?_)
      refine And.intro (fun q2 => ?_) (fun q2 => ?_)
      · have q2 : M.1 9 (nI i).toNatClampNeg = 0 := q2
        rw [hcl] at q2
        refine And.intro hin (And.intro ?_ (And.intro ?_ (And.intro hin ?_)))
        · have := c4 (nI i).toNatClampNeg
          have hv : vp_in (M.1 4 (nI i).toNatClampNeg) 8 := vi_of this.1 (by omega)
          exact hv
        · have := c3 (M.1 4 (nI i).toNatClampNeg).toNatClampNeg
          have hv : vp_in (M.1 1 (M.1 4 (nI i).toNatClampNeg).toNatClampNeg) 10 := vi_of this.1 (by omega)
          exact hv
        · rw [ptf_y (z := fun k => M.1 9 k = 0) q2] at nx
          have e : upd (ptf (fun k => M.1 9 k = 0) (M.1 8) (rtf (M.1 2) (M.1 1) (M.1 4)) v i) (nI i).toNatClampNeg (ptf (fun k => M.1 9 k = 0) (M.1 8) (rtf (M.1 2) (M.1 1) (M.1 4)) v i (nI i).toNatClampNeg + v * M.1 2 (M.1 1 (M.1 4 (nI i).toNatClampNeg).toNatClampNeg).toNatClampNeg) = upd (ptf (fun k => M.1 9 k = 0) (M.1 8) (rtf (M.1 2) (M.1 1) (M.1 4)) v i) i (ptf (fun k => M.1 9 k = 0) (M.1 8) (rtf (M.1 2) (M.1 1) (M.1 4)) v i i + v * rtf (M.1 2) (M.1 1) (M.1 4) i) := by rw [hcl]; rfl
          rw [← e] at nx
          exact nx
      · have q2 : ¬ M.1 9 (nI i).toNatClampNeg = 0 := q2
        rw [hcl] at q2
        refine And.intro hin ?_
        rw [ptf_n (z := fun k => M.1 9 k = 0) q2, ← upd_self0 (f := ptf (fun k => M.1 9 k = 0) (M.1 8) (rtf (M.1 2) (M.1 1) (M.1 4)) v i) (k := (nI i).toNatClampNeg)] at nx
        exact nx
set_option maxRecDepth 100000 in
theorem m_weeks (v : Int32) (n : Nat) (hM : iNM M n) : hy_R 4 mX6_weeks 0 0 [hy_r 30, .inl v] (wW N F S T C (wM M)) (fun o w1 => ∃ x, o = some x ∧ (c_weeks v (M.2 0) ∧ x = M.2 0 + v ∧ w1 = wW N F S T C (wM (ss (sa M 8 (ptf (fun k => M.1 9 k = 0) (M.1 8) (rtf (M.1 2) (M.1 1) (M.1 4)) v n)) 0 (M.2 0 + v))) ∨ ¬ c_weeks v (M.2 0) ∧ x = -1 ∧ w1 = wW N F S T C (wM M))) := by
  refine hy_Ri (L := [some (hy_r 30), some (.inl v), none]) rfl (by decide) (hy_ple rfl) rfl ?_
  refine hy_go hy_pfA oX6_weeks [26] 60 0 0 _ ?_
  refine And.intro (fun q => ?_) (fun q => And.intro (fun q2 => ?_) (fun q2 => ?_))
  · exact hy_fin (Or.inr ⟨fun h => g_within_0 q h.1, rfl, rfl⟩)
  · have := l_m_weeks N F S T C M (fun o w1 => ∃ x, o = some x ∧ (c_weeks v (M.2 0) ∧ x = M.2 0 + v ∧ w1 = wW N F S T C (wM (ss (sa M 8 (ptf (fun k => M.1 9 k = 0) (M.1 8) (rtf (M.1 2) (M.1 1) (M.1 4)) v n)) 0 (M.2 0 + v))) ∨ ¬ c_weeks v (M.2 0) ∧ x = -1 ∧ w1 = wW N F S T C (wM M))) v n hM (by
      refine hy_go hy_pfA oX6_weeks [] 60 0 0 _ ?_
      exact hy_fin (Or.inl ⟨⟨g_within_n0 q, q2⟩, rfl, rfl⟩)) n 0 (by omega) (by omega)
    rw [ptf_0] at this
    exact this
  · exact hy_fin (Or.inr ⟨fun h => q2 h.2, rfl, rfl⟩)
theorem l_m_flood (Q : hyQ) (a : Int32) (n : Nat) (hM : iNM M n)
    (K : Q (some (nI (cntf (fun k => M.1 9 k = 0 ∧ M.1 4 k = a) n))) (wW N F S T C (wM (sa M 9 (stf (fun k => M.1 9 k = 0 ∧ M.1 4 k = a) (M.1 9) n))))) :
    ∀ (j i : Nat), n - i = j → i ≤ n → hy_X none 4 mX6_flood Q 0 0 (16, [some (hy_r 30), some (.inl a), some (.inl (nI (cntf (fun k => M.1 9 k = 0 ∧ M.1 4 k = a) i))), some (.inl (nI i))], [], wW N F S T C (wM (sa M 9 (stf (fun k => M.1 9 k = 0 ∧ M.1 4 k = a) (M.1 9) i)))) := by
  obtain ⟨c1, c2, -, -⟩ := id hM
  intro j
  induction j with
  | zero =>
    intro i hj hi
    have : i = n := by omega
    subst this
    refine hy_go hy_pfA oX6_flood [16] 60 0 0 _ ?_
    refine And.intro (fun q => K) (fun q => absurd ?_ q)
    show M.2 3 ≤ nI i
    rw [c1]; exact Int32.le_refl _
  | succ j ih =>
    intro i hj hi
    have hcl : (nI i).toNatClampNeg = i := cl_nI (by omega)
    have nx := ih (i + 1) (by omega) (by omega)
    rw [← nI_s] at nx
    have hin : vp_in (nI i) 24 := vn_in (by omega) (by omega)
    refine hy_go hy_pfA oX6_flood [16] 60 0 0 _ ?_
    refine And.intro (fun q => ?_) (fun q => ?_)
    · have q : M.2 3 ≤ nI i := q
      rw [c1, nI_le24 (by omega) (by omega)] at q
      omega
    · have ks : ¬ (M.1 9 i = 0 ∧ M.1 4 i = a) → hy_X none 4 mX6_flood Q 0 0 (16, [some (hy_r 30), some (.inl a), some (.inl (nI (cntf (fun k => M.1 9 k = 0 ∧ M.1 4 k = a) i))), some (.inl (nI i + 1))], [], wW N F S T C (wM (sa M 9 (stf (fun k => M.1 9 k = 0 ∧ M.1 4 k = a) (M.1 9) i)))) := fun h => by
        rw [stf_n (P := fun k => M.1 9 k = 0 ∧ M.1 4 k = a) h] at nx
        rw [cntf, if_neg h, Nat.add_zero] at nx
        exact nx
      refine And.intro hin ?_
      refine And.intro (fun q2 => ?_) (fun q2 => ?_)
      · have q2 : stf (fun k => M.1 9 k = 0 ∧ M.1 4 k = a) (M.1 9) i (nI i).toNatClampNeg = 0 := q2
        rw [hcl, stf_i] at q2
        refine And.intro hin ?_
        refine And.intro (fun q3 => ?_) (fun q3 => ?_)
        · have q3 : M.1 4 (nI i).toNatClampNeg = a := q3
          rw [hcl] at q3
          refine And.intro hin ?_
          rw [stf_y (P := fun k => M.1 9 k = 0 ∧ M.1 4 k = a) ⟨q2, q3⟩] at nx
          rw [cntf, if_pos ⟨q2, q3⟩, ← nI_s] at nx
          have e : upd (stf (fun k => M.1 9 k = 0 ∧ M.1 4 k = a) (M.1 9) i) (nI i).toNatClampNeg 2 = upd (stf (fun k => M.1 9 k = 0 ∧ M.1 4 k = a) (M.1 9) i) i 2 := by rw [hcl]
          rw [← e] at nx
          exact nx
        · have q3 : ¬ M.1 4 (nI i).toNatClampNeg = a := q3
          rw [hcl] at q3
          exact ks (fun h => q3 h.2)
      · have q2 : ¬ stf (fun k => M.1 9 k = 0 ∧ M.1 4 k = a) (M.1 9) i (nI i).toNatClampNeg = 0 := q2
        rw [hcl, stf_i] at q2
        exact ks (fun h => q2 h.1)
theorem m_flood (a : Int32) (n : Nat) (hM : iNM M n) : hy_R 4 mX6_flood 0 0 [hy_r 30, .inl a] (wW N F S T C (wM M)) (fun o w1 => ∃ x, o = some x ∧ ((0 ≤ a ∧ a ≤ 7) ∧ x = nI (cntf (fun k => M.1 9 k = 0 ∧ M.1 4 k = a) n) ∧ w1 = wW N F S T C (wM (sa M 9 (stf (fun k => M.1 9 k = 0 ∧ M.1 4 k = a) (M.1 9) n))) ∨ ¬ (0 ≤ a ∧ a ≤ 7) ∧ x = -1 ∧ w1 = wW N F S T C (wM M))) := by
  refine hy_Ri (L := [some (hy_r 30), some (.inl a), none, none]) rfl (by decide) (hy_ple rfl) rfl ?_
  refine hy_go hy_pfA oX6_flood [16] 60 0 0 _ ?_
  refine And.intro (fun q => ?_) (fun q => ?_)
  · exact hy_fin (Or.inr ⟨g_within_0 q, rfl, rfl⟩)
  · have := l_m_flood N F S T C M (fun o w1 => ∃ x, o = some x ∧ ((0 ≤ a ∧ a ≤ 7) ∧ x = nI (cntf (fun k => M.1 9 k = 0 ∧ M.1 4 k = a) n) ∧ w1 = wW N F S T C (wM (sa M 9 (stf (fun k => M.1 9 k = 0 ∧ M.1 4 k = a) (M.1 9) n))) ∨ ¬ (0 ≤ a ∧ a ≤ 7) ∧ x = -1 ∧ w1 = wW N F S T C (wM M))) a n hM ⟨_, rfl, Or.inl ⟨g_within_n0 q, rfl, rfl⟩⟩ n 0 (by omega) (by omega)
    rw [stf_0] at this
    exact this
theorem m_isNet (a : Int32) : hy_R 4 mX6_isNet 0 0 [hy_r 30, .inl a] (wW N F S T C (wM M)) (fun o w1 => ∃ x, o = some x ∧ x = g_within [a, 0, M.2 3 - 1] ∧ w1 = wW N F S T C (wM M)) := by
  refine hy_Rz (L := [some (hy_r 30), some (.inl a)]) rfl (by decide) (fun x w h => h.1 ▸ g_within_01 _) (hy_ple rfl) rfl ?_
  refine hy_go hy_pfA oX6_isNet [] 60 0 0 _ ?_
  exact hy_fin ⟨rfl, rfl⟩
theorem m_isRipe (k : Nat) (hk : k < 24) : hy_R 3 mX6_isRipe 0 0 [hy_r 30, .inl (nI k)] (wW N F S T C (wM M)) (fun o w1 => ∃ x, o = some x ∧ x = (if M.1 8 k < M.1 7 k then 0 else 1) ∧ w1 = wW N F S T C (wM M)) := by
  have hcl : (nI k).toNatClampNeg = k := cl_nI (by omega)
  refine hy_Rz (L := [some (hy_r 30), some (.inl (nI k))]) rfl (by decide) (fun x w h => ?_) (hy_ple rfl) rfl ?_
  · rw [h.1]; split
    · exact Or.inl rfl
    · exact Or.inr rfl
  refine hy_go hy_pfA oX6_isRipe [] 60 0 0 _ ?_
  refine And.intro (vn_in hk (by omega)) (And.intro (vn_in hk (by omega)) (And.intro (fun q => ?_) (fun q => ?_)))
  · rw [hcl] at q
    exact hy_fin ⟨(if_pos q).symm, rfl⟩
  · rw [hcl] at q
    exact hy_fin ⟨(if_neg q).symm, rfl⟩
/-- weeks until ripe, as the reference reckons -/
def wkM (st lk rt : Int32) : Int32 := if ¬ st = 0 then -1 else if lk ≤ 0 then 0 else if rt = 0 then -1 else (lk + rt - 1) / rt
theorem m_weeksLeft (k n : Nat) (hM : iNM M n) (hk : k < 24) : hy_R 3 mX6_weeksLeft 0 0 [hy_r 30, .inl (nI k)] (wW N F S T C (wM M)) (fun o w1 => ∃ x, o = some x ∧ x = wkM (M.1 9 k) (M.1 7 k - M.1 8 k) (rtf (M.1 2) (M.1 1) (M.1 4) k) ∧ w1 = wW N F S T C (wM M)) := by
  obtain ⟨c1, c2, c3, c4⟩ := id hM
  have hcl : (nI k).toNatClampNeg = k := cl_nI (by omega)
  have hin : vp_in (nI k) 24 := vn_in hk (by decide)
  refine hy_Ri (L := [some (hy_r 30), some (.inl (nI k)), none, none]) rfl (by decide) (hy_ple rfl) rfl ?_
  refine hy_go hy_pfA oX6_weeksLeft [] 60 0 0 _ ?_
  refine And.intro hin (And.intro ?_ (And.intro ?_ (And.intro hin (And.intro hin (And.intro hin ?_)))))
  · have := c4 (nI k).toNatClampNeg
    exact vi_of this.1 (by omega)
  · have := c3 (M.1 4 (nI k).toNatClampNeg).toNatClampNeg
    exact vi_of this.1 (by omega)
  · have e1 : M.1 2 (M.1 1 (M.1 4 (nI k).toNatClampNeg).toNatClampNeg).toNatClampNeg = rtf (M.1 2) (M.1 1) (M.1 4) k := by rw [hcl]; rfl
    have e2 : M.1 7 (nI k).toNatClampNeg - M.1 8 (nI k).toNatClampNeg = M.1 7 k - M.1 8 k := by rw [hcl]
    have lg : ∀ x : Int32, x ≤ 0 ↔ ¬ 0 < x := fun x => by rw [zi_le, zi_lt]; omega
    refine And.intro (fun q => ?_) (fun q => ?_)
    · rw [hcl] at q
      refine And.intro (fun q2 => ?_) (fun q2 => ?_)
      · rw [e2] at q2
        refine And.intro (fun q3 => ?_) (fun q3 => ?_)
        · rw [e2] at q3; exact absurd q3 ((lg _).mp q2)
        · refine hy_fin ⟨?_, rfl⟩
          rw [wkM, if_neg (fun h => h q), if_pos q2]
      · rw [e2] at q2
        refine And.intro (fun q3 => ?_) (fun q3 => ?_)
        · rw [e1] at q3
          refine hy_fin ⟨?_, rfl⟩
          rw [wkM, if_neg (fun h => h q), if_neg q2, if_pos q3]
        · rw [e1] at q3
          refine And.intro (fun q4 => ?_) (fun q4 => ?_)
          · refine And.intro (fun h => q3 (e1 ▸ h)) ?_
            refine hy_fin ⟨?_, rfl⟩
            rw [wkM, if_neg (fun h => h q), if_neg q2, if_neg q3]
            show (M.1 7 (nI k).toNatClampNeg - M.1 8 (nI k).toNatClampNeg + M.1 2 (M.1 1 (M.1 4 (nI k).toNatClampNeg).toNatClampNeg).toNatClampNeg - 1) / M.1 2 (M.1 1 (M.1 4 (nI k).toNatClampNeg).toNatClampNeg).toNatClampNeg = _
            rw [e1, e2]
          · rw [e2] at q4; exact absurd (Classical.not_not.mp (fun h => q2 ((lg _).mpr h))) q4
    · rw [hcl] at q
      refine hy_fin ⟨?_, rfl⟩
      rw [wkM, if_pos q]
end
end
section
/-! ===== the reference's pull, find, found, netOf, about ===== -/
/-- a net's state as it is told -/
noncomputable def stv (s : Nat → Nat) (c : Nat) (st : Nat → Int32) (k : Nat) : Int32 := @ite _ (st k = 2 ∧ ∃ f, sureN s c f k) (Classical.propDecidable _) 3 (st k)
theorem stv_of {s : Nat → Nat} {c k : Nat} {st : Nat → Int32} {r : Int32} (h : sp_st s c st k r) : r = stv s c st k := by
  unfold stv
  rcases h with ⟨h1, h2, h3⟩ | ⟨h1, h2⟩
  · rw [if_pos ⟨h1, h2⟩, h3]
  · rw [if_neg h1, h2]
def plM (M : hyB) (k : Nat) : Int32 := if M.1 8 k < M.1 7 k then 0 else M.1 6 k
section
variable (N F S T C M : hyB)
def c_pullM (s : Nat → Nat) (c : Nat) (st : Nat → Int32) (a : Int32) (n k : Nat) : Prop := k < n ∧ a = nI k ∧ (stv s c st k = 0 ∨ stv s c st k = 3)
set_option maxRecDepth 100000 in
theorem m_pull (a : Int32) (s : Nat → Nat) (c n : Nat) (hM : kM M s c n) : hy_R 10 mX6_pull 0 0 [hy_r 30, .inl a] (wW N F S T C (wM M)) (fun o w1 => ∃ x, o = some x ∧ ∃ M', scrM M M' ∧ kM M' s c n ∧ ((∃ k, c_pullM s c (M.1 9) a n k ∧ x = plM M k ∧ w1 = wW N F S T C (wM (ss (sa M' 9 (upd (M.1 9) k 1)) 14 (M.2 14 + plM M k)))) ∨ (¬ ∃ k, c_pullM s c (M.1 9) a n k) ∧ x = -1 ∧ w1 = wW N F S T C (wM M'))) := by
  have c5 := hM.1.2.2.2.2.1
  have c6 := hM.1.2.2.2.2.2.1
  refine hy_Ri (L := [some (hy_r 30), some (.inl a), none]) rfl (by decide) (hy_ple rfl) rfl ?_
  refine hy_go hy_pfA oX6_pull [27] 60 0 0 _ ?_
  refine hy_cl (m_isNet N F S T C M a) rfl ?_
  rintro o w1 ⟨x, rfl, rfl, rfl⟩
  refine And.intro (fun q => ?_) (fun q => ?_)
  · rw [c5] at q
    refine hy_fin ⟨M, scrM_refl M, hM, Or.inr ⟨?_, rfl, rfl⟩⟩
    rintro ⟨k, h⟩
    exact net_out (by omega) q ⟨k, h.1, h.2.1⟩
  · rw [c5] at q
    obtain ⟨k, hk, rfl⟩ := net_in (by omega) q
    have hcl : (nI k).toNatClampNeg = k := cl_nI (by omega)
    have hin : vp_in (nI k) 24 := vn_in (by omega) (by omega)
    have go : ∀ M', scrM M M' → kM M' s c n → (stv s c (M.1 9) k = 0 ∨ stv s c (M.1 9) k = 3) → hy_X none 10 mX6_pull (fun o w1 => ∃ x, o = some x ∧ ∃ M', scrM M M' ∧ kM M' s c n ∧ ((∃ j, c_pullM s c (M.1 9) (nI k) n j ∧ x = plM M j ∧ w1 = wW N F S T C (wM (ss (sa M' 9 (upd (M.1 9) j 1)) 14 (M.2 14 + plM M j)))) ∨ (¬ ∃ j, c_pullM s c (M.1 9) (nI k) n j) ∧ x = -1 ∧ w1 = wW N F S T C (wM M'))) 0 0 (27, [some (hy_r 30), some (.inl (nI k)), none], [], wW N F S T C (wM M')) := by
      intro M' s1 s2 hst
      have e6 := s1.1 6 (by decide) (by decide)
      have e7 := s1.1 7 (by decide) (by decide)
      have e8 := s1.1 8 (by decide) (by decide)
      have e9 := s1.1 9 (by decide) (by decide)
      have e14 := s1.2 14 (by decide)
      refine hy_go hy_pfA oX6_pull [] 60 0 0 _ ?_
      refine And.intro hin ?_
      refine hy_cl (m_isRipe N F S T C (sa M' 9 (upd (M'.1 9) (nI k).toNatClampNeg 1)) k (by omega)) rfl ?_
      rintro o w1 ⟨x, rfl, rfl, rfl⟩
      rw [hcl]
      refine And.intro (fun q2 => ?_) (fun q2 => ?_)
      · have q2 : (if M'.1 8 k < M'.1 7 k then (0 : Int32) else 1) = 0 := q2
        rw [e8, e7] at q2
        have q3 : M.1 8 k < M.1 7 k := by
          by_cases q3 : M.1 8 k < M.1 7 k
          · exact q3
          · rw [if_neg q3] at q2
            exact absurd q2 (by decide)
        have e : plM M k = 0 := if_pos q3
        refine hy_fin ⟨M', s1, s2, Or.inl ⟨k, ⟨hk, rfl, hst⟩, e.symm, ?_⟩⟩
        rw [e, ← e14, ← e9]; rfl
      · have q2 : ¬ (if M'.1 8 k < M'.1 7 k then (0 : Int32) else 1) = 0 := q2
        rw [e8, e7] at q2
        have q3 : ¬ M.1 8 k < M.1 7 k := by
          intro q3
          rw [if_pos q3] at q2
          exact absurd rfl q2
        have e : plM M k = M.1 6 k := if_neg q3
        refine And.intro hin ?_
        have key : ∃ x, some (M'.1 6 (nI k).toNatClampNeg) = some x ∧ ∃ M'', scrM M M'' ∧ kM M'' s c n ∧ ((∃ j, c_pullM s c (M.1 9) (nI k) n j ∧ x = plM M j ∧ wW N F S T C (wM (ss (sa M' 9 (upd (M'.1 9) k 1)) 14 (M'.2 14 + M'.1 6 (nI k).toNatClampNeg))) = wW N F S T C (wM (ss (sa M'' 9 (upd (M.1 9) j 1)) 14 (M.2 14 + plM M j)))) ∨ (¬ ∃ j, c_pullM s c (M.1 9) (nI k) n j) ∧ x = -1 ∧ wW N F S T C (wM (ss (sa M' 9 (upd (M'.1 9) k 1)) 14 (M'.2 14 + M'.1 6 (nI k).toNatClampNeg))) = wW N F S T C (wM M'')) := by
          rw [hcl]
          exact ⟨_, rfl, M', s1, s2, Or.inl ⟨k, ⟨hk, rfl, hst⟩, by rw [e, e6], by rw [e, e6, e14, e9]⟩⟩
        exact key
    refine hy_cl (m_stateOf N F S T C M k (by omega) s c n hM) rfl ?_
    rintro o w1 ⟨r, rfl, hr, M1, s1, s2, rfl⟩
    have hr := stv_of hr
    refine And.intro (fun q2 => ?_) (fun q2 => ?_)
    · exact go M1 s1 s2 (Or.inl (hr ▸ q2))
    · refine hy_cl (m_stateOf N F S T C M1 k (by omega) s c n s2) rfl ?_
      rintro o w1 ⟨r2, rfl, hr2, M2, t1, t2, rfl⟩
      have hr2 := stv_of hr2
      rw [s1.1 9 (by decide) (by decide)] at hr2
      refine And.intro (fun q3 => ?_) (fun q3 => ?_)
      · exact go M2 (scrM_trans s1 t1) t2 (Or.inr (hr2 ▸ q3))
      · refine hy_fin ⟨M2, scrM_trans s1 t1, t2, Or.inr ⟨?_, rfl, rfl⟩⟩
        rintro ⟨j, h1, h2, h3⟩
        have : k = j := by
          have := congrArg Int32.toInt h2
          rw [zi_nI (by omega), zi_nI (by omega)] at this; omega
        subst this
        rcases h3 with h3 | h3
        · exact q2 (hr.trans h3)
        · exact q3 (hr2.trans h3)
theorem l_m_find (Q : hyQ) (y no : Int32) (s : Nat → Nat) (c n : Nat)
    (K : ∀ M', scrM M M' → kM M' s c n → hy_X none 10 mX6_find Q 0 0 (105, [some (hy_r 30), some (.inl y), some (.inl no), some (.inl (nI (bitf (fit (stv s c (M.1 9)) (M.1 5) y no) n))), some (.inl (nI n))], [], wW N F S T C (wM M'))) :
    ∀ (j i : Nat) (M' : hyB), scrM M M' → kM M' s c n → n - i = j → i ≤ n → hy_X none 10 mX6_find Q 0 0 (44, [some (hy_r 30), some (.inl y), some (.inl no), some (.inl (nI (bitf (fit (stv s c (M.1 9)) (M.1 5) y no) i))), some (.inl (nI i))], [], wW N F S T C (wM M')) := by
  intro j
  induction j with
  | zero =>
    intro i M' s1 s2 hj hi
    have : i = n := by omega
    subst this
    refine hy_go hy_pfA oX6_find [44, 105] 60 0 0 _ ?_
    refine And.intro (fun q => K M' s1 s2) (fun q => absurd ?_ q)
    rw [s2.1.2.2.2.2.1]; exact Int32.le_refl _
  | succ j ih =>
    intro i M' s1 s2 hj hi
    have c6 := s2.1.2.2.2.2.2.1
    have hcl : (nI i).toNatClampNeg = i := cl_nI (by omega)
    have hin : vp_in (nI i) 24 := vn_in (by omega) (by omega)
    have a1 : n - (i + 1) = j := by omega
    have a2 : i + 1 ≤ n := by omega
    refine hy_go hy_pfA oX6_find [44, 105] 60 0 0 _ ?_
    refine And.intro (fun q => ?_) (fun q => ?_)
    · rw [s2.1.2.2.2.2.1, nI_le24 (by omega) (by omega)] at q
      omega
    · refine hy_cl (m_stateOf N F S T C M' i (by omega) s c n s2) rfl ?_
      rintro o w1 ⟨r, rfl, hr, M1, t1, t2, rfl⟩
      have hr := stv_of hr
      rw [s1.1 9 (by decide) (by decide)] at hr
      have u1 := scrM_trans s1 t1
      have e5 := u1.1 5 (by decide) (by decide)
      have no1 : ¬ fit (stv s c (M.1 9)) (M.1 5) y no i → hy_X none 10 mX6_find Q 0 0 (44, [some (hy_r 30), some (.inl y), some (.inl no), some (.inl (nI (bitf (fit (stv s c (M.1 9)) (M.1 5) y no) i) + 0)), some (.inl (nI i + 1))], [], wW N F S T C (wM M1)) := fun h => by
        have := ih (i + 1) M1 u1 t2 a1 a2
        rw [bitf, if_neg h, Nat.add_zero] at this
        rw [Int32.add_zero, nI_s]
        exact this
      refine And.intro (fun q2 => ?_) (fun q2 => ?_)
      · have q2 := hr.symm.trans q2
        refine And.intro hin ?_
        refine And.intro (fun q3 => ?_) (fun q3 => ?_)
        · rw [hcl, e5] at q3
          refine And.intro hin ?_
          refine And.intro (fun q4 => ?_) (fun q4 => ?_)
          · rw [hcl, e5] at q4
            have := ih (i + 1) M1 u1 t2 a1 a2
            rw [bitf, if_pos ⟨q2, q3, q4⟩, ← nI_add, ← shl_1 (by omega), ← nI_s] at this
            exact this
          · rw [hcl, e5] at q4
            exact no1 (fun h => q4 h.2.2)
        · rw [hcl, e5] at q3
          exact no1 (fun h => q3 h.2.1)
      · exact no1 (fun h => q2 (hr.trans h.1))
/-- when a find is looked at -/
def c_find (y no : Int32) : Prop := (0 ≤ y ∧ y ≤ 255) ∧ (0 ≤ no ∧ no ≤ 255) ∧ (y &&& no) = 0
/-- what telling a find does to the reference; x: the nets that it fits -/
def sp_findM (M : hyB) (s : Nat → Nat) (c n x : Nat) (y no r : Int32) (M' : hyB) : Prop :=
  (c_find y no ∧ c < 8 ∧ (∃ φ, way (us s c x) (c + 1) φ) ∧ r = nI c ∧ ∃ M1, scrM M M1 ∧ M' = ss (ss (sa M1 11 (upd (M.1 11) c (nI x))) 10 (nI (c + 1))) 12 0) ∨
  (c_find y no ∧ c < 8 ∧ (¬ ∃ φ, way (us s c x) (c + 1) φ) ∧ r = -1 ∧ ∃ M1, scrM M M1 ∧ kM M1 s c n ∧ M' = ss (sa M1 11 (upd (M.1 11) c (nI x))) 10 (nI c)) ∨ (¬ (c_find y no ∧ c < 8) ∧ r = -1 ∧ M' = M)
theorem iFM_us {M M1 : hyB} {s : Nat → Nat} {c n x : Nat} {v : Int32} (hM : iFM M s c n) (s1 : scrM M M1) (hc : c < 8) (hx : x < 2 ^ n) : iFM (ss (sa M1 11 (upd (M.1 11) c (nI x))) 10 (nI (c + 1))) (us s c x) (c + 1) n := by
  obtain ⟨c1, c2, c3, c4, c5, c6, c7⟩ := hM
  have hx2 : x < 2 ^ 24 := Nat.lt_of_lt_of_le hx (Nat.pow_le_pow_right (by omega) c6)
  refine ⟨rfl, by omega, fun f => ?_, us_lt c4 hx2, (s1.2 3 (by decide)).trans c5, c6, fun f hf => ?_⟩
  · show upd (M.1 11) c (nI x) f = nI (us s c x f)
    unfold upd us
    split
    · rfl
    · exact c3 f
  · unfold us
    split
    · exact hx
    · exact c7 f (by omega)
set_option maxRecDepth 100000 in
theorem m_find (y no : Int32) (s : Nat → Nat) (c n : Nat) (hM : kM M s c n) : hy_R 10 mX6_find 0 0 [hy_r 30, .inl y, .inl no] (wW N F S T C (wM M)) (fun o w1 => ∃ r, o = some r ∧ ∃ M', sp_findM M s c n (bitf (fit (stv s c (M.1 9)) (M.1 5) y no) n) y no r M' ∧ w1 = wW N F S T C (wM M')) := by
  obtain ⟨c1, c2, c3, c4, c5, c6, c7⟩ := id hM.1
  refine hy_Ri (L := [some (hy_r 30), some (.inl y), some (.inl no), none, none]) rfl (by decide) (hy_ple rfl) rfl ?_
  refine hy_go hy_pfA oX6_find [44] 60 0 0 _ ?_
  have h8 : (8 : Int32).toInt = 8 := rfl
  refine And.intro (fun q => ?_) (fun q => And.intro (fun q2 => ?_) (fun q2 => And.intro (fun q3 => And.intro (fun q4 => ?_) (fun q4 => ?_)) (fun q3 => ?_)))
  · exact hy_fin ⟨M, Or.inr (Or.inr ⟨fun h => g_within_0 q h.1.1, rfl, rfl⟩), rfl⟩
  · exact hy_fin ⟨M, Or.inr (Or.inr ⟨fun h => g_within_0 q2 h.1.2.1, rfl, rfl⟩), rfl⟩
  · refine hy_fin ⟨M, Or.inr (Or.inr ⟨fun h => ?_, rfl, rfl⟩), rfl⟩
    have := h.2
    have q4 := zi_eq.mp q4
    rw [c1, zi_nI (by omega)] at q4; omega
  · have hc : c < 8 := by
      have q4 : ¬ (M.2 10).toInt = 8 := fun h => q4 (zi_eq.mpr h)
      rw [c1, zi_nI (by omega)] at q4; omega
    have hcf : c_find y no := ⟨g_within_n0 q, g_within_n0 q2, q3⟩
    have hx : bitf (fit (stv s c (M.1 9)) (M.1 5) y no) n < 2 ^ n := bitf_lt _ _
    refine l_m_find N F S T C M _ y no s c n (fun M' s1 s2 => ?_) n 0 M (scrM_refl M) hM (by omega) (by omega)
    generalize bitf (fit (stv s c (M.1 9)) (M.1 5) y no) n = x at hx ⊢
    have e10 := s1.2 10 (by decide)
    have e11 := s1.1 11 (by decide) (by decide)
    have hcl : (M'.2 10).toNatClampNeg = c := by rw [e10, c1]; exact cl_nI (by omega)
    have e1 : M'.2 10 + 1 = nI (c + 1) := by rw [e10, c1, nI_s]
    have hI := iFM_us (v := 0) hM.1 s1 hc hx
    refine hy_go hy_pfA oX6_find [] 60 0 0 _ ?_
    refine And.intro (by rw [e10, c1]; exact vn_in hc (by decide)) ?_
    have hw : hy_R 6 mX6_isWay 0 0 [hy_r 30, .inl (-1), .inl (-1)] (wW N F S T C (wM (ss (sa M' 11 (upd (M'.1 11) (M'.2 10).toNatClampNeg (nI x))) 10 (M'.2 10 + 1)))) (fun o w1 => ∃ z, o = some z ∧ ((mt (us s c x) (-1) (-1) n (2 ^ (c + 1) - 1) ∧ z = 1) ∨ (¬ mt (us s c x) (-1) (-1) n (2 ^ (c + 1) - 1) ∧ z = 0)) ∧ ∃ a, w1 = wW N F S T C (wM (sa (ss (sa M' 11 (upd (M.1 11) c (nI x))) 10 (nI (c + 1))) 30 a))) := by
      rw [hcl, e1, e11]
      exact m_isWay N F S T C _ (-1) (-1) (us s c x) (c + 1) n hI
    refine hy_cl hw rfl ?_
    rintro o w1 ⟨z, rfl, hz, a, rfl⟩
    have hmw : mt (us s c x) (-1) (-1) n (2 ^ (c + 1) - 1) ↔ ∃ φ, way (us s c x) (c + 1) φ := by
      have := mt_way (s := us s c x) (c := c + 1) (n := n) hI.2.2.2.2.2.2
      constructor
      · intro h; exact (this.mp ⟨h, by omega⟩).1
      · intro h; exact (this.mpr ⟨h, by omega⟩).1
    rw [hmw] at hz
    have u1 : scrM M (sa M' 30 a) := scrM_trans s1 (scrM_mk0 M' a)
    refine And.intro (fun q5 => ?_) (fun q5 => ?_)
    · rcases hz with ⟨h1, h2⟩ | ⟨h1, h2⟩
      · rw [h2] at q5; exact absurd q5 (by decide)
      · have e2 : nI (c + 1) - 1 = nI c := nI_pred c
        have key : ∃ r, some (-1 : Int32) = some r ∧ ∃ M'', sp_findM M s c n x y no r M'' ∧ wW N F S T C (wM (ss (sa (sa M' 30 a) 11 (upd (M.1 11) c (nI x))) 10 (nI (c + 1) - 1))) = wW N F S T C (wM M'') := by
          rw [e2]
          refine ⟨_, rfl, _, Or.inr (Or.inl ⟨hcf, hc, h1, rfl, sa M' 30 a, u1, ⟨iFM_scr s2.1 (scrM_mk0 M' a), ?_⟩, rfl⟩), rfl⟩
          exact s2.2
        exact key
    · rcases hz with ⟨h1, h2⟩ | ⟨h1, h2⟩
      · refine And.intro (Or.inl rfl) ?_
        have e2 : nI (c + 1) - 1 = nI c := nI_pred c
        have key : ∃ r, some (nI (c + 1) - 1) = some r ∧ ∃ M'', sp_findM M s c n x y no r M'' ∧ wW N F S T C (wM (ss (ss (sa (sa M' 30 a) 11 (upd (M.1 11) c (nI x))) 10 (nI (c + 1))) 12 0)) = wW N F S T C (wM M'') := by
          rw [e2]
          exact ⟨_, rfl, _, Or.inl ⟨hcf, hc, h1, rfl, sa M' 30 a, u1, rfl⟩, rfl⟩
        exact key
      · rw [h2] at q5; exact absurd rfl q5
  · exact hy_fin ⟨M, Or.inr (Or.inr ⟨fun h => q3 h.1.2.2, rfl, rfl⟩), rfl⟩
theorem l_m_found (Q : hyQ) (b : Int32) (s : Nat → Nat) (c n f : Nat) (hM : iFM M s c n) (hf : f < c)
    (K : hy_X none 10 mX6_found Q 0 0 (54, [some (hy_r 30), some (.inl (nI f)), some (.inl b), some (.inl (nI (cb (fun k => (s f).testBit k) n))), some (.inl (nI n))], [], wW N F S T C (wM M))) :
    ∀ (j i : Nat), n - i = j → i ≤ n → hy_X none 10 mX6_found Q 0 0 (21, [some (hy_r 30), some (.inl (nI f)), some (.inl b), some (.inl (nI (cb (fun k => (s f).testBit k) i))), some (.inl (nI i))], [], wW N F S T C (wM M)) := by
  obtain ⟨c1, c2, c3, c4, c5, c6, c7⟩ := id hM
  intro j
  induction j with
  | zero =>
    intro i hj hi
    have : i = n := by omega
    subst this
    refine hy_go hy_pfA oX6_found [21, 54] 60 0 0 _ ?_
    refine And.intro (fun q => K) (fun q => absurd ?_ q)
    rw [c5]; exact Int32.le_refl _
  | succ j ih =>
    intro i hj hi
    have nx := ih (i + 1) (by omega) (by omega)
    rw [← nI_s, show cb (fun k => (s f).testBit k) (i + 1) = cb (fun k => (s f).testBit k) i + ((s f).testBit i).toNat from rfl, ← nI_add] at nx
    refine hy_go hy_pfA oX6_found [21, 54] 60 0 0 _ ?_
    refine And.intro (fun q => ?_) (fun q => ?_)
    · rw [c5, nI_le24 (by omega) (by omega)] at q
      omega
    · refine hy_cl (m_fits N F S T C M s c n f i hM (by omega) (by omega)) rfl ?_
      rintro o w1 ⟨x, rfl, hx, rfl⟩
      refine And.intro (fun q2 => ?_) (fun q2 => ?_)
      · rcases hx with ⟨h1, h2⟩ | ⟨h1, h2⟩
        · rw [h2] at q2; exact absurd q2 (by decide)
        · rw [h1] at nx
          exact nx
      · rcases hx with ⟨h1, h2⟩ | ⟨h1, h2⟩
        · rw [h1] at nx
          exact nx
        · rw [h2] at q2; exact absurd rfl q2
theorem m_found (a b : Int32) (s : Nat → Nat) (c n : Nat) (hM : kM M s c n) : hy_R 10 mX6_found 0 0 [hy_r 30, .inl a, .inl b] (wW N F S T C (wM M)) (fun o w1 => ∃ x, o = some x ∧ ((∃ f, f < c ∧ a = nI f ∧ ((b = 0 ∧ x = nI (cb (fun k => (s f).testBit k) n)) ∨ (b = 1 ∧ sureP s c f x) ∨ (¬ b = 0 ∧ ¬ b = 1 ∧ x = -1))) ∨ (¬ ∃ f, f < c ∧ a = nI f) ∧ x = -1) ∧ ∃ M', scrM M M' ∧ kM M' s c n ∧ w1 = wW N F S T C (wM M')) := by
  obtain ⟨c1, c2, c3, c4, c5, c6, c7⟩ := id hM.1
  refine hy_Ri (L := [some (hy_r 30), some (.inl a), some (.inl b), none, none]) rfl (by decide) (hy_ple rfl) rfl ?_
  refine hy_go hy_pfA oX6_found [21] 60 0 0 _ ?_
  refine And.intro (fun q => ?_) (fun q => ?_)
  · rw [c1] at q
    exact hy_fin ⟨Or.inr ⟨net_out (by omega) q, rfl⟩, M, scrM_refl M, hM, rfl⟩
  · rw [c1] at q
    obtain ⟨f, hf, rfl⟩ := net_in (by omega) q
    have hcl : (nI f).toNatClampNeg = f := cl_nI (by omega)
    have h8 : f < 8 := by omega
    refine l_m_found N F S T C M _ b s c n f hM.1 hf ?_ n 0 (by omega) (by omega)
    refine hy_go hy_pfA oX6_found [] 60 0 0 _ ?_
    refine hy_cl (m_knows N F S T C M s c n hM) rfl ?_
    rintro o w1 ⟨rfl, M', s1, s2, s3, rfl⟩
    refine And.intro (fun q2 => ?_) (fun q2 => ?_)
    · exact hy_fin ⟨Or.inl ⟨f, hf, rfl, Or.inl ⟨q2, rfl⟩⟩, M', s1, s2, rfl⟩
    · refine And.intro (fun q3 => ?_) (fun q3 => ?_)
      · refine And.intro (vn_in h8 (by decide)) ?_
        refine hy_fin ⟨Or.inl ⟨f, hf, rfl, Or.inr (Or.inl ⟨q3, ?_⟩)⟩, M', s1, s2, rfl⟩
        show sureP s c f (M'.1 13 (nI f).toNatClampNeg)
        rw [hcl]
        rcases s2.2 with h | h
        · rw [h] at s3; exact absurd s3 (by decide)
        · exact h.2 f hf
      · exact hy_fin ⟨Or.inl ⟨f, hf, rfl, Or.inr (Or.inr ⟨q2, q3, rfl⟩)⟩, M', s1, s2, rfl⟩
end
end
section
/-! ===== the reference's netOf and about ===== -/
section
variable (N F S T C M : hyB)
/-- what the reference tells of a net -/
def tlM (s : Nat → Nat) (c : Nat) (B : Nat → Nat → Int32) (what : Int) (k : Nat) (x : Int32) : Prop :=
  (what = 0 ∧ x = B 4 k) ∨ (what = 1 ∧ x = B 8 k) ∨ (what = 2 ∧ x = (if B 8 k < B 7 k then 0 else 1)) ∨ (what = 3 ∧ x = stv s c (B 9) k) ∨ (what = 4 ∧ x = B 5 k) ∨ (what = 5 ∧ x = B 6 k) ∨ (what = 6 ∧ sp_of s c (nI k) x) ∨ (what = 7 ∧ x = wkM (B 9 k) (B 7 k - B 8 k) (rtf (B 2) (B 1) (B 4) k)) ∨ (¬ (0 ≤ what ∧ what ≤ 7) ∧ x = -1)
set_option maxRecDepth 100000 in
theorem m_netOf (a b : Int32) (s : Nat → Nat) (c n : Nat) (hM : kM M s c n) (hN : iNM M n) : hy_R 10 mX6_netOf 0 0 [hy_r 30, .inl a, .inl b] (wW N F S T C (wM M)) (fun o w1 => ∃ x, o = some x ∧ ((∃ k, k < n ∧ a = nI k ∧ tlM s c M.1 b.toInt k x) ∨ (¬ ∃ k, k < n ∧ a = nI k) ∧ x = -1) ∧ ∃ M', scrM M M' ∧ kM M' s c n ∧ w1 = wW N F S T C (wM M')) := by
  obtain ⟨c1, c2, c3, c4, c5, c6, c7⟩ := id hM.1
  refine hy_Ri (L := [some (hy_r 30), some (.inl a), some (.inl b)]) rfl (by decide) (hy_ple rfl) rfl ?_
  refine hy_go hy_pfA oX6_netOf [] 60 0 0 _ ?_
  refine hy_cl (m_isNet N F S T C M a) rfl ?_
  rintro o w1 ⟨x, rfl, rfl, rfl⟩
  refine And.intro (fun q => ?_) (fun q => ?_)
  · rw [c5] at q
    exact hy_fin ⟨Or.inr ⟨net_out (by omega) q, rfl⟩, M, scrM_refl M, hM, rfl⟩
  · rw [c5] at q
    obtain ⟨k, hk, rfl⟩ := net_in (by omega) q
    have hcl : (nI k).toNatClampNeg = k := cl_nI (by omega)
    have h24 : k < 24 := by omega
    have hin : vp_in (nI k) 24 := vn_in h24 (by decide)
    have fin : ∀ (x : Int32) (M' : hyB), scrM M M' → kM M' s c n → tlM s c M.1 b.toInt k x → ∃ y, some x = some y ∧ ((∃ j, j < n ∧ nI k = nI j ∧ tlM s c M.1 b.toInt j y) ∨ (¬ ∃ j, j < n ∧ nI k = nI j) ∧ y = -1) ∧ ∃ M'', scrM M M'' ∧ kM M'' s c n ∧ wW N F S T C (wM M') = wW N F S T C (wM M'') := fun x M' s1 s2 hx => ⟨x, rfl, Or.inl ⟨k, hk, rfl, hx⟩, M', s1, s2, rfl⟩
    have fin0 : ∀ (x : Int32), tlM s c M.1 b.toInt k x → ∃ y, some x = some y ∧ ((∃ j, j < n ∧ nI k = nI j ∧ tlM s c M.1 b.toInt j y) ∨ (¬ ∃ j, j < n ∧ nI k = nI j) ∧ y = -1) ∧ ∃ M'', scrM M M'' ∧ kM M'' s c n ∧ wW N F S T C (wM M) = wW N F S T C (wM M'') := fun x hx => fin x M (scrM_refl M) hM hx
    refine And.intro (fun h0 => ?_) (fun h0 => And.intro (fun h1 => ?_) (fun h1 => And.intro (fun h2 => ?_) (fun h2 => And.intro (fun h3 => ?_) (fun h3 => And.intro (fun h4 => ?_) (fun h4 => And.intro (fun h5 => ?_) (fun h5 => And.intro (fun h6 => ?_) (fun h6 => And.intro (fun h7 => ?_) (fun h7 => ?_))))))))
    · refine And.intro hin (fin0 _ ?_)
      show tlM s c M.1 b.toInt k (M.1 4 (nI k).toNatClampNeg)
      rw [hcl]; exact Or.inl ⟨h0, rfl⟩
    · refine And.intro hin (fin0 _ ?_)
      show tlM s c M.1 b.toInt k (M.1 8 (nI k).toNatClampNeg)
      rw [hcl]; exact Or.inr (Or.inl ⟨h1, rfl⟩)
    · refine hy_cl (m_isRipe N F S T C M k h24) rfl ?_
      rintro o w1 ⟨x, rfl, rfl, rfl⟩
      refine And.intro (fun q2 => fin0 _ (Or.inr (Or.inr (Or.inl ⟨h2, q2.symm⟩)))) (fun q2 => fin0 _ (Or.inr (Or.inr (Or.inl ⟨h2, ?_⟩))))
      by_cases q3 : M.1 8 k < M.1 7 k
      · rw [if_pos q3] at q2; exact absurd rfl q2
      · rw [if_neg q3]
    · refine hy_cl (m_stateOf N F S T C M k h24 s c n hM) rfl ?_
      rintro o w1 ⟨r, rfl, hr, M1, t1, t2, rfl⟩
      exact fin r M1 t1 t2 (Or.inr (Or.inr (Or.inr (Or.inl ⟨h3, stv_of hr⟩))))
    · refine And.intro hin (fin0 _ ?_)
      show tlM s c M.1 b.toInt k (M.1 5 (nI k).toNatClampNeg)
      rw [hcl]; exact Or.inr (Or.inr (Or.inr (Or.inr (Or.inl ⟨h4, rfl⟩))))
    · refine And.intro hin (fin0 _ ?_)
      show tlM s c M.1 b.toInt k (M.1 6 (nI k).toNatClampNeg)
      rw [hcl]; exact Or.inr (Or.inr (Or.inr (Or.inr (Or.inr (Or.inl ⟨h5, rfl⟩)))))
    · refine hy_cl (m_findOf N F S T C M (nI k) (by rw [zi_nI (by omega)]; omega) s c n hM) rfl ?_
      rintro o w1 ⟨r, rfl, hr, M1, t1, t2, rfl⟩
      exact fin r M1 t1 t2 (Or.inr (Or.inr (Or.inr (Or.inr (Or.inr (Or.inr (Or.inl ⟨h6, hr⟩)))))))
    · refine hy_cl (m_weeksLeft N F S T C M k n hN h24) rfl ?_
      rintro o w1 ⟨x, rfl, hx, rfl⟩
      exact fin0 _ (Or.inr (Or.inr (Or.inr (Or.inr (Or.inr (Or.inr (Or.inr (Or.inl ⟨h7, hx⟩))))))))
    · refine fin0 _ (Or.inr (Or.inr (Or.inr (Or.inr (Or.inr (Or.inr (Or.inr (Or.inr ⟨?_, rfl⟩))))))))
      rintro ⟨g1, g2⟩
      have : b.toInt = 0 ∨ b.toInt = 1 ∨ b.toInt = 2 ∨ b.toInt = 3 ∨ b.toInt = 4 ∨ b.toInt = 5 ∨ b.toInt = 6 ∨ b.toInt = 7 := by omega
      rcases this with h | h | h | h | h | h | h | h
      · exact h0 h
      · exact h1 h
      · exact h2 h
      · exact h3 h
      · exact h4 h
      · exact h5 h
      · exact h6 h
      · exact h7 h
theorem l_m_about (Q : hyQ) (b : Int32) (s : Nat → Nat) (c n : Nat)
    (K : ∀ M', scrM M M' → kM M' s c n → hy_X none 10 mX6_about Q 0 0 (58, [some (hy_r 30), some (.inl b), some (.inl (nI (cntf (fun k => stv s c (M.1 9) k = 2) n))), some (.inl (nI (cntf (fun k => stv s c (M.1 9) k = 3) n))), some (.inl (nI n))], [], wW N F S T C (wM M'))) :
    ∀ (j i : Nat) (M' : hyB), scrM M M' → kM M' s c n → n - i = j → i ≤ n → hy_X none 10 mX6_about Q 0 0 (7, [some (hy_r 30), some (.inl b), some (.inl (nI (cntf (fun k => stv s c (M.1 9) k = 2) i))), some (.inl (nI (cntf (fun k => stv s c (M.1 9) k = 3) i))), some (.inl (nI i))], [], wW N F S T C (wM M')) := by
  intro j
  induction j with
  | zero =>
    intro i M' s1 s2 hj hi
    have : i = n := by omega
    subst this
    refine hy_go hy_pfA oX6_about [7, 58] 60 0 0 _ ?_
    refine And.intro (fun q => K M' s1 s2) (fun q => absurd ?_ q)
    rw [s2.1.2.2.2.2.1]; exact Int32.le_refl _
  | succ j ih =>
    intro i M' s1 s2 hj hi
    have c6 := s2.1.2.2.2.2.2.1
    have a1 : n - (i + 1) = j := by omega
    have a2 : i + 1 ≤ n := by omega
    have a3 : i < 24 := by omega
    refine hy_go hy_pfA oX6_about [34, 58] 60 0 0 _ ?_
    refine And.intro (fun q => ?_) (fun q => ?_)
    · rw [s2.1.2.2.2.2.1, nI_le24 (by omega) (by omega)] at q
      omega
    · refine hy_cl (m_stateOf N F S T C M' i a3 s c n s2) rfl ?_
      rintro o w1 ⟨r, rfl, hr, M1, t1, t2, rfl⟩
      have hr := stv_of hr
      rw [s1.1 9 (by decide) (by decide)] at hr
      have u1 := scrM_trans s1 t1
      have second : ∀ v : Int32, v = nI (cntf (fun k => stv s c (M.1 9) k = 2) (i + 1)) → hy_X none 10 mX6_about Q 0 0 (34, [some (hy_r 30), some (.inl b), some (.inl v), some (.inl (nI (cntf (fun k => stv s c (M.1 9) k = 3) i))), some (.inl (nI i))], [], wW N F S T C (wM M1)) := by
        intro v hv
        refine hy_go hy_pfA oX6_about [7, 58] 60 0 0 _ ?_
        refine hy_cl (m_stateOf N F S T C M1 i a3 s c n t2) rfl ?_
        rintro o w1 ⟨r2, rfl, hr2, M2, v1, v2, rfl⟩
        have hr2 := stv_of hr2
        rw [u1.1 9 (by decide) (by decide)] at hr2
        have nx := ih (i + 1) M2 (scrM_trans u1 v1) v2 a1 a2
        rw [← hv, ← nI_s] at nx
        refine And.intro (fun q3 => ?_) (fun q3 => ?_)
        · rw [cntf, if_pos (hr2.symm.trans q3), ← nI_s] at nx
          exact nx
        · rw [cntf, if_neg (fun h => q3 (hr2.trans h)), Nat.add_zero, ← Int32.add_zero (nI (cntf (fun k => stv s c (M.1 9) k = 3) i))] at nx
          exact nx
      refine And.intro (fun q2 => ?_) (fun q2 => ?_)
      · exact second _ (by rw [cntf, if_pos (hr.symm.trans q2), ← nI_s])
      · exact second _ (by rw [cntf, if_neg (fun h => q2 (hr.trans h)), Nat.add_zero]; exact Int32.add_zero _)
/-- what the reference tells about all -/
def abM (s : Nat → Nat) (c n : Nat) (M : hyB) (what : Int) (x : Int32) : Prop :=
  (what = 0 ∧ x = M.2 0) ∨ (what = 1 ∧ x = M.2 3) ∨ (what = 2 ∧ x = M.2 10) ∨ (what = 3 ∧ x = M.2 15) ∨ (what = 4 ∧ x = M.2 21) ∨ (what = 5 ∧ x = M.2 24) ∨ (what = 6 ∧ x = M.2 27) ∨ (what = 7 ∧ x = M.2 14) ∨ (what = 8 ∧ x = nI (cntf (fun k => stv s c (M.1 9) k = 2) n)) ∨ (what = 9 ∧ x = nI (cntf (fun k => stv s c (M.1 9) k = 3) n)) ∨ (¬ (0 ≤ what ∧ what ≤ 9) ∧ x = -1)
set_option maxRecDepth 100000 in
theorem m_about (b : Int32) (s : Nat → Nat) (c n : Nat) (hM : kM M s c n) : hy_R 10 mX6_about 0 0 [hy_r 30, .inl b] (wW N F S T C (wM M)) (fun o w1 => ∃ x, o = some x ∧ abM s c n M b.toInt x ∧ ∃ M', scrM M M' ∧ kM M' s c n ∧ w1 = wW N F S T C (wM M')) := by
  refine hy_Ri (L := [some (hy_r 30), some (.inl b), none, none, none]) rfl (by decide) (hy_ple rfl) rfl ?_
  refine hy_go hy_pfA oX6_about [7] 60 0 0 _ ?_
  refine l_m_about N F S T C M _ b s c n (fun M' s1 s2 => ?_) n 0 M (scrM_refl M) hM (by omega) (by omega)
  refine hy_go hy_pfA oX6_about [] 60 0 0 _ ?_
  have fin : ∀ x : Int32, abM s c n M b.toInt x → ∃ y, some x = some y ∧ abM s c n M b.toInt y ∧ ∃ M'', scrM M M'' ∧ kM M'' s c n ∧ wW N F S T C (wM M') = wW N F S T C (wM M'') := fun x hx => ⟨x, rfl, hx, M', s1, s2, rfl⟩
  refine And.intro (fun h0 => ?_) (fun h0 => And.intro (fun h1 => ?_) (fun h1 => And.intro (fun h2 => ?_) (fun h2 => And.intro (fun h3 => ?_) (fun h3 => And.intro (fun h4 => ?_) (fun h4 => And.intro (fun h5 => ?_) (fun h5 => And.intro (fun h6 => ?_) (fun h6 => And.intro (fun h7 => ?_) (fun h7 => And.intro (fun h8 => ?_) (fun h8 => And.intro (fun h9 => ?_) (fun h9 => ?_))))))))))
  · exact fin _ (Or.inl ⟨h0, s1.2 0 (by decide)⟩)
  · exact fin _ (Or.inr (Or.inl ⟨h1, s1.2 3 (by decide)⟩))
  · exact fin _ (Or.inr (Or.inr (Or.inl ⟨h2, s1.2 10 (by decide)⟩)))
  · exact fin _ (Or.inr (Or.inr (Or.inr (Or.inl ⟨h3, s1.2 15 (by decide)⟩))))
  · exact fin _ (Or.inr (Or.inr (Or.inr (Or.inr (Or.inl ⟨h4, s1.2 21 (by decide)⟩)))))
  · exact fin _ (Or.inr (Or.inr (Or.inr (Or.inr (Or.inr (Or.inl ⟨h5, s1.2 24 (by decide)⟩))))))
  · exact fin _ (Or.inr (Or.inr (Or.inr (Or.inr (Or.inr (Or.inr (Or.inl ⟨h6, s1.2 27 (by decide)⟩)))))))
  · exact fin _ (Or.inr (Or.inr (Or.inr (Or.inr (Or.inr (Or.inr (Or.inr (Or.inl ⟨h7, s1.2 14 (by decide)⟩))))))))
  · exact fin _ (Or.inr (Or.inr (Or.inr (Or.inr (Or.inr (Or.inr (Or.inr (Or.inr (Or.inl ⟨h8, rfl⟩)))))))))
  · exact fin _ (Or.inr (Or.inr (Or.inr (Or.inr (Or.inr (Or.inr (Or.inr (Or.inr (Or.inr (Or.inl ⟨h9, rfl⟩))))))))))
  · refine fin _ (Or.inr (Or.inr (Or.inr (Or.inr (Or.inr (Or.inr (Or.inr (Or.inr (Or.inr (Or.inr ⟨?_, rfl⟩))))))))))
    rintro ⟨g1, g2⟩
    have : b.toInt = 0 ∨ b.toInt = 1 ∨ b.toInt = 2 ∨ b.toInt = 3 ∨ b.toInt = 4 ∨ b.toInt = 5 ∨ b.toInt = 6 ∨ b.toInt = 7 ∨ b.toInt = 8 ∨ b.toInt = 9 := by omega
    rcases this with h | h | h | h | h | h | h | h | h | h
    · exact h0 h
    · exact h1 h
    · exact h2 h
    · exact h3 h
    · exact h4 h
    · exact h5 h
    · exact h6 h
    · exact h7 h
    · exact h8 h
    · exact h9 h
end
end
section
/-! ===== the yard's own methods on nets and finds ===== -/
section
variable (N F S T C : hyB) (R : hyW)
theorem y_salt (a v : Int32) : hy_R 5 mX5_salt 0 0 [hy_r 0, .inl a, .inl v] (wW N F S T C R) (fun o w1 => ∃ x, o = some x ∧ (((0 ≤ a ∧ a ≤ 7) ∧ (0 ≤ v ∧ v ≤ 9)) ∧ x = 1 ∧ w1 = wW (sa N 0 (upd (N.1 0) a.toNatClampNeg v)) F S T C R ∨ ¬ ((0 ≤ a ∧ a ≤ 7) ∧ (0 ≤ v ∧ v ≤ 9)) ∧ x = 0 ∧ w1 = wW N F S T C R)) := by
  refine hy_Rz (L := [some (hy_r 0), some (.inl a), some (.inl v)]) rfl (by decide) (fun x w h => ?_) (hy_ple rfl) rfl ?_
  · rcases h with ⟨-, h, -⟩ | ⟨-, h, -⟩
    · exact Or.inr h
    · exact Or.inl h
  refine hy_go hy_pfA oX5_salt [] 60 0 0 _ ?_
  refine hy_cl (r_n_setSalt N F S T C R a v) rfl ?_
  rintro o w1 ⟨x, rfl, hx⟩
  exact hy_fin hx
theorem y_ripens (a v : Int32) : hy_R 5 mX5_ripens 0 0 [hy_r 0, .inl a, .inl v] (wW N F S T C R) (fun o w1 => ∃ x, o = some x ∧ (((0 ≤ a ∧ a ≤ 9) ∧ (0 ≤ v ∧ v ≤ 50)) ∧ x = 1 ∧ w1 = wW (sa N 1 (upd (N.1 1) a.toNatClampNeg v)) F S T C R ∨ ¬ ((0 ≤ a ∧ a ≤ 9) ∧ (0 ≤ v ∧ v ≤ 50)) ∧ x = 0 ∧ w1 = wW N F S T C R)) := by
  refine hy_Rz (L := [some (hy_r 0), some (.inl a), some (.inl v)]) rfl (by decide) (fun x w h => ?_) (hy_ple rfl) rfl ?_
  · rcases h with ⟨-, h, -⟩ | ⟨-, h, -⟩
    · exact Or.inr h
    · exact Or.inl h
  refine hy_go hy_pfA oX5_ripens [] 60 0 0 _ ?_
  refine hy_cl (r_n_setRipens N F S T C R a v) rfl ?_
  rintro o w1 ⟨x, rfl, hx⟩
  exact hy_fin hx
theorem y_net (a b h g : Int32) (n : Nat) (hN : iN N n) : hy_R 5 mX5_net 0 0 [hy_r 0, .inl a, .inl b, .inl h, .inl g] (wW N F S T C R) (fun o w1 => ∃ x, o = some x ∧ (c_net a b h g n ∧ x = nI n ∧ w1 = wW (ss (sa (sa (sa (sa (sa (sa N 2 (upd (N.1 2) n a)) 3 (upd (N.1 3) n b)) 4 (upd (N.1 4) n h)) 5 (upd (N.1 5) n g)) 6 (upd (N.1 6) n 0)) 7 (upd (N.1 7) n 0)) 8 (nI (n + 1))) F S T C R ∨ ¬ c_net a b h g n ∧ x = -1 ∧ w1 = wW N F S T C R)) := by
  refine hy_Ri (L := [some (hy_r 0), some (.inl a), some (.inl b), some (.inl h), some (.inl g)]) rfl (by decide) (hy_ple rfl) rfl ?_
  refine hy_go hy_pfA oX5_net [] 60 0 0 _ ?_
  refine hy_cl (r_n_putIn N F S T C R a b h g n hN) rfl ?_
  rintro o w1 ⟨x, rfl, hx⟩
  exact hy_fin hx
theorem y_weeks (v : Int32) (n : Nat) (hN : iN N n) : hy_R 5 mX5_weeks 0 0 [hy_r 0, .inl v] (wW N F S T C R) (fun o w1 => ∃ x, o = some x ∧ (c_weeks v (N.2 9) ∧ x = N.2 9 + v ∧ w1 = wW (ss (sa N 6 (ptf (fun k => N.1 7 k = 0) (N.1 6) (rtf (N.1 1) (N.1 0) (N.1 2)) v n)) 9 (N.2 9 + v)) F S T C R ∨ ¬ c_weeks v (N.2 9) ∧ x = -1 ∧ w1 = wW N F S T C R)) := by
  refine hy_Ri (L := [some (hy_r 0), some (.inl v)]) rfl (by decide) (hy_ple rfl) rfl ?_
  refine hy_go hy_pfA oX5_weeks [] 60 0 0 _ ?_
  refine hy_cl (r_n_goBy N F S T C R v n hN) rfl ?_
  rintro o w1 ⟨x, rfl, hx⟩
  exact hy_fin hx
theorem y_pull (a : Int32) (n : Nat) (hN : iN N n) : hy_R 6 mX5_pull 0 0 [hy_r 0, .inl a] (wW N F S T C R) (fun o w1 => ∃ x, o = some x ∧ ((∃ k, c_pull N.1 a n k ∧ x = plf N.1 k ∧ w1 = wW (ss (sa N 7 (upd (N.1 7) k 1)) 10 (N.2 10 + plf N.1 k)) F S T C R) ∨ (¬ ∃ k, c_pull N.1 a n k) ∧ x = -1 ∧ w1 = wW N F S T C R)) := by
  refine hy_Ri (L := [some (hy_r 0), some (.inl a)]) rfl (by decide) (hy_ple rfl) rfl ?_
  refine hy_go hy_pfA oX5_pull [] 60 0 0 _ ?_
  refine hy_cl (r_n_takeOut N F S T C R a n hN) rfl ?_
  rintro o w1 ⟨x, rfl, hx⟩
  exact hy_fin hx
theorem y_flood (a : Int32) (n : Nat) (hN : iN N n) : hy_R 5 mX5_flood 0 0 [hy_r 0, .inl a] (wW N F S T C R) (fun o w1 => ∃ x, o = some x ∧ ((0 ≤ a ∧ a ≤ 7) ∧ x = nI (cntf (fun k => N.1 7 k = 0 ∧ N.1 2 k = a) n) ∧ w1 = wW (sa N 7 (stf (fun k => N.1 7 k = 0 ∧ N.1 2 k = a) (N.1 7) n)) F S T C R ∨ ¬ (0 ≤ a ∧ a ≤ 7) ∧ x = -1 ∧ w1 = wW N F S T C R)) := by
  refine hy_Ri (L := [some (hy_r 0), some (.inl a)]) rfl (by decide) (hy_ple rfl) rfl ?_
  refine hy_go hy_pfA oX5_flood [] 60 0 0 _ ?_
  refine hy_cl (r_n_floatOff N F S T C R a n hN) rfl ?_
  rintro o w1 ⟨x, rfl, hx⟩
  exact hy_fin hx
/-- the states once the sure are back -/
noncomputable def bbf (g : Nat → Int32) (st : Nat → Int32) (n i : Nat) : Nat → Int32 := fun k => @ite _ (k < n ∧ st k = 2 ∧ ∃ f, f < i ∧ g f = nI k) (Classical.propDecidable _) 3 (st k)
theorem bbf_0 {g st : Nat → Int32} {n : Nat} : bbf g st n 0 = st := by
  funext k
  unfold bbf
  rw [if_neg]
  rintro ⟨-, -, f, h, -⟩
  omega
theorem bbf_y {g st : Nat → Int32} {n i k : Nat} (hn : n ≤ 24) (hk : k < n) (hg : g i = nI k) (hs : bbf g st n i k = 2) : bbf g st n (i + 1) = upd (bbf g st n i) k 3 := by
  funext j
  have h2 : st k = 2 := by
    unfold bbf at hs
    split at hs
    · exact absurd hs (by decide)
    · exact hs
  unfold upd
  by_cases e : j = k
  · rw [if_pos e, e]
    unfold bbf
    rw [if_pos ⟨hk, h2, i, by omega, hg⟩]
  · rw [if_neg e]
    unfold bbf
    by_cases q : j < n ∧ st j = 2 ∧ ∃ f, f < i ∧ g f = nI j
    · obtain ⟨q1, q2, f, q3, q4⟩ := q
      rw [if_pos ⟨q1, q2, f, by omega, q4⟩, if_pos ⟨q1, q2, f, q3, q4⟩]
    · rw [if_neg q, if_neg]
      rintro ⟨q1, q2, f, q3, q4⟩
      by_cases ef : f = i
      · rw [ef, hg, zi_eq, zi_nI (by omega), zi_nI (by omega)] at q4; omega
      · exact q ⟨q1, q2, f, by omega, q4⟩
theorem bbf_n {g st : Nat → Int32} {n i : Nat} (h : ¬ ∃ k, k < n ∧ g i = nI k ∧ bbf g st n i k = 2) : bbf g st n (i + 1) = bbf g st n i := by
  funext j
  by_cases q : j < n ∧ st j = 2 ∧ ∃ f, f < i ∧ g f = nI j
  · obtain ⟨q1, q2, f, q3, q4⟩ := q
    unfold bbf
    rw [if_pos ⟨q1, q2, f, by omega, q4⟩, if_pos ⟨q1, q2, f, q3, q4⟩]
  · have e : bbf g st n i j = st j := by unfold bbf; rw [if_neg q]
    rw [e]
    unfold bbf
    rw [if_neg]
    rintro ⟨q1, q2, f, q3, q4⟩
    by_cases ef : f = i
    · rw [ef] at q4
      exact h ⟨j, q1, q4, e.trans q2⟩
    · exact q ⟨q1, q2, f, by omega, q4⟩
theorem l_bring (Q : hyQ) (s : Nat → Nat) (c n : Nat) (hN : iN N n) (hF : iF F s c) (K : Q none (wW (sa N 7 (bbf (F.1 1) (N.1 7) n c)) F S T C R)) :
    ∀ (j i : Nat), c - i = j → i ≤ c → hy_X none 6 mX5_bringBackTheSure Q 0 0 (2, [some (hy_r 0), some (.inl (nI i))], [], wW (sa N 7 (bbf (F.1 1) (N.1 7) n i)) F S T C R) := by
  obtain ⟨c1, c2, c3, c4⟩ := id hF
  intro j
  induction j with
  | zero =>
    intro i hj hi
    have : i = c := by omega
    subst this
    refine hy_go hy_pfA oX5_bringBackTheSure [2] 60 0 0 _ ?_
    refine hy_cl (r_f_count (sa N 7 (bbf (F.1 1) (N.1 7) n i)) F S T C R) rfl ?_
    rintro o w1 ⟨x, rfl, rfl, rfl⟩
    refine And.intro (fun q => K) (fun q => absurd ?_ q)
    rw [c1]; exact Int32.le_refl _
  | succ j ih =>
    intro i hj hi
    have a1 : c - (i + 1) = j := by omega
    have a2 : i + 1 ≤ c := by omega
    refine hy_go hy_pfA oX5_bringBackTheSure [2] 60 0 0 _ ?_
    refine hy_cl (r_f_count (sa N 7 (bbf (F.1 1) (N.1 7) n i)) F S T C R) rfl ?_
    rintro o w1 ⟨x, rfl, rfl, rfl⟩
    refine And.intro (fun q => ?_) (fun q => ?_)
    · rw [c1, nI_le24 (by omega) (by omega)] at q
      omega
    · refine hy_cl (r_f_sureNet (sa N 7 (bbf (F.1 1) (N.1 7) n i)) F S T C R (nI i) s c hF) rfl ?_
      rintro o w1 ⟨x, rfl, hx, rfl⟩
      have hx : x = F.1 1 i := by
        rcases hx with ⟨f, f1, f2, f3⟩ | ⟨f1, -⟩
        · have : i = f := by
            have := congrArg Int32.toInt f2
            rw [zi_nI (by omega), zi_nI (by omega)] at this; omega
          rw [this]; exact f3
        · exact absurd ⟨i, by omega, rfl⟩ f1
      subst hx
      refine hy_cl (r_n_comeBack (sa N 7 (bbf (F.1 1) (N.1 7) n i)) F S T C R (F.1 1 i) n hN) rfl ?_
      rintro o w1 ⟨rfl, hw⟩
      have nx := ih (i + 1) a1 a2
      rw [← nI_s] at nx
      rcases hw with ⟨k, k1, k2, k3, rfl⟩ | ⟨k1, rfl⟩
      · rw [bbf_y hN.2.1 k1 k2 k3] at nx
        exact nx
      · rw [bbf_n k1] at nx
        exact nx
theorem y_bring (s : Nat → Nat) (c n : Nat) (hN : iN N n) (hF : iF F s c) : hy_R 6 mX5_bringBackTheSure 0 0 [hy_r 0] (wW N F S T C R) (fun o w1 => o = none ∧ w1 = wW (sa N 7 (bbf (F.1 1) (N.1 7) n c)) F S T C R) := by
  refine hy_Rv (L := [some (hy_r 0), none]) rfl (by decide) (hy_ple rfl) rfl ?_
  refine hy_go hy_pfA oX5_bringBackTheSure [2] 60 0 0 _ ?_
  have := l_bring N F S T C R (fun o w1 => o = none ∧ w1 = wW (sa N 7 (bbf (F.1 1) (N.1 7) n c)) F S T C R) s c n hN hF ⟨rfl, rfl⟩ c 0 (by omega) (by omega)
  rw [bbf_0] at this
  exact this
/-- what telling a find does to the yard -/
def sp_findY (N F : hyB) (s : Nat → Nat) (c n x : Nat) (y no r : Int32) (N' F' : hyB) : Prop :=
  (c_find y no ∧ sp_tell F s c x r F' ∧ ((r = -1 ∧ N' = N) ∨ (¬ r = -1 ∧ N' = sa N 7 (bbf (F'.1 1) (N.1 7) n (c + 1))))) ∨ (¬ c_find y no ∧ r = -1 ∧ N' = N ∧ F' = F)
set_option maxRecDepth 100000 in
theorem y_find (y no : Int32) (s : Nat → Nat) (c n : Nat) (hN : iN N n) (hF : iF F s c) : hy_R 7 mX5_find 0 0 [hy_r 0, .inl y, .inl no] (wW N F S T C R) (fun o w1 => ∃ r, o = some r ∧ ∃ N' F', sp_findY N F s c n (bitf (fit (N.1 7) (N.1 3) y no) n) y no r N' F' ∧ w1 = wW N' F' S T C R) := by
  have hx : bitf (fit (N.1 7) (N.1 3) y no) n < 2 ^ 24 := Nat.lt_of_lt_of_le (bitf_lt _ _) (Nat.pow_le_pow_right (by omega) hN.2.1)
  refine hy_Ri (L := [some (hy_r 0), some (.inl y), some (.inl no), none]) rfl (by decide) (hy_ple rfl) rfl ?_
  refine hy_go hy_pfA oX5_find [] 60 0 0 _ ?_
  refine And.intro (fun q => ?_) (fun q => And.intro (fun q2 => ?_) (fun q2 => And.intro (fun q3 => ?_) (fun q3 => ?_)))
  · exact hy_fin ⟨N, F, Or.inr ⟨fun h => g_within_0 q h.1, rfl, rfl, rfl⟩, rfl⟩
  · exact hy_fin ⟨N, F, Or.inr ⟨fun h => g_within_0 q2 h.2.1, rfl, rfl, rfl⟩, rfl⟩
  · have hcf : c_find y no := ⟨g_within_n0 q, g_within_n0 q2, q3⟩
    refine hy_cl (r_n_afloat N F S T C R y no n hN) rfl ?_
    rintro o w1 ⟨x, rfl, rfl, rfl⟩
    generalize bitf (fit (N.1 7) (N.1 3) y no) n = x at hx ⊢
    refine hy_cl (r_f_tell N F S T C R s c x hF hx) rfl ?_
    rintro o w1 ⟨r, rfl, F', hF', rfl⟩
    refine And.intro (fun q4 => ?_) (fun q4 => ?_)
    · exact hy_fin ⟨N, F', Or.inl ⟨hcf, hF', Or.inl ⟨q4, rfl⟩⟩, rfl⟩
    · have hI : iF F' (us s c x) (c + 1) := by
        rcases hF' with ⟨h1, h2, h3, g, h4, h5⟩ | ⟨h1, h2, h3, -⟩ | ⟨h1, h2, -⟩
        · obtain ⟨d1, d2, d3, d4⟩ := iF_upd hF hx
          rw [h5]
          exact ⟨rfl, by omega, d3, d4⟩
        · exact absurd h3 q4
        · exact absurd h2 q4
      refine hy_cl (y_bring N F' S T C R (us s c x) (c + 1) n hN hI) rfl ?_
      rintro o w1 ⟨rfl, rfl⟩
      exact hy_fin ⟨_, F', Or.inl ⟨hcf, hF', Or.inr ⟨q4, rfl⟩⟩, rfl⟩
  · exact hy_fin ⟨N, F, Or.inr ⟨fun h => q3 h.2.2, rfl, rfl, rfl⟩, rfl⟩
theorem y_found (a b : Int32) (s : Nat → Nat) (c : Nat) (hF : iF F s c) : hy_R 6 mX5_found 0 0 [hy_r 0, .inl a, .inl b] (wW N F S T C R) (fun o w1 => ∃ x, o = some x ∧ ((b.toInt = 0 ∧ ((∃ f, f < c ∧ a = nI f ∧ x = nI (pcn (s f))) ∨ (¬ ∃ f, f < c ∧ a = nI f) ∧ x = -1)) ∨ (b.toInt = 1 ∧ ((∃ f, f < c ∧ a = nI f ∧ x = F.1 1 f) ∨ (¬ ∃ f, f < c ∧ a = nI f) ∧ x = -1)) ∨ (¬ b.toInt = 0 ∧ ¬ b.toInt = 1 ∧ x = -1)) ∧ w1 = wW N F S T C R) := by
  refine hy_Ri (L := [some (hy_r 0), some (.inl a), some (.inl b)]) rfl (by decide) (hy_ple rfl) rfl ?_
  refine hy_go hy_pfA oX5_found [] 60 0 0 _ ?_
  refine And.intro (fun h0 => ?_) (fun h0 => And.intro (fun h1 => ?_) (fun h1 => ?_))
  · refine hy_cl (r_f_howMany N F S T C R a s c hF) rfl ?_
    rintro o w1 ⟨x, rfl, hx, rfl⟩
    exact hy_fin ⟨Or.inl ⟨h0, hx⟩, rfl⟩
  · refine hy_cl (r_f_sureNet N F S T C R a s c hF) rfl ?_
    rintro o w1 ⟨x, rfl, hx, rfl⟩
    exact hy_fin ⟨Or.inr (Or.inl ⟨h1, hx⟩), rfl⟩
  · exact hy_fin ⟨Or.inr (Or.inr ⟨h0, h1, rfl⟩), rfl⟩
theorem y_netOf (a b : Int32) (s : Nat → Nat) (c n : Nat) (hN : iN N n) (hF : iF F s c) : hy_R 6 mX5_netOf 0 0 [hy_r 0, .inl a, .inl b] (wW N F S T C R) (fun o w1 => ∃ x, o = some x ∧ ((b = 6 ∧ sp_sf (F.1 1) c a x) ∨ (¬ b = 6 ∧ ((∃ k, k < n ∧ a = nI k ∧ x = tlf N.1 b.toInt k) ∨ (¬ ∃ k, k < n ∧ a = nI k) ∧ x = -1))) ∧ w1 = wW N F S T C R) := by
  refine hy_Ri (L := [some (hy_r 0), some (.inl a), some (.inl b)]) rfl (by decide) (hy_ple rfl) rfl ?_
  refine hy_go hy_pfA oX5_netOf [] 60 0 0 _ ?_
  refine And.intro (fun h0 => ?_) (fun h0 => ?_)
  · refine hy_cl (r_f_sureFind N F S T C R a s c hF) rfl ?_
    rintro o w1 ⟨x, rfl, hx, rfl⟩
    exact hy_fin ⟨Or.inl ⟨h0, hx⟩, rfl⟩
  · refine hy_cl (r_n_tellOf N F S T C R a b n hN) rfl ?_
    rintro o w1 ⟨x, rfl, hx, rfl⟩
    exact hy_fin ⟨Or.inr ⟨h0, hx⟩, rfl⟩
theorem y_reading (x y : Int32) (hC : iC C) : hy_R 5 mX5_reading 0 0 [hy_r 0, .inl x, .inl y] (wW N F S T C R) (fun o w1 => ∃ r, o = some r ∧ ∃ lo' hi' cn', sp_reading (C.2 0) (C.2 1) (C.2 2) x y r lo' hi' cn' ∧ w1 = wW N F S T (ss (ss (ss C 0 lo') 1 hi') 2 cn') R) := by
  refine hy_Ri (L := [some (hy_r 0), some (.inl x), some (.inl y)]) rfl (by decide) (hy_ple rfl) rfl ?_
  refine hy_go hy_pfA oX5_reading [] 60 0 0 _ ?_
  refine hy_cl (r_sc_tell N F S T C R x y hC) rfl ?_
  rintro o w1 ⟨x, rfl, hx⟩
  exact hy_fin hx
theorem y_errs (h : Int32) : hy_R 4 mX5_errs 0 0 [hy_r 0, .inl h] (wW N F S T C R) (fun o w1 => ∃ x, o = some x ∧ x = (if h = 0 then C.2 0 else C.2 1) ∧ w1 = wW N F S T C R) := by
  refine hy_Ri (L := [some (hy_r 0), some (.inl h)]) rfl (by decide) (hy_ple rfl) rfl ?_
  refine hy_go hy_pfA oX5_errs [] 60 0 0 _ ?_
  refine hy_cl (r_sc_bound N F S T C R h) rfl ?_
  rintro o w1 ⟨x, rfl, hx⟩
  exact hy_fin hx
theorem y_back (y h : Int32) (hC : iC C) : hy_R 6 mX5_back 0 0 [hy_r 0, .inl y, .inl h] (wW N F S T C R) (fun o w1 => ∃ r, o = some r ∧ sp_back (C.2 0) (C.2 1) y h r ∧ w1 = wW N F S T C R) := by
  refine hy_Ri (L := [some (hy_r 0), some (.inl y), some (.inl h)]) rfl (by decide) (hy_ple rfl) rfl ?_
  refine hy_go hy_pfA oX5_back [] 60 0 0 _ ?_
  refine hy_cl (r_sc_weightFor N F S T C R y h hC) rfl ?_
  rintro o w1 ⟨x, rfl, hx⟩
  exact hy_fin hx
end
end
section
/-! ===== rows of orders: their order by numbers ===== -/
def rv : List Nat → Nat
  | [] => 0
  | x :: p => x * 8 ^ p.length + rv p
def sm (p : List Nat) : Prop := ∀ x ∈ p, x < 8
theorem rv_lt : ∀ {p : List Nat}, sm p → rv p < 8 ^ p.length
  | [], _ => by show 0 < 1; omega
  | x :: p, h => by
    have h1 := rv_lt (p := p) (fun y hy => h y (List.mem_cons_of_mem _ hy))
    have h2 : x < 8 := h x List.mem_cons_self
    show x * 8 ^ p.length + rv p < 8 ^ (p.length + 1)
    rw [Nat.pow_succ]
    have h3 : x * 8 ^ p.length ≤ 7 * 8 ^ p.length := Nat.mul_le_mul_right _ (by omega)
    omega
theorem rv_head {x y : Nat} {p q : List Nat} (hl : p.length = q.length) (hp : sm p) (h : x < y) : rv (x :: p) < rv (y :: q) := by
  have h1 := rv_lt hp
  show x * 8 ^ p.length + rv p < y * 8 ^ q.length + rv q
  rw [← hl]
  have h3 : (x + 1) * 8 ^ p.length ≤ y * 8 ^ p.length := Nat.mul_le_mul_right _ (by omega)
  rw [Nat.add_mul, Nat.one_mul] at h3
  omega
theorem rv_tail {x : Nat} {p q : List Nat} (hl : p.length = q.length) : (rv (x :: p) < rv (x :: q) ↔ rv p < rv q) ∧ (rv (x :: p) ≤ rv (x :: q) ↔ rv p ≤ rv q) := by
  show (x * 8 ^ p.length + rv p < x * 8 ^ q.length + rv q ↔ _) ∧ (x * 8 ^ p.length + rv p ≤ x * 8 ^ q.length + rv q ↔ _)
  rw [hl]; omega
theorem rv_pre {r p q : List Nat} (hl : p.length = q.length) : (rv (r ++ p) < rv (r ++ q) ↔ rv p < rv q) ∧ (rv (r ++ p) ≤ rv (r ++ q) ↔ rv p ≤ rv q) := by
  induction r with
  | nil => exact ⟨Iff.rfl, Iff.rfl⟩
  | cons x r ih =>
    have h : (r ++ p).length = (r ++ q).length := by simp [hl]
    have := rv_tail (x := x) h
    exact ⟨this.1.trans ih.1, this.2.trans ih.2⟩
theorem rv_inj : ∀ {p q : List Nat}, p.length = q.length → sm p → sm q → rv p = rv q → p = q
  | [], [], _, _, _, _ => rfl
  | [], _ :: _, h, _, _, _ => by simp at h
  | _ :: _, [], h, _, _, _ => by simp at h
  | x :: p, y :: q, hl, hp, hq, h => by
    have hl1 : p.length = q.length := by simpa using hl
    have hp2 : sm p := fun z hz => hp z (List.mem_cons_of_mem _ hz)
    have hq2 : sm q := fun z hz => hq z (List.mem_cons_of_mem _ hz)
    rcases Nat.lt_trichotomy x y with e | e | e
    · have := rv_head (x := x) (y := y) hl1 hp2 e; omega
    · subst e
      have h2 : rv p = rv q := by
        have h' : x * 8 ^ p.length + rv p = x * 8 ^ q.length + rv q := h
        rw [hl1] at h'; omega
      rw [rv_inj hl1 hp2 hq2 h2]
    · have := rv_head (x := y) (y := x) hl1.symm hq2 e; omega
/-- the rising row is the first, the falling one the last -/
theorem rv_min : ∀ {s q : List Nat}, s.Pairwise (· < ·) → sm s → q.Perm s → rv s ≤ rv q
  | [], q, _, _, h => by rw [List.perm_nil.mp h]; exact Nat.le_refl _
  | x :: s, [], _, _, h => by have := h.length_eq; simp at this
  | x :: s, y :: q, hs, hm, h => by
    have hl : s.length = q.length := by have := h.length_eq; simp at this; exact this.symm
    have hm2 : sm s := fun z hz => hm z (List.mem_cons_of_mem _ hz)
    have hy : y ∈ x :: s := h.mem_iff.mp List.mem_cons_self
    rcases List.mem_cons.mp hy with e | e
    · subst e
      exact (rv_tail hl).2.mpr (rv_min (List.pairwise_cons.mp hs).2 hm2 (List.Perm.cons_inv h))
    · exact Nat.le_of_lt (rv_head hl hm2 ((List.pairwise_cons.mp hs).1 y e))
theorem rv_max : ∀ {s q : List Nat}, s.Pairwise (· > ·) → sm s → q.Perm s → rv q ≤ rv s
  | [], q, _, _, h => by rw [List.perm_nil.mp h]; exact Nat.le_refl _
  | x :: s, [], _, _, h => by have := h.length_eq; simp at this
  | x :: s, y :: q, hs, hm, h => by
    have hl : q.length = s.length := by have := h.length_eq; simp at this; exact this
    have hy : y ∈ x :: s := h.mem_iff.mp List.mem_cons_self
    have hq : sm q := fun z hz => hm z (h.mem_iff.mp (List.mem_cons_of_mem _ hz))
    rcases List.mem_cons.mp hy with e | e
    · subst e
      exact (rv_tail hl).2.mpr (rv_max (List.pairwise_cons.mp hs).2 (fun z hz => hm z (List.mem_cons_of_mem _ hz)) (List.Perm.cons_inv h))
    · exact Nat.le_of_lt (rv_head hl hq ((List.pairwise_cons.mp hs).1 y e))
/-- the row behind a row -/
theorem rv_next {pre u v : List Nat} {a b : Nat} (hd : (u ++ b :: v).Pairwise (· > ·)) (hb : a < b) (hv : ∀ x ∈ v, x < a) (hm : sm (pre ++ a :: (u ++ b :: v))) : rv (pre ++ a :: (u ++ b :: v)) < rv (pre ++ b :: (u ++ a :: v).reverse) ∧ ∀ q : List Nat, q.Perm (pre ++ a :: (u ++ b :: v)) → rv (pre ++ a :: (u ++ b :: v)) < rv q → rv (pre ++ b :: (u ++ a :: v).reverse) ≤ rv q := by
  have hlen : (u ++ b :: v).length = (u ++ a :: v).reverse.length := by simp; omega
  have hm1 : sm (u ++ b :: v) := fun x hx => hm x (List.mem_append_right _ (List.mem_cons_of_mem _ hx))
  obtain ⟨d1, d2, d3⟩ := List.pairwise_append.mp hd
  obtain ⟨d4, d5⟩ := List.pairwise_cons.mp d2
  have hasc : (u ++ a :: v).reverse.Pairwise (· < ·) := by
    rw [List.pairwise_reverse]
    refine List.pairwise_append.mpr ⟨d1, List.pairwise_cons.mpr ⟨fun x hx => hv x hx, d5⟩, fun x hx y hy => ?_⟩
    rcases List.mem_cons.mp hy with rfl | hy
    · have := d3 x hx b List.mem_cons_self
      show y < x
      omega
    · exact d3 x hx y (List.mem_cons_of_mem _ hy)
  have hm2 : sm (u ++ a :: v).reverse := fun x hx => by
    rw [List.mem_reverse, List.mem_append, List.mem_cons] at hx
    rcases hx with hx | hx | hx
    · exact hm1 x (List.mem_append_left _ hx)
    · rw [hx]; exact hm a (List.mem_append_right _ List.mem_cons_self)
    · exact hm1 x (List.mem_append_right _ (List.mem_cons_of_mem _ hx))
  constructor
  · have hl2 : (a :: (u ++ b :: v)).length = (b :: (u ++ a :: v).reverse).length := by simp; omega
    exact (rv_pre hl2).1.mpr (rv_head hlen hm1 hb)
  · induction pre with
    | nil =>
      intro q hq hlt
      match q, hq, hlt with
      | [], hq, _ => have := hq.length_eq; simp at this
      | y :: q, hq, hlt =>
        have hl3 : (u ++ a :: v).reverse.length = q.length := by have := hq.length_eq; simp at this ⊢; omega
        have hl4 : (u ++ b :: v).length = q.length := by have := hq.length_eq; simp at this ⊢; omega
        have hy : y ∈ a :: (u ++ b :: v) := hq.mem_iff.mp List.mem_cons_self
        have hmq : sm q := fun z hz => hm z (hq.mem_iff.mp (List.mem_cons_of_mem _ hz))
        rcases List.mem_cons.mp hy with e | e
        · subst e
          have h1 := rv_max hd hm1 (List.Perm.cons_inv hq)
          have h2 := (rv_tail (x := y) hl4).1.mp hlt
          omega
        · rcases Nat.lt_trichotomy y b with e2 | e2 | e2
          · have h3 : y < a := by
              rcases List.mem_append.mp e with e3 | e3
              · have := d3 y e3 b List.mem_cons_self; omega
              · rcases List.mem_cons.mp e3 with e4 | e4
                · omega
                · exact hv y e4
            have := rv_head (x := y) (y := a) hl4.symm hmq h3
            have hlt : rv (a :: (u ++ b :: v)) < rv (y :: q) := hlt
            omega
          · subst e2
            have hq2 : q.Perm (u ++ a :: v).reverse := by
              have h4 : (y :: q).Perm (y :: (u ++ a :: v)) := by
                refine hq.trans ?_
                show (a :: (u ++ y :: v)).Perm (y :: (u ++ a :: v))
                have p1 : (a :: (u ++ y :: v)).Perm (a :: (y :: (u ++ v))) := List.Perm.cons a List.perm_middle
                have p2 : (y :: (u ++ a :: v)).Perm (y :: (a :: (u ++ v))) := List.Perm.cons y List.perm_middle
                exact p1.trans ((List.Perm.swap y a (u ++ v)).trans p2.symm)
              exact (List.Perm.cons_inv h4).trans (List.reverse_perm _).symm
            exact (rv_tail hl3).2.mpr (rv_min hasc hm2 hq2)
          · exact Nat.le_of_lt (rv_head hl3 hm2 e2)
    | cons x pre ih =>
      intro q hq hlt
      match q, hq, hlt with
      | [], hq, _ => have := hq.length_eq; simp at this
      | y :: q, hq, hlt =>
        have hm' : sm (pre ++ a :: (u ++ b :: v)) := fun z hz => hm z (List.mem_cons_of_mem _ hz)
        have hl4 : (pre ++ a :: (u ++ b :: v)).length = q.length := by have := hq.length_eq; simp at this ⊢; omega
        have hl3 : (pre ++ b :: (u ++ a :: v).reverse).length = q.length := by have := hq.length_eq; simp at this ⊢; omega
        have hmq : sm q := fun z hz => hm z (hq.mem_iff.mp (List.mem_cons_of_mem _ hz))
        have hmn : sm (pre ++ b :: (u ++ a :: v).reverse) := fun z hz => by
          rcases List.mem_append.mp hz with hz | hz
          · exact hm' z (List.mem_append_left _ hz)
          · rcases List.mem_cons.mp hz with hz | hz
            · rw [hz]; exact hm1 b (List.mem_append_right _ List.mem_cons_self)
            · exact hm2 z hz
        rcases Nat.lt_trichotomy x y with e | e | e
        · exact Nat.le_of_lt (rv_head hl3 hmn e)
        · subst e
          exact (rv_tail hl3).2.mpr (ih hm' q (List.Perm.cons_inv hq) ((rv_tail hl4).1.mp hlt))
        · have := rv_head (x := y) (y := x) hl4.symm hmq e
          have hlt : rv (x :: (pre ++ a :: (u ++ b :: v))) < rv (y :: q) := hlt
          omega
/-! ===== how late a row is ===== -/
section
variable (so ho du wo : Nat → Nat) (ch : Nat)
def en (h s o : Nat) : Nat := (if so o = s then h else h + ch) + ho o
def la (h s l o : Nat) : Nat := l + (en so ho ch h s o - du o) * wo o
def lf : Nat → Nat → Nat → List Nat → Nat
  | _, _, l, [] => l
  | h, s, l, o :: p => lf (en so ho ch h s o) (so o) (la so ho du wo ch h s l o) p
theorem lf_ge : ∀ (p : List Nat) (h s l : Nat), l ≤ lf so ho du wo ch h s l p
  | [], _, _, _ => Nat.le_refl _
  | o :: p, h, s, l => Nat.le_trans (Nat.le_add_right _ _) (lf_ge p _ _ _)
/-- hour, sort and lateness behind a row -/
def rn : List Nat → Nat × Nat × Nat → Nat × Nat × Nat
  | [], x => x
  | o :: p, (h, s, l) => rn p (en so ho ch h s o, so o, la so ho du wo ch h s l o)
theorem rn_app : ∀ (p q : List Nat) (x : Nat × Nat × Nat), rn so ho du wo ch (p ++ q) x = rn so ho du wo ch q (rn so ho du wo ch p x)
  | [], _, _ => rfl
  | o :: p, q, (h, s, l) => rn_app p q _
theorem rn_lf : ∀ (p : List Nat) (h s l : Nat), (rn so ho du wo ch p (h, s, l)).2.2 = lf so ho du wo ch h s l p
  | [], _, _, _ => rfl
  | _ :: p, _, _, _ => rn_lf p _ _ _
def tot (p : List Nat) : Nat := lf so ho du wo ch 0 0 0 p
theorem tot_app (p q : List Nat) : tot so ho du wo ch (p ++ q) = lf so ho du wo ch (rn so ho du wo ch p (0, 0, 0)).1 (rn so ho du wo ch p (0, 0, 0)).2.1 (rn so ho du wo ch p (0, 0, 0)).2.2 q := by
  unfold tot
  rw [← rn_lf, rn_app]
  obtain ⟨h, s, l⟩ := rn so ho du wo ch p (0, 0, 0)
  exact rn_lf so ho du wo ch q h s l
theorem rn_bd (hho : ∀ o, ho o ≤ 100) (hwo : ∀ o, wo o ≤ 9) (hch : ch ≤ 50) : ∀ (p : List Nat) (h s l j : Nat), h ≤ 150 * j → l ≤ 9450 * j → j + p.length ≤ 7 → (rn so ho du wo ch p (h, s, l)).1 ≤ 150 * (j + p.length) ∧ (rn so ho du wo ch p (h, s, l)).2.2 ≤ 9450 * (j + p.length)
  | [], h, s, l, j, h1, h2, h3 => ⟨h1, h2⟩
  | o :: p, h, s, l, j, h1, h2, h3 => by
    have hl : (o :: p).length = p.length + 1 := rfl
    have a1 : en so ho ch h s o ≤ 150 * (j + 1) := by
      unfold en
      have := hho o
      split <;> omega
    have a2 : la so ho du wo ch h s l o ≤ 9450 * (j + 1) := by
      unfold la
      have b1 : en so ho ch h s o - du o ≤ 1050 := by omega
      have b2 : (en so ho ch h s o - du o) * wo o ≤ 1050 * 9 := Nat.mul_le_mul b1 (hwo o)
      omega
    have := rn_bd hho hwo hch p (en so ho ch h s o) (so o) (la so ho du wo ch h s l o) (j + 1) a1 a2 (by omega)
    rw [hl, show j + (p.length + 1) = j + 1 + p.length by omega]
    exact this
end
/-- of the rows in E: what a search makes out of the best so far -/
def usp (t : List Nat → Nat) (E : List Nat → Prop) (B : Nat) (b : List Nat) (B' : Nat) (b' : List Nat) : Prop :=
  (B' = B ∧ b' = b ∧ ∀ p, E p → B ≤ t p) ∨ (B' < B ∧ E b' ∧ t b' = B' ∧ ∀ p, E p → B' ≤ t p ∧ (t p = B' → rv b' ≤ rv p))
theorem usp_cat {t : List Nat → Nat} {E1 E2 E : List Nat → Prop} {B B1 B2 : Nat} {b b1 b2 : List Nat} (h1 : usp t E1 B b B1 b1) (h2 : usp t E2 B1 b1 B2 b2) (hE : ∀ p, E p ↔ E1 p ∨ E2 p) (hv : ∀ p q, E1 p → E2 q → rv p ≤ rv q) : usp t E B b B2 b2 := by
  rcases h1 with ⟨rfl, rfl, a3⟩ | ⟨a1, a2, a3, a4⟩
  · rcases h2 with ⟨rfl, rfl, c3⟩ | ⟨c1, c2, c3, c4⟩
    · exact Or.inl ⟨rfl, rfl, fun p hp => ((hE p).mp hp).elim (a3 p) (c3 p)⟩
    · refine Or.inr ⟨c1, (hE b2).mpr (Or.inr c2), c3, fun p hp => ?_⟩
      rcases (hE p).mp hp with hp | hp
      · have := a3 p hp
        exact ⟨by omega, fun q => by omega⟩
      · exact c4 p hp
  · rcases h2 with ⟨rfl, rfl, c3⟩ | ⟨c1, c2, c3, c4⟩
    · refine Or.inr ⟨a1, (hE _).mpr (Or.inl a2), a3, fun p hp => ?_⟩
      rcases (hE p).mp hp with hp | hp
      · exact a4 p hp
      · exact ⟨c3 p hp, fun _ => hv _ p a2 hp⟩
    · refine Or.inr ⟨by omega, (hE b2).mpr (Or.inr c2), c3, fun p hp => ?_⟩
      rcases (hE p).mp hp with hp | hp
      · have := (a4 p hp).1
        exact ⟨by omega, fun q => by omega⟩
      · exact c4 p hp
theorem usp_none {t : List Nat → Nat} {E : List Nat → Prop} {B : Nat} {b : List Nat} (h : ∀ p, E p → B ≤ t p) : usp t E B b B b := Or.inl ⟨rfl, rfl, h⟩
theorem usp_iff {t : List Nat → Nat} {E E' : List Nat → Prop} {B B' : Nat} {b b' : List Nat} (h : usp t E B b B' b') (he : ∀ p, E p ↔ E' p) : usp t E' B b B' b' := by
  rcases h with ⟨a1, a2, a3⟩ | ⟨a1, a2, a3, a4⟩
  · exact Or.inl ⟨a1, a2, fun p hp => a3 p ((he p).mpr hp)⟩
  · exact Or.inr ⟨a1, (he _).mp a2, a3, fun p hp => a4 p ((he p).mpr hp)⟩
/-- THE BEST of all rows of c orders -/
def bestR (t : List Nat → Nat) (c B : Nat) (b : List Nat) : Prop := b.Perm (List.range c) ∧ t b = B ∧ ∀ p, p.Perm (List.range c) → B ≤ t p ∧ (t p = B → rv b ≤ rv p)
theorem bestR_eq {t : List Nat → Nat} {c B B2 : Nat} {b b2 : List Nat} (hc : c ≤ 8) (h : bestR t c B b) (h2 : bestR t c B2 b2) : B = B2 ∧ b = b2 := by
  obtain ⟨a1, a2, a3⟩ := h
  obtain ⟨c1, c2, c3⟩ := h2
  have e1 := a3 b2 c1
  have e2 := c3 b a1
  have e : B = B2 := by omega
  have hs : ∀ p : List Nat, p.Perm (List.range c) → sm p := fun p hp x hx => by
    have := hp.mem_iff.mp hx
    rw [List.mem_range] at this; omega
  refine ⟨e, rv_inj (by rw [a1.length_eq, c1.length_eq]) (hs _ a1) (hs _ c1) ?_⟩
  have h1 := e1.2 (by omega)
  have h2 := e2.2 (by omega)
  omega
end
section
/-! ===== the spin yard of the class ===== -/
def iO (a0 a1 a2 a3 : Nat → Int32) (so ho du wo : Nat → Nat) : Prop := ∀ o, a0 o = nI (so o) ∧ a1 o = nI (ho o) ∧ a2 o = nI (du o) ∧ a3 o = nI (wo o) ∧ so o ≤ 3 ∧ ho o ≤ 100 ∧ du o ≤ 1000 ∧ wo o ≤ 9
def iSd (S : hyB) (so ho du wo : Nat → Nat) (ch c : Nat) : Prop := iO (S.1 0) (S.1 1) (S.1 2) (S.1 3) so ho du wo ∧ S.2 7 = nI ch ∧ ch ≤ 50 ∧ S.2 6 = nI c ∧ c ≤ 7
def SB (S : hyB) (B : Nat) (r bf : Nat → Int32) : hyB := sa (sa (ss S 8 (nI B)) 4 r) 5 bf
/-- a row of ints that holds a list -/
def rowIs (r : Nat → Int32) (p : List Nat) : Prop := ∀ i x, p[i]? = some x → r i = nI x
theorem nI_eqI {a b : Nat} (ha : a < 2147483648) (hb : b < 2147483648) : nI a = nI b ↔ a = b := nI_eq ha hb
theorem max_I {E D : Nat} (hE : E < 1000000) (hD : D < 1000000) : (if (0 : Int32) < nI E - nI D then nI E - nI D else 0) = nI (E - D) := by
  have e : (nI E - nI D).toInt = (E : Int) - D := pk_sub_toInt (by omega) (by omega)
  by_cases h : D < E
  · rw [if_pos (zi_lt.mpr (by rw [e, zi_lit0]; omega)), pk_sub (by omega)]
  · rw [if_neg (fun q => by have := zi_lt.mp q; rw [e, zi_lit0] at this; omega), show E - D = 0 by omega]; rfl
section
variable (N F S T C : hyB) (R : hyW)
theorem r_s_count : hy_R 3 mX4_count 0 0 [hy_r 13] (wW N F S T C R) (fun o w1 => ∃ x, o = some x ∧ x = S.2 6 ∧ w1 = wW N F S T C R) := by
  refine hy_Ri (L := [some (hy_r 13)]) rfl (by decide) (hy_ple rfl) rfl ?_
  refine hy_go hy_pfA oX4_count [] 60 0 0 _ ?_
  exact hy_fin ⟨rfl, rfl⟩
theorem r_s_endOf (so ho du wo : Nat → Nat) (ch c o h s : Nat) (hS : iSd S so ho du wo ch c) (ho7 : o < 7) (hh : h < 100000) (hs : s < 100000) : hy_R 3 mX4_endOf 0 0 [hy_r 13, .inl (nI o), .inl (nI h), .inl (nI s)] (wW N F S T C R) (fun v w1 => ∃ x, v = some x ∧ x = nI (en so ho ch h s o) ∧ w1 = wW N F S T C R) := by
  obtain ⟨d0, d1, d2, d3, d4⟩ := id hS
  obtain ⟨o1, o2, o3, o4, o5, o6, o7, o8⟩ := d0 o
  have hcl : (nI o).toNatClampNeg = o := cl_nI (by omega)
  have hin : vp_in (nI o) 7 := vn_in ho7 (by decide)
  refine hy_Ri (L := [some (hy_r 13), some (.inl (nI o)), some (.inl (nI h)), some (.inl (nI s)), none]) rfl (by decide) (hy_ple rfl) rfl ?_
  refine hy_go hy_pfA oX4_endOf [] 60 0 0 _ ?_
  refine And.intro hin ?_
  refine And.intro (fun q => ?_) (fun q => ?_)
  · rw [hcl, o1, nI_eqI (by omega) (by omega)] at q
    refine And.intro hin ?_
    refine hy_fin ⟨?_, rfl⟩
    show nI h + S.1 1 (nI o).toNatClampNeg = _
    rw [hcl, o2, nI_add]
    unfold en
    rw [if_pos q]
  · rw [hcl, o1, nI_eqI (by omega) (by omega)] at q
    refine And.intro hin ?_
    refine hy_fin ⟨?_, rfl⟩
    show nI h + S.2 7 + S.1 1 (nI o).toNatClampNeg = _
    rw [hcl, o2, d1, nI_add, nI_add]
    unfold en
    rw [if_neg q]
def cpf (r b : Nat → Int32) (i : Nat) : Nat → Int32 := fun k => if k < i then r k else b k
theorem cpf_s {r b : Nat → Int32} {i : Nat} : cpf r b (i + 1) = upd (cpf r b i) i (r i) := by
  funext k
  unfold upd cpf
  by_cases e : k = i
  · rw [if_pos e, e, if_pos (by omega)]
  · rw [if_neg e]
    by_cases q : k < i
    · rw [if_pos q, if_pos (by omega)]
    · rw [if_neg q, if_neg (by omega)]
theorem cpf_0 {r b : Nat → Int32} : cpf r b 0 = b := by
  funext k; unfold cpf; rw [if_neg (by omega)]
theorem l_s_keep (Q : hyQ) (v : Option hyV) (c : Nat) (h1 : S.2 6 = nI c) (h2 : c ≤ 7) (K : Q none (wW N F (sa S 5 (cpf (S.1 4) (S.1 5) c)) T C R)) :
    ∀ (j i : Nat), c - i = j → i ≤ c → hy_X none 4 mX4_keepRow Q 0 0 (7, [some (hy_r 13), v, some (.inl (nI i))], [], wW N F (sa S 5 (cpf (S.1 4) (S.1 5) i)) T C R) := by
  intro j
  induction j with
  | zero =>
    intro i hj hi
    have : i = c := by omega
    subst this
    refine hy_go hy_pfA oX4_keepRow [7] 60 0 0 _ ?_
    refine And.intro (fun q => K) (fun q => absurd ?_ q)
    show S.2 6 ≤ nI i
    rw [h1]; exact Int32.le_refl _
  | succ j ih =>
    intro i hj hi
    have hcl : (nI i).toNatClampNeg = i := cl_nI (by omega)
    have hin : vp_in (nI i) 7 := vn_in (by omega) (by decide)
    refine hy_go hy_pfA oX4_keepRow [7] 60 0 0 _ ?_
    refine And.intro (fun q => ?_) (fun q => ?_)
    · have q : S.2 6 ≤ nI i := q
      rw [h1, nI_le24 (by omega) (by omega)] at q
      omega
    · refine And.intro hin (And.intro hin ?_)
      have nx := ih (i + 1) (by omega) (by omega)
      rw [← nI_s, cpf_s] at nx
      have e : upd (cpf (S.1 4) (S.1 5) i) (nI i).toNatClampNeg (S.1 4 (nI i).toNatClampNeg) = upd (cpf (S.1 4) (S.1 5) i) i (S.1 4 i) := by rw [hcl]
      rw [← e] at nx
      exact nx
theorem r_s_keep (c l : Nat) (h1 : S.2 6 = nI c) (h2 : c ≤ 7) : hy_R 4 mX4_keepRow 0 0 [hy_r 13, .inl (nI l)] (wW N F S T C R) (fun o w1 => o = none ∧ w1 = wW N F (SB S l (S.1 4) (cpf (S.1 4) (S.1 5) c)) T C R) := by
  refine hy_Rv (L := [some (hy_r 13), some (.inl (nI l)), none]) rfl (by decide) (hy_ple rfl) rfl ?_
  refine hy_go hy_pfA oX4_keepRow [7] 60 0 0 _ ?_
  have := l_s_keep N F (ss S 8 (nI l)) T C R (fun o w1 => o = none ∧ w1 = wW N F (SB S l (S.1 4) (cpf (S.1 4) (S.1 5) c)) T C R) (some (.inl (nI l))) c h1 h2 ⟨rfl, rfl⟩ c 0 (by omega) (by omega)
  rw [cpf_0] at this
  exact this
end
/-- rows that begin so -/
def eS (c : Nat) (π p : List Nat) : Prop := p.Perm (List.range c) ∧ ∃ q, p = π ++ q
def eJ (c j : Nat) (π p : List Nat) : Prop := ∃ o, o < j ∧ o ∉ π ∧ eS c (π ++ [o]) p
theorem eS_nodup {c : Nat} {π q : List Nat} (h : (π ++ q).Perm (List.range c)) : (π ++ q).Nodup := h.nodup_iff.mpr List.nodup_range
theorem eS_split {c : Nat} {π p : List Nat} (hπ : π.length < c) : eS c π p ↔ eJ c c π p := by
  constructor
  · rintro ⟨h1, q, rfl⟩
    match q, h1 with
    | [], h1 => have := h1.length_eq; simp at this; omega
    | o :: q, h1 =>
      have ho : o ∈ List.range c := h1.mem_iff.mp (by simp)
      refine ⟨o, List.mem_range.mp ho, fun hm => ?_, h1, q, by simp⟩
      have := (List.nodup_append.mp (eS_nodup h1)).2.2 o hm o List.mem_cons_self
      exact this rfl
  · rintro ⟨o, -, -, h1, q, h2⟩
    exact ⟨h1, o :: q, by rw [h2]; simp⟩
theorem eJ_s {c j : Nat} {π p : List Nat} : eJ c (j + 1) π p ↔ eJ c j π p ∨ (j ∉ π ∧ eS c (π ++ [j]) p) := by
  constructor
  · rintro ⟨o, h1, h2, h3⟩
    by_cases e : o = j
    · subst e; exact Or.inr ⟨h2, h3⟩
    · exact Or.inl ⟨o, by omega, h2, h3⟩
  · rintro (⟨o, h1, h2, h3⟩ | ⟨h2, h3⟩)
    · exact ⟨o, by omega, h2, h3⟩
    · exact ⟨j, by omega, h2, h3⟩
theorem eJ_rv {c j : Nat} {π p q : List Nat} (hc : c ≤ 8) (h1 : eJ c j π p) (h2 : eS c (π ++ [j]) q) : rv p ≤ rv q := by
  obtain ⟨o, o1, o2, p1, p2, rfl⟩ := h1
  obtain ⟨q1, q2, rfl⟩ := h2
  have hl : p2.length = q2.length := by
    have a := p1.length_eq
    have b := q1.length_eq
    simp at a b; omega
  have hs : sm p2 := fun x hx => by
    have := p1.mem_iff.mp (List.mem_append_right _ hx)
    rw [List.mem_range] at this; omega
  have h3 : rv (π ++ (o :: p2)) < rv (π ++ (j :: q2)) := (rv_pre (by simp [hl])).1.mpr (rv_head hl hs o1)
  simp only [List.append_assoc, List.singleton_append]
  omega
theorem ext_more {c o : Nat} {π q : List Nat} (h : (π ++ q).Perm (List.range c)) (ho : o < c) (hn : o ∉ π) : ∃ q', ((π ++ [o]) ++ q').Perm (List.range c) := by
  have h1 : o ∈ π ++ q := h.mem_iff.mpr (List.mem_range.mpr ho)
  have h2 : o ∈ q := (List.mem_append.mp h1).resolve_left hn
  refine ⟨q.erase o, ?_⟩
  have h3 : (π ++ (o :: q.erase o)).Perm (π ++ q) := (List.perm_cons_erase h2).symm.append_left π
  simpa using h3.trans h
end
section
/-! ===== the search of the spin yard ===== -/
section
variable (N F S T C : hyB) (R : hyW) (so ho du wo : Nat → Nat) (ch c : Nat)
def tpQ (π : List Nat) (B : Nat) (b : List Nat) (r : Nat → Int32) (k : Nat) : hyQ := fun o w1 => o = none ∧ ∃ B' b' r' bf', usp (tot so ho du wo ch) (eS c π) B b B' b' ∧ rowIs bf' b' ∧ (∀ i, i < k → r' i = r i) ∧ w1 = wW N F (SB S B' r' bf') T C R
def TP (m : Nat) : Prop := ∀ (π q : List Nat) (u B : Nat) (b : List Nat) (r bf : Nat → Int32), (π ++ q).Perm (List.range c) → q.length = m → u < 256 → (∀ x, u.testBit x = true ↔ x ∈ π) → rowIs r π → rowIs bf b → (rn so ho du wo ch π (0, 0, 0)).2.2 < B → B ≤ 1000000 → hy_R (2 * m + 6) mX4_tryPlace 0 0 [hy_r 13, .inl (nI π.length), .inl (nI u), .inl (nI (rn so ho du wo ch π (0, 0, 0)).1), .inl (nI (rn so ho du wo ch π (0, 0, 0)).2.1), .inl (nI (rn so ho du wo ch π (0, 0, 0)).2.2)] (wW N F (SB S B r bf) T C R) (tpQ N F S T C R so ho du wo ch c π B b r π.length)
def TR (m : Nat) : Prop := ∀ (π q : List Nat) (o u B : Nat) (b : List Nat) (r bf : Nat → Int32), ((π ++ [o]) ++ q).Perm (List.range c) → q.length = m → u < 256 → (∀ x, u.testBit x = true ↔ x ∈ π ++ [o]) → rowIs r (π ++ [o]) → rowIs bf b → B ≤ 1000000 → hy_R (2 * m + 7) mX4_tryRest 0 0 [hy_r 13, .inl (nI π.length), .inl (nI u), .inl (nI (rn so ho du wo ch π (0, 0, 0)).1), .inl (nI (rn so ho du wo ch π (0, 0, 0)).2.1), .inl (nI (rn so ho du wo ch π (0, 0, 0)).2.2)] (wW N F (SB S B r bf) T C R) (tpQ N F S T C R so ho du wo ch c (π ++ [o]) B b r (π.length + 1))
theorem rn_sort (hso : ∀ o, so o ≤ 3) : ∀ (p : List Nat) (h s l : Nat), s ≤ 3 → (rn so ho du wo ch p (h, s, l)).2.1 ≤ 3
  | [], _, _, _, hs => hs
  | o :: p, _, _, _, _ => rn_sort hso p _ _ _ (hso o)
theorem TR_of (hS : iSd S so ho du wo ch c) (m : Nat) (ih : TP N F S T C R so ho du wo ch c m) : TR N F S T C R so ho du wo ch c m := by
  intro π q o u B b r bf hp hq hu hub hr hb hB
  obtain ⟨d0, d1, d2, d3, d4⟩ := id hS
  have hlen : π.length + 1 + m = c := by
    have := hp.length_eq
    simp at this; omega
  have hoc : o < c := List.mem_range.mp (hp.mem_iff.mp (by simp))
  obtain ⟨o1, o2, o3, o4, o5, o6, o7, o8⟩ := d0 o
  have bd := rn_bd so ho du wo ch (fun o => (d0 o).2.2.2.2.2.1) (fun o => (d0 o).2.2.2.2.2.2.2) d2 π 0 0 0 0 (by omega) (by omega) (by omega)
  have bd2 := rn_bd so ho du wo ch (fun o => (d0 o).2.2.2.2.2.1) (fun o => (d0 o).2.2.2.2.2.2.2) d2 (π ++ [o]) 0 0 0 0 (by omega) (by omega) (by simp; omega)
  have bs := rn_sort so ho du wo ch (fun o => (d0 o).2.2.2.2.1) π 0 0 0 (by omega)
  have hro : r π.length = nI o := hr π.length o (by simp)
  have e2 : rn so ho du wo ch (π ++ [o]) (0, 0, 0) = (en so ho ch (rn so ho du wo ch π (0, 0, 0)).1 (rn so ho du wo ch π (0, 0, 0)).2.1 o, so o, la so ho du wo ch (rn so ho du wo ch π (0, 0, 0)).1 (rn so ho du wo ch π (0, 0, 0)).2.1 (rn so ho du wo ch π (0, 0, 0)).2.2 o) := by
    rw [rn_app]; rfl
  rw [e2] at bd2
  have next := ih (π ++ [o]) q u B b r bf hp hq hu hub hr hb
  rw [e2] at next
  have hlow : ∀ p, eS c (π ++ [o]) p → la so ho du wo ch (rn so ho du wo ch π (0, 0, 0)).1 (rn so ho du wo ch π (0, 0, 0)).2.1 (rn so ho du wo ch π (0, 0, 0)).2.2 o ≤ tot so ho du wo ch p := by
    rintro p ⟨-, q2, rfl⟩
    rw [tot_app, e2]
    exact lf_ge so ho du wo ch q2 _ _ _
  generalize rn so ho du wo ch π (0, 0, 0) = st at *
  obtain ⟨h, s, l⟩ := st
  dsimp only at *
  have hpl : (π.length) < 7 := by omega
  have hcl : (nI π.length).toNatClampNeg = π.length := cl_nI (by omega)
  have hin : vp_in (nI π.length) 7 := vn_in hpl (by decide)
  have ho7 : o < 7 := by omega
  have hoin : vp_in (nI o) 7 := vn_in ho7 (by decide)
  have hocl : (nI o).toNatClampNeg = o := cl_nI (by omega)
  simp only [List.length_append, List.length_singleton] at bd2 next
  have hla : la so ho du wo ch h s l o = l + (en so ho ch h s o - du o) * wo o := rfl
  refine hy_Rv (L := [some (hy_r 13), some (.inl (nI π.length)), some (.inl (nI u)), some (.inl (nI h)), some (.inl (nI s)), some (.inl (nI l)), none, none, none]) rfl (by decide) (hy_ple rfl) rfl ?_
  refine hy_go hy_pfA oX4_tryRest [8] 80 0 0 _ ?_
  refine And.intro hin ?_
  have e0 : r (nI π.length).toNatClampNeg = nI o := by rw [hcl]; exact hro
  suffices g : hy_X none (2 * m + 7) mX4_tryRest (tpQ N F S T C R so ho du wo ch c (π ++ [o]) B b r (π.length + 1)) 0 0 (8, [some (hy_r 13), some (.inl (nI π.length)), some (.inl (nI u)), some (.inl (nI h)), some (.inl (nI s)), some (.inl (nI l)), some (.inl (nI o)), none, none], [], wW N F (SB S B r bf) T C R) by
    rw [← e0] at g
    exact g
  refine hy_go hy_pfA oX4_tryRest [] 80 0 0 _ ?_
  refine hy_cl (r_s_endOf N F (SB S B r bf) T C R so ho du wo ch c o h s hS ho7 (by omega) (by omega)) (Nat.ble_eq.mpr (by omega)) ?_
  rintro v w1 ⟨x, rfl, rfl, rfl⟩
  refine And.intro hoin (And.intro hoin ?_)
  have f1 : S.1 2 (nI o).toNatClampNeg = nI (du o) := by rw [hocl]; exact o3
  have f2 : S.1 3 (nI o).toNatClampNeg = nI (wo o) := by rw [hocl]; exact o4
  have f3 : S.1 0 (nI o).toNatClampNeg = nI (so o) := by rw [hocl]; exact o1
  have key : nI l + (if (0 : Int32) < nI (en so ho ch h s o) - S.1 2 (nI o).toNatClampNeg then nI (en so ho ch h s o) - S.1 2 (nI o).toNatClampNeg else 0) * S.1 3 (nI o).toNatClampNeg = nI (la so ho du wo ch h s l o) := by
    rw [f1, f2, max_I (by omega) (by omega), pk_mul, nI_add, hla]
  refine And.intro (fun q1 => ?_) (fun q1 => ?_)
  · have q1 : nI B ≤ nI l + (if (0 : Int32) < nI (en so ho ch h s o) - S.1 2 (nI o).toNatClampNeg then nI (en so ho ch h s o) - S.1 2 (nI o).toNatClampNeg else 0) * S.1 3 (nI o).toNatClampNeg := q1
    rw [key, nI_le24 (by omega) (by omega)] at q1
    exact And.intro rfl ⟨B, b, r, bf, usp_none (fun p hp => Nat.le_trans q1 (hlow p hp)), hb, fun i _ => rfl, rfl⟩
  · have q1 : ¬ nI B ≤ nI l + (if (0 : Int32) < nI (en so ho ch h s o) - S.1 2 (nI o).toNatClampNeg then nI (en so ho ch h s o) - S.1 2 (nI o).toNatClampNeg else 0) * S.1 3 (nI o).toNatClampNeg := q1
    rw [key, nI_le24 (by omega) (by omega)] at q1
    refine And.intro hoin ?_
    have nx := next (by omega) hB
    rw [← nI_s, ← key, ← f3] at nx
    refine hy_cl nx (Nat.ble_eq.mpr (by omega)) ?_
    rintro v w1 ⟨rfl, B', b', r', bf', h1, h2, h3, rfl⟩
    exact And.intro rfl ⟨B', b', r', bf', h1, h2, h3, rfl⟩
theorem l_s_try (hS : iSd S so ho du wo ch c) (m : Nat) (ih : TR N F S T C R so ho du wo ch c m) (π q : List Nat) (u B0 : Nat) (b0 : List Nat) (r0 : Nat → Int32) (hp : (π ++ q).Perm (List.range c)) (hq : q.length = m + 1) (hu : u < 256) (hub : ∀ x, u.testBit x = true ↔ x ∈ π) (h s l : Nat) (hst : rn so ho du wo ch π (0, 0, 0) = (h, s, l)) :
    ∀ (j i B : Nat) (b : List Nat) (r bf : Nat → Int32), c - i = j → i ≤ c → B ≤ 1000000 → usp (tot so ho du wo ch) (eJ c i π) B0 b0 B b → rowIs bf b → rowIs r π → (∀ k, k < π.length → r k = r0 k) → hy_X none (2 * (m + 1) + 6) mX4_tryPlace (tpQ N F S T C R so ho du wo ch c π B0 b0 r0 π.length) 0 0 (18, [some (hy_r 13), some (.inl (nI π.length)), some (.inl (nI u)), some (.inl (nI h)), some (.inl (nI s)), some (.inl (nI l)), some (.inl (nI i))], [], wW N F (SB S B r bf) T C R) := by
  obtain ⟨d0, d1, d2, d3, d4⟩ := id hS
  have hlen : π.length + (m + 1) = c := by
    have := hp.length_eq
    simp at this; omega
  have hcl : (nI π.length).toNatClampNeg = π.length := cl_nI (by omega)
  have hin : vp_in (nI π.length) 7 := vn_in (by omega) (by decide)
  intro j
  induction j with
  | zero =>
    intro i B b r bf hj hi hB hu2 hb hr hr0
    have hic : i = c := by omega
    refine hy_go hy_pfA oX4_tryPlace [18] 60 0 0 _ ?_
    refine And.intro (fun q1 => ?_) (fun q1 => absurd ?_ q1)
    · exact And.intro rfl ⟨B, b, r, bf, usp_iff hu2 (fun p => by rw [hic]; exact (eS_split (by omega)).symm), hb, hr0, rfl⟩
    · show S.2 6 ≤ nI i
      rw [d3, hic]; exact Int32.le_refl _
  | succ j ihj =>
    intro i B b r bf hj hi hB hu2 hb hr hr0
    have a1 : c - (i + 1) = j := by omega
    have a2 : i + 1 ≤ c := by omega
    refine hy_go hy_pfA oX4_tryPlace [18] 60 0 0 _ ?_
    refine And.intro (fun q1 => ?_) (fun q1 => ?_)
    · have q1 : S.2 6 ≤ nI i := q1
      rw [d3, nI_le24 (by omega) (by omega)] at q1
      omega
    · refine And.intro (fun q2 => ?_) (fun q2 => ?_)
      · have q2 := (bit_0 (by omega) (by omega)).mp q2
        have hn : i ∉ π := fun hm => by
          have := (hub i).mpr hm
          rw [q2] at this; cases this
        refine And.intro hin ?_
        obtain ⟨q', hq'⟩ := ext_more hp (by omega : i < c) hn
        have hu3 : u ||| 2 ^ i < 256 := by
          have : 2 ^ i < 2 ^ 8 := Nat.pow_lt_pow_right (by omega) (by omega)
          exact Nat.or_lt_two_pow (n := 8) hu this
        have hub3 : ∀ x, (u ||| 2 ^ i).testBit x = true ↔ x ∈ π ++ [i] := fun x => by
          rw [Nat.testBit_or, Nat.testBit_two_pow, Bool.or_eq_true, hub x, List.mem_append, List.mem_singleton, decide_eq_true_eq]
          constructor
          · rintro (h | h)
            · exact Or.inl h
            · exact Or.inr h.symm
          · rintro (h | h)
            · exact Or.inl h
            · exact Or.inr h.symm
        have hr3 : rowIs (upd r (nI π.length).toNatClampNeg (nI i)) (π ++ [i]) := fun k x hx => by
          rw [hcl]
          unfold upd
          rw [List.getElem?_append] at hx
          by_cases e : k < π.length
          · rw [if_pos e] at hx
            rw [if_neg (by omega)]
            exact hr k x hx
          · rw [if_neg e, List.getElem?_singleton] at hx
            split at hx
            · have : k = π.length := by omega
              rw [if_pos this]
              cases hx; rfl
            · cases hx
        have hlq : q'.length = m := by
          have := hq'.length_eq
          simp at this; omega
        have call := ih π q' i (u ||| 2 ^ i) B b _ bf hq' hlq hu3 hub3 hr3 hb hB
        rw [hst] at call
        dsimp only at call
        rw [← nI_or, ← shl_1 (by omega)] at call
        refine hy_cl call (Nat.ble_eq.mpr (by omega)) ?_
        rintro v w1 ⟨rfl, B', b', r', bf', h1, h2, h3, rfl⟩
        have hB' : B' ≤ B := by
          rcases h1 with ⟨e, -⟩ | ⟨e, -⟩ <;> omega
        have hr' : ∀ k, k < π.length → r' k = r k := fun k hk => by
          rw [h3 k (by omega), hcl]
          unfold upd
          rw [if_neg (by omega)]
        have nx := ihj (i + 1) B' b' r' bf' a1 a2 (by omega) (usp_cat hu2 h1 (fun p => by
          rw [eJ_s]
          constructor
          · rintro (g | g)
            · exact Or.inl g
            · exact Or.inr g.2
          · rintro (g | g)
            · exact Or.inl g
            · exact Or.inr ⟨hn, g⟩) (fun p q g1 g2 => eJ_rv (by omega) g1 g2)) h2 (fun k x hx => by
              have hk := (List.getElem?_eq_some_iff.mp hx).1
              rw [hr' k hk]; exact hr k x hx) (fun k hk => (hr' k hk).trans (hr0 k hk))
        rw [← nI_s] at nx
        exact nx
      · have hn : i ∈ π := (hub i).mp (by
          cases hx : u.testBit i with
          | true => rfl
          | false => exact absurd ((bit_0 (by omega) (by omega)).mpr hx) q2)
        have nx := ihj (i + 1) B b r bf a1 a2 hB (usp_iff hu2 (fun p => by
          rw [eJ_s]
          constructor
          · exact Or.inl
          · rintro (g | g)
            · exact g
            · exact absurd hn g.1)) hb hr hr0
        rw [← nI_s] at nx
        exact nx
theorem TP_of (hS : iSd S so ho du wo ch c) : ∀ m, TP N F S T C R so ho du wo ch c m := by
  obtain ⟨d0, d1, d2, d3, d4⟩ := id hS
  intro m
  induction m with
  | zero =>
    intro π q u B b r bf hp hq hu hub hr hb hl hB
    have hq0 : q = [] := List.length_eq_zero_iff.mp hq
    subst hq0
    rw [List.append_nil] at hp
    have hlen : π.length = c := by rw [hp.length_eq]; simp
    have ht : tot so ho du wo ch π = (rn so ho du wo ch π (0, 0, 0)).2.2 := (rn_lf so ho du wo ch π 0 0 0).symm
    refine hy_Rv (L := [some (hy_r 13), some (.inl (nI π.length)), some (.inl (nI u)), some (.inl (nI (rn so ho du wo ch π (0, 0, 0)).1)), some (.inl (nI (rn so ho du wo ch π (0, 0, 0)).2.1)), some (.inl (nI (rn so ho du wo ch π (0, 0, 0)).2.2)), none]) rfl (by decide) (hy_ple rfl) rfl ?_
    refine hy_go hy_pfA oX4_tryPlace [] 60 0 0 _ ?_
    refine And.intro (fun q1 => ?_) (fun q1 => ?_)
    · have q1 : nI π.length < S.2 6 := q1
      rw [d3, hlen] at q1
      exact (Int32.lt_irrefl q1).elim
    · refine hy_cl (r_s_keep N F (SB S B r bf) T C R c (rn so ho du wo ch π (0, 0, 0)).2.2 d3 d4) rfl ?_
      rintro v w1 ⟨rfl, rfl⟩
      refine And.intro rfl ⟨(rn so ho du wo ch π (0, 0, 0)).2.2, π, r, cpf r bf c, Or.inr ⟨hl, ⟨hp, [], by simp⟩, ht, ?_⟩, ?_, fun i _ => rfl, rfl⟩
      · rintro p ⟨p1, q2, rfl⟩
        have : q2 = [] := by
          have := p1.length_eq
          simp at this
          exact List.length_eq_zero_iff.mp (by omega)
        subst this
        rw [List.append_nil, ht]
        exact ⟨Nat.le_refl _, fun _ => Nat.le_refl _⟩
      · intro i x hx
        have hi := (List.getElem?_eq_some_iff.mp hx).1
        unfold cpf
        rw [if_pos (by omega)]
        exact hr i x hx
  | succ m ih =>
    intro π q u B b r bf hp hq hu hub hr hb hl hB
    have hlen : π.length + (m + 1) = c := by
      have := hp.length_eq
      simp at this; omega
    have hTR := TR_of N F S T C R so ho du wo ch c hS m ih
    obtain ⟨h, s, l, hst⟩ : ∃ h s l, rn so ho du wo ch π (0, 0, 0) = (h, s, l) := ⟨_, _, _, rfl⟩
    have lp := l_s_try N F S T C R so ho du wo ch c hS m hTR π q u B b r hp hq hu hub h s l hst c 0 B b r bf (by omega) (by omega) hB (usp_none (fun p hp => by
      obtain ⟨o, h1, -⟩ := hp
      omega)) hb hr (fun k _ => rfl)
    rw [hst]
    refine hy_Rv (L := [some (hy_r 13), some (.inl (nI π.length)), some (.inl (nI u)), some (.inl (nI h)), some (.inl (nI s)), some (.inl (nI l)), none]) rfl (by decide) (hy_ple rfl) rfl ?_
    refine hy_go hy_pfA oX4_tryPlace [18] 60 0 0 _ ?_
    refine And.intro (fun q1 => lp) (fun q1 => absurd ?_ q1)
    show nI π.length < S.2 6
    rw [d3]
    exact nI_lt (by omega) (by omega)
end
end
section
/-! ===== the spin yard's own methods ===== -/
def scrS (S S' : hyB) : Prop := (∀ k, k ≠ 4 → k ≠ 5 → S'.1 k = S.1 k) ∧ ∀ k, k ≠ 8 → k ≠ 9 → S'.2 k = S.2 k
theorem scrS_refl (S : hyB) : scrS S S := ⟨fun _ _ _ => rfl, fun _ _ _ => rfl⟩
theorem scrS_mk (S : hyB) (B : Nat) (v : Int32) (r bf : Nat → Int32) : scrS S (SB (ss S 9 v) B r bf) := by
  refine ⟨fun k h1 h2 => ?_, fun k h1 h2 => ?_⟩
  · show sv (sv S.1 4 r) 5 bf k = S.1 k
    rw [sv_ne h2, sv_ne h1]
  · show sv (sv S.2 9 v) 8 (nI B) k = S.2 k
    rw [sv_ne h1, sv_ne h2]
theorem iSd_scr {S S' : hyB} {so ho du wo : Nat → Nat} {ch c : Nat} (h : iSd S so ho du wo ch c) (hs : scrS S S') : iSd S' so ho du wo ch c := by
  obtain ⟨d0, d1, d2, d3, d4⟩ := h
  refine ⟨?_, (hs.2 7 (by decide) (by decide)).trans d1, d2, (hs.2 6 (by decide) (by decide)).trans d3, d4⟩
  rw [hs.1 0 (by decide) (by decide), hs.1 1 (by decide) (by decide), hs.1 2 (by decide) (by decide), hs.1 3 (by decide) (by decide)]
  exact d0
def iS (S : hyB) (so ho du wo : Nat → Nat) (ch c : Nat) : Prop := iSd S so ho du wo ch c ∧ (S.2 9 = 0 ∨ (S.2 9 = 1 ∧ ∃ B b, S.2 8 = nI B ∧ B < 1000000 ∧ bestR (tot so ho du wo ch) c B b ∧ rowIs (S.1 5) b))
theorem tot_bd {S : hyB} {so ho du wo : Nat → Nat} {ch c : Nat} (h : iSd S so ho du wo ch c) {p : List Nat} (hp : p.length ≤ 7) : tot so ho du wo ch p < 1000000 := by
  have := rn_bd so ho du wo ch (fun o => (h.1 o).2.2.2.2.2.1) (fun o => (h.1 o).2.2.2.2.2.2.2) h.2.2.1 p 0 0 0 0 (by omega) (by omega) (by omega)
  have h2 := rn_lf so ho du wo ch p 0 0 0
  unfold tot
  omega
section
variable (N F S T C : hyB) (R : hyW) (so ho du wo : Nat → Nat) (ch c : Nat)
theorem r_s_plan (hS : iS S so ho du wo ch c) : hy_R 22 mX4_plan 0 0 [hy_r 13] (wW N F S T C R) (fun o w1 => o = none ∧ ∃ S' B b, scrS S S' ∧ S'.2 9 = 1 ∧ S'.2 8 = nI B ∧ B < 1000000 ∧ bestR (tot so ho du wo ch) c B b ∧ rowIs (S'.1 5) b ∧ w1 = wW N F S' T C R) := by
  refine hy_Rv (L := [some (hy_r 13)]) rfl (by decide) (hy_ple rfl) rfl ?_
  refine hy_go hy_pfA oX4_plan [] 60 0 0 _ ?_
  refine And.intro (fun q => ?_) (fun q => ?_)
  · refine And.intro (Or.inr rfl) ?_
    have hd : iSd (ss S 9 1) so ho du wo ch c := hS.1
    have hTP := TP_of N F (ss S 9 1) T C R so ho du wo ch c hd c [] (List.range c) 0 1000000 [] (S.1 4) (S.1 5) (by simp) (by simp) (by omega) (fun x => by simp) (fun i x hx => by simp at hx) (fun i x hx => by simp at hx) (by show 0 < 1000000; omega) (by omega)
    refine hy_cl hTP (Nat.ble_eq.mpr (by have := hd.2.2.2.2; omega)) ?_
    rintro v w1 ⟨rfl, B', b', r', bf', h1, h2, h3, rfl⟩
    have hE : ∀ p, eS c [] p ↔ p.Perm (List.range c) := fun p => ⟨fun h => h.1, fun h => ⟨h, p, by simp⟩⟩
    rcases h1 with ⟨a1, a2, a3⟩ | ⟨a1, a2, a3, a4⟩
    · have := a3 (List.range c) ((hE _).mpr (List.Perm.refl _))
      have h5 := tot_bd hd (p := List.range c) (by rw [List.length_range]; exact hd.2.2.2.2)
      omega
    · exact And.intro rfl ⟨_, B', b', scrS_mk S B' 1 r' bf', rfl, rfl, a1, ⟨(hE _).mp a2, a3, fun p hp => a4 p ((hE p).mpr hp)⟩, h2, rfl⟩
  · rcases hS.2 with h | ⟨h, B, b, h1, h2, h3, h4⟩
    · exact absurd h q
    · exact And.intro rfl ⟨S, B, b, scrS_refl S, h, h1, h2, h3, h4, rfl⟩
theorem r_s_late (hS : iS S so ho du wo ch c) : hy_R 23 mX4_leastLate 0 0 [hy_r 13] (wW N F S T C R) (fun o w1 => ∃ x, o = some x ∧ ∃ S' B b, x = nI B ∧ scrS S S' ∧ bestR (tot so ho du wo ch) c B b ∧ iS S' so ho du wo ch c ∧ w1 = wW N F S' T C R) := by
  refine hy_Ri (L := [some (hy_r 13)]) rfl (by decide) (hy_ple rfl) rfl ?_
  refine hy_go hy_pfA oX4_leastLate [] 60 0 0 _ ?_
  refine hy_cl (r_s_plan N F S T C R so ho du wo ch c hS) rfl ?_
  rintro v w1 ⟨rfl, S', B, b, s1, s2, s3, s4, s5, s6, rfl⟩
  exact hy_fin ⟨S', B, b, s3, s1, s5, ⟨iSd_scr hS.1 s1, Or.inr ⟨s2, B, b, s3, s4, s5, s6⟩⟩, rfl⟩
theorem r_s_orderAt (a : Int32) (hS : iS S so ho du wo ch c) : hy_R 23 mX4_orderAt 0 0 [hy_r 13, .inl a] (wW N F S T C R) (fun o w1 => ∃ x, o = some x ∧ ∃ S', scrS S S' ∧ iS S' so ho du wo ch c ∧ ((∃ k B b y, k < c ∧ a = nI k ∧ bestR (tot so ho du wo ch) c B b ∧ b[k]? = some y ∧ x = nI y) ∨ ((¬ ∃ k, k < c ∧ a = nI k) ∧ x = -1)) ∧ w1 = wW N F S' T C R) := by
  have d3 := hS.1.2.2.2.1
  have d4 := hS.1.2.2.2.2
  refine hy_Ri (L := [some (hy_r 13), some (.inl a)]) rfl (by decide) (hy_ple rfl) rfl ?_
  refine hy_go hy_pfA oX4_orderAt [] 60 0 0 _ ?_
  refine And.intro (fun q => ?_) (fun q => ?_)
  · rw [d3] at q
    exact hy_fin ⟨S, scrS_refl S, hS, Or.inr ⟨net_out (by omega) q, rfl⟩, rfl⟩
  · rw [d3] at q
    obtain ⟨k, hk, rfl⟩ := net_in (by omega) q
    have hcl : (nI k).toNatClampNeg = k := cl_nI (by omega)
    refine hy_cl (r_s_plan N F S T C R so ho du wo ch c hS) rfl ?_
    rintro v w1 ⟨rfl, S', B, b, s1, s2, s3, s4, s5, s6, rfl⟩
    refine And.intro (vn_in (by omega) (by decide)) ?_
    have hlen : b.length = c := by rw [s5.1.length_eq]; simp
    have hb : b[k]? = some b[k] := List.getElem?_eq_getElem (by omega)
    refine hy_fin ⟨S', s1, ⟨iSd_scr hS.1 s1, Or.inr ⟨s2, B, b, s3, s4, s5, s6⟩⟩, Or.inl ⟨k, B, b, b[k], hk, rfl, s5, hb, ?_⟩, rfl⟩
    show S'.1 5 (nI k).toNatClampNeg = _
    rw [hcl]; exact s6 k _ hb
theorem take_s {b : List Nat} {i y : Nat} (h : b[i]? = some y) : b.take (i + 1) = b.take i ++ [y] := by
  rw [List.take_succ, h]; rfl
theorem l_s_endAt (Q : hyQ) (k : Nat) (b : List Nat) (hd : iSd S so ho du wo ch c) (hk : k < c) (hb : b.Perm (List.range c)) (hr : rowIs (S.1 5) b)
    (K : Q (some (nI (rn so ho du wo ch (b.take (k + 1)) (0, 0, 0)).1)) (wW N F S T C R)) :
    ∀ (j i : Nat), k + 1 - i = j → i ≤ k + 1 → hy_X none 23 mX4_endAt Q 0 0 (27, [some (hy_r 13), some (.inl (nI k)), some (.inl (nI (rn so ho du wo ch (b.take i) (0, 0, 0)).1)), some (.inl (nI (rn so ho du wo ch (b.take i) (0, 0, 0)).2.1)), some (.inl (nI i))], [], wW N F S T C R) := by
  obtain ⟨d0, d1, d2, d3, d4⟩ := id hd
  have hlen : b.length = c := by rw [hb.length_eq]; simp
  intro j
  induction j with
  | zero =>
    intro i hj hi
    have : i = k + 1 := by omega
    subst this
    refine hy_go hy_pfA oX4_endAt [27] 60 0 0 _ ?_
    exact And.intro (fun q => K) (fun q => absurd (nI_lt (by omega) (by omega)) q)
  | succ j ih =>
    intro i hj hi
    have hcl : (nI i).toNatClampNeg = i := cl_nI (by omega)
    have hin : vp_in (nI i) 7 := vn_in (by omega) (by decide)
    have hbi : b[i]? = some b[i] := List.getElem?_eq_getElem (by omega)
    obtain ⟨y, hy⟩ : ∃ y, y = b[i] := ⟨_, rfl⟩
    rw [← hy] at hbi
    have hyc : y < c := List.mem_range.mp (hb.mem_iff.mp (List.mem_of_getElem? hbi))
    have nx := ih (i + 1) (by omega) (by omega)
    have bd := rn_bd so ho du wo ch (fun o => (d0 o).2.2.2.2.2.1) (fun o => (d0 o).2.2.2.2.2.2.2) d2 (b.take i) 0 0 0 0 (by omega) (by omega) (by rw [List.length_take]; omega)
    have bs := rn_sort so ho du wo ch (fun o => (d0 o).2.2.2.2.1) (b.take i) 0 0 0 (by omega)
    rw [List.length_take] at bd
    rw [take_s hbi, rn_app] at nx
    generalize rn so ho du wo ch (b.take i) (0, 0, 0) = st at *
    obtain ⟨h, s, l⟩ := st
    dsimp only [rn] at *
    have e0 : S.1 5 (nI i).toNatClampNeg = nI y := by rw [hcl]; exact hr i y hbi
    have hycl : (nI y).toNatClampNeg = y := cl_nI (by omega)
    refine hy_go hy_pfA oX4_endAt [27] 60 0 0 _ ?_
    refine And.intro (fun q => ?_) (fun q => ?_)
    · have q := zi_lt.mp q
      rw [zi_nI (by omega), zi_nI (by omega)] at q; omega
    · refine And.intro hin ?_
      have hw : hy_R 3 mX4_endOf 0 0 [hy_r 13, .inl (S.1 5 (nI i).toNatClampNeg), .inl (nI h), .inl (nI s)] (wW N F S T C R) (fun v w1 => ∃ x, v = some x ∧ x = nI (en so ho ch h s y) ∧ w1 = wW N F S T C R) := by
        rw [e0]
        exact r_s_endOf N F S T C R so ho du wo ch c y h s hd (by omega) (by omega) (by omega)
      refine hy_cl hw rfl ?_
      rintro v w1 ⟨x, rfl, rfl, rfl⟩
      refine And.intro hin (And.intro ?_ ?_)
      · rw [e0]; exact vn_in (by omega) (by decide)
      · have e1 : S.1 0 (S.1 5 (nI i).toNatClampNeg).toNatClampNeg = nI (so y) := by rw [e0, hycl]; exact (d0 y).1
        rw [← nI_s, ← e1] at nx
        exact nx
theorem r_s_endAt (a : Int32) (hS : iS S so ho du wo ch c) : hy_R 23 mX4_endAt 0 0 [hy_r 13, .inl a] (wW N F S T C R) (fun o w1 => ∃ x, o = some x ∧ ∃ S', scrS S S' ∧ iS S' so ho du wo ch c ∧ ((∃ k B b, k < c ∧ a = nI k ∧ bestR (tot so ho du wo ch) c B b ∧ x = nI (rn so ho du wo ch (b.take (k + 1)) (0, 0, 0)).1) ∨ ((¬ ∃ k, k < c ∧ a = nI k) ∧ x = -1)) ∧ w1 = wW N F S' T C R) := by
  have d3 := hS.1.2.2.2.1
  have d4 := hS.1.2.2.2.2
  refine hy_Ri (L := [some (hy_r 13), some (.inl a), none, none, none]) rfl (by decide) (hy_ple rfl) rfl ?_
  refine hy_go hy_pfA oX4_endAt [27] 60 0 0 _ ?_
  refine And.intro (fun q => ?_) (fun q => ?_)
  · rw [d3] at q
    exact hy_fin ⟨S, scrS_refl S, hS, Or.inr ⟨net_out (by omega) q, rfl⟩, rfl⟩
  · rw [d3] at q
    obtain ⟨k, hk, rfl⟩ := net_in (by omega) q
    refine hy_cl (r_s_plan N F S T C R so ho du wo ch c hS) rfl ?_
    rintro v w1 ⟨rfl, S', B, b, s1, s2, s3, s4, s5, s6, rfl⟩
    have hd' := iSd_scr hS.1 s1
    exact l_s_endAt N F S' T C R so ho du wo ch c _ k b hd' hk s5.1 s6 ⟨_, rfl, S', s1, ⟨hd', Or.inr ⟨s2, B, b, s3, s4, s5, s6⟩⟩, Or.inl ⟨k, B, b, hk, rfl, s5, rfl⟩, rfl⟩ (k + 1) 0 (by omega) (by omega)
/-- when an order may come -/
def c_order (a h d w : Int32) (c : Nat) : Prop := (0 ≤ a ∧ a ≤ 3) ∧ (1 ≤ h ∧ h ≤ 100) ∧ (0 ≤ d ∧ d ≤ 1000) ∧ (1 ≤ w ∧ w ≤ 9) ∧ c < 7
def tkS (S : hyB) (j : Nat) (a h d w v : Int32) : hyB := ss (ss (sa (sa (sa (sa S 0 (upd (S.1 0) j a)) 1 (upd (S.1 1) j h)) 2 (upd (S.1 2) j d)) 3 (upd (S.1 3) j w)) 6 v) 9 0
set_option maxRecDepth 100000 in
theorem r_s_take (a h d w : Int32) (h6 : S.2 6 = nI c) (h7 : c ≤ 7) : hy_R 4 mX4_take 0 0 [hy_r 13, .inl a, .inl h, .inl d, .inl w] (wW N F S T C R) (fun o w1 => ∃ x, o = some x ∧ (c_order a h d w c ∧ x = nI c ∧ w1 = wW N F (tkS S c a h d w (nI (c + 1))) T C R ∨ ¬ c_order a h d w c ∧ x = -1 ∧ w1 = wW N F S T C R)) := by
  refine hy_Ri (L := [some (hy_r 13), some (.inl a), some (.inl h), some (.inl d), some (.inl w)]) rfl (by decide) (hy_ple rfl) rfl ?_
  refine hy_go hy_pfA oX4_take [] 80 0 0 _ ?_
  have hi : c < 7 → vp_in (S.2 6) 7 := fun h => by rw [h6]; exact vn_in h (by decide)
  have l7 : (7 : Int32).toInt = 7 := rfl
  refine And.intro (fun q => ?_) (fun q => And.intro (fun q2 => ?_) (fun q2 => And.intro (fun q3 => ?_) (fun q3 => And.intro (fun q4 => ?_) (fun q4 => And.intro (fun q5 => ?_) (fun q5 => ?_)))))
  · exact hy_fin (Or.inr ⟨fun h => g_within_0 q h.1, rfl, rfl⟩)
  · exact hy_fin (Or.inr ⟨fun h => g_within_0 q2 h.2.1, rfl, rfl⟩)
  · exact hy_fin (Or.inr ⟨fun h => g_within_0 q3 h.2.2.1, rfl, rfl⟩)
  · exact hy_fin (Or.inr ⟨fun h => g_within_0 q4 h.2.2.2.1, rfl, rfl⟩)
  · have hn : c < 7 := by
      have q5 := zi_lt.mp q5
      rw [h6, zi_nI (by omega)] at q5; omega
    refine And.intro (hi hn) (And.intro (hi hn) (And.intro (hi hn) (And.intro (hi hn) (And.intro (Or.inl rfl) ?_))))
    have hcl : (S.2 6).toNatClampNeg = c := by rw [h6]; exact cl_nI (by omega)
    have e1 : S.2 6 + 1 = nI (c + 1) := by rw [h6, nI_s]
    have e2 : S.2 6 + 1 - 1 = nI c := by rw [e1]; exact nI_pred c
    have key : ∃ x, some (S.2 6 + 1 - 1) = some x ∧ (c_order a h d w c ∧ x = nI c ∧ wW N F (tkS S (S.2 6).toNatClampNeg a h d w (S.2 6 + 1)) T C R = wW N F (tkS S c a h d w (nI (c + 1))) T C R ∨ ¬ c_order a h d w c ∧ x = -1 ∧ wW N F (tkS S (S.2 6).toNatClampNeg a h d w (S.2 6 + 1)) T C R = wW N F S T C R) := ⟨_, rfl, Or.inl ⟨⟨g_within_n0 q, g_within_n0 q2, g_within_n0 q3, g_within_n0 q4, hn⟩, e2, by rw [hcl, e1]⟩⟩
    exact key
  · refine hy_fin (Or.inr ⟨fun h => q5 (zi_lt.mpr ?_), rfl, rfl⟩)
    have := h.2.2.2.2
    rw [h6, zi_nI (by omega)]; omega
theorem r_s_change (v : Int32) : hy_R 4 mX4_setChange 0 0 [hy_r 13, .inl v] (wW N F S T C R) (fun o w1 => ∃ x, o = some x ∧ ((0 ≤ v ∧ v ≤ 50) ∧ x = 1 ∧ w1 = wW N F (ss (ss S 7 v) 9 0) T C R ∨ ¬ (0 ≤ v ∧ v ≤ 50) ∧ x = 0 ∧ w1 = wW N F S T C R)) := by
  refine hy_Rz (L := [some (hy_r 13), some (.inl v)]) rfl (by decide) (fun x w h => ?_) (hy_ple rfl) rfl ?_
  · rcases h with ⟨-, h, -⟩ | ⟨-, h, -⟩
    · exact Or.inr h
    · exact Or.inl h
  refine hy_go hy_pfA oX4_setChange [] 60 0 0 _ ?_
  refine And.intro (fun q => ?_) (fun q => ?_)
  · exact hy_fin (Or.inr ⟨g_within_0 q, rfl, rfl⟩)
  · refine And.intro (Or.inl rfl) ?_
    exact hy_fin (Or.inl ⟨g_within_n0 q, rfl, rfl⟩)
theorem r_s_drop : hy_R 3 mX4_dropOrders 0 0 [hy_r 13] (wW N F S T C R) (fun o w1 => ∃ x, o = some x ∧ x = S.2 6 ∧ w1 = wW N F (ss (ss S 6 0) 9 0) T C R) := by
  refine hy_Ri (L := [some (hy_r 13), none]) rfl (by decide) (hy_ple rfl) rfl ?_
  refine hy_go hy_pfA oX4_dropOrders [] 60 0 0 _ ?_
  refine And.intro (Or.inl rfl) ?_
  exact hy_fin ⟨rfl, rfl⟩
end
end
section
/-! ===== the reference's spin yard: the row behind a row ===== -/
def sg (f : Nat → Nat) (lo n : Nat) : List Nat := (List.range n).map (fun j => f (lo + j))
theorem sg_len (f : Nat → Nat) (lo n : Nat) : (sg f lo n).length = n := by simp [sg]
theorem sg_get {f : Nat → Nat} {lo n i : Nat} : (sg f lo n)[i]? = if i < n then some (f (lo + i)) else none := by
  unfold sg
  rw [List.getElem?_map]
  by_cases h : i < n
  · rw [if_pos h, List.getElem?_range h]; rfl
  · rw [if_neg h, List.getElem?_eq_none (by simp; omega)]; rfl
theorem sg_add (f : Nat → Nat) (lo m n : Nat) : sg f lo (m + n) = sg f lo m ++ sg f (lo + m) n := by
  apply List.ext_getElem?
  intro i
  rw [List.getElem?_append, sg_len, sg_get, sg_get, sg_get]
  by_cases h : i < m
  · rw [if_pos (by omega), if_pos h, if_pos h]
  · rw [if_neg h]
    by_cases h2 : i < m + n
    · rw [if_pos h2, if_pos (by omega), show lo + m + (i - m) = lo + i by omega]
    · rw [if_neg h2, if_neg (by omega)]
theorem sg_one (f : Nat → Nat) (lo : Nat) : sg f lo 1 = [f lo] := by simp [sg]
theorem sg_cons (f : Nat → Nat) (lo n : Nat) : sg f lo (n + 1) = f lo :: sg f (lo + 1) n := by
  rw [show n + 1 = 1 + n by omega, sg_add, sg_one]; rfl
theorem sg_congr {f g : Nat → Nat} {lo n : Nat} (h : ∀ j, j < n → f (lo + j) = g (lo + j)) : sg f lo n = sg g lo n := by
  apply List.ext_getElem?
  intro i
  rw [sg_get, sg_get]
  by_cases q : i < n
  · rw [if_pos q, if_pos q, h i q]
  · rw [if_neg q, if_neg q]
theorem sg_rev {f g : Nat → Nat} {lo n : Nat} (h : ∀ j, j < n → g (lo + j) = f (lo + (n - 1 - j))) : sg g lo n = (sg f lo n).reverse := by
  apply List.ext_getElem?
  intro i
  by_cases q : i < n
  · rw [List.getElem?_reverse (by rw [sg_len]; exact q), sg_len, sg_get, sg_get, if_pos q, if_pos (by omega), h i q]
  · rw [sg_get, if_neg q, List.getElem?_eq_none (by rw [List.length_reverse, sg_len]; omega)]
theorem sg_mem {f : Nat → Nat} {lo n x : Nat} : x ∈ sg f lo n ↔ ∃ j, j < n ∧ f (lo + j) = x := by
  unfold sg
  rw [List.mem_map]
  constructor
  · rintro ⟨j, h1, h2⟩
    exact ⟨j, List.mem_range.mp h1, h2⟩
  · rintro ⟨j, h1, h2⟩
    exact ⟨j, List.mem_range.mpr h1, h2⟩
theorem sg_desc {f : Nat → Nat} {lo n : Nat} (h : ∀ x y, x < y → y < n → f (lo + y) < f (lo + x)) : (sg f lo n).Pairwise (· > ·) := by
  unfold sg
  rw [List.pairwise_map]
  refine List.Pairwise.imp_of_mem ?_ List.pairwise_lt_range
  intro a b ha hb hab
  exact h a b hab (List.mem_range.mp hb)
theorem adj_desc {f : Nat → Nat} {m c : Nat} (h : ∀ k, m ≤ k → k + 1 < c → f (k + 1) < f k) : ∀ d x, m ≤ x → x + d + 1 < c → f (x + d + 1) < f x
  | 0, x, h1, h2 => h x h1 h2
  | d + 1, x, h1, h2 => by
    have a := adj_desc h d x h1 (by omega)
    have b := h (x + d + 1) (by omega) (by omega)
    rw [show x + (d + 1) + 1 = x + d + 1 + 1 by omega]
    omega
/-- two places of a row changed about -/
def sw2 (f : Nat → Nat) (i k : Nat) : Nat → Nat := fun j => if j = k then f i else if j = i then f k else f j
/-- the row behind the row f, once its places i, k are known -/
def nxf (f : Nat → Nat) (i k c : Nat) : Nat → Nat := fun j => if j ≤ i then sw2 f i k j else sw2 f i k (i + c - j)
theorem nxf_ok {f : Nat → Nat} {c i k : Nat} (hc : c ≤ 8) (hp : (sg f 0 c).Perm (List.range c)) (h1 : i < k) (h2 : k < c) (h3 : f i < f k) (h4 : ∀ j, i + 1 ≤ j → j + 1 < c → f (j + 1) < f j) (h5 : ∀ j, k < j → j < c → f j < f i) : rv (sg f 0 c) < rv (sg (nxf f i k c) 0 c) ∧ (sg (nxf f i k c) 0 c).Perm (List.range c) ∧ ∀ q : List Nat, q.Perm (List.range c) → rv (sg f 0 c) < rv q → rv (sg (nxf f i k c) 0 c) ≤ rv q := by
  have e1 : sg f 0 c = sg f 0 i ++ f i :: (sg f (i + 1) (k - i - 1) ++ f k :: sg f (k + 1) (c - k - 1)) := by
    rw [show c = i + ((k - i - 1 + (c - k - 1 + 1)) + 1) by omega, sg_add, sg_cons, sg_add, sg_cons]
    rw [show 0 + i = i by omega, show i + 1 + (k - i - 1) = k by omega]
    rw [show i + (k - i - 1 + (c - k - 1 + 1) + 1) - k - 1 = c - k - 1 by omega]
  have e2 : sg (nxf f i k c) 0 c = sg f 0 i ++ f k :: (sg f (i + 1) (k - i - 1) ++ f i :: sg f (k + 1) (c - k - 1)).reverse := by
    have a1 : sg (nxf f i k c) 0 c = sg (nxf f i k c) 0 i ++ nxf f i k c i :: sg (nxf f i k c) (i + 1) (c - i - 1) := by
      have : c = i + ((c - i - 1) + 1) := by omega
      rw [show sg (nxf f i k c) 0 c = sg (nxf f i k c) 0 (i + ((c - i - 1) + 1)) by rw [← this], sg_add, sg_cons, show 0 + i = i by omega]
    have a2 : sg (nxf f i k c) 0 i = sg f 0 i := sg_congr (fun j hj => by
      unfold nxf sw2
      rw [if_pos (by omega), if_neg (by omega), if_neg (by omega)])
    have a3 : nxf f i k c i = f k := by
      unfold nxf sw2
      rw [if_pos (by omega), if_neg (by omega), if_pos rfl]
    have a4 : sg (nxf f i k c) (i + 1) (c - i - 1) = (sg (sw2 f i k) (i + 1) (c - i - 1)).reverse := sg_rev (fun j hj => by
      unfold nxf
      rw [if_neg (by omega)]
      congr 1; omega)
    have a5 : sg (sw2 f i k) (i + 1) (c - i - 1) = sg f (i + 1) (k - i - 1) ++ f i :: sg f (k + 1) (c - k - 1) := by
      rw [show c - i - 1 = (k - i - 1) + ((c - k - 1) + 1) by omega, sg_add, sg_cons, show i + 1 + (k - i - 1) = k by omega]
      rw [show sg (sw2 f i k) (i + 1) (k - i - 1) = sg f (i + 1) (k - i - 1) from sg_congr (fun j hj => by
        unfold sw2
        rw [if_neg (by omega), if_neg (by omega)])]
      rw [show sw2 f i k k = f i by unfold sw2; rw [if_pos rfl]]
      rw [show sg (sw2 f i k) (k + 1) (c - k - 1) = sg f (k + 1) (c - k - 1) from sg_congr (fun j hj => by
        unfold sw2
        rw [if_neg (by omega), if_neg (by omega)])]
    rw [a1, a2, a3, a4, a5]
  have hm : sm (sg f 0 c) := fun x hx => by
    have := hp.mem_iff.mp hx
    rw [List.mem_range] at this; omega
  have hd : (sg f (i + 1) (k - i - 1) ++ f k :: sg f (k + 1) (c - k - 1)).Pairwise (· > ·) := by
    have : sg f (i + 1) (k - i - 1) ++ f k :: sg f (k + 1) (c - k - 1) = sg f (i + 1) (c - i - 1) := by
      rw [show c - i - 1 = (k - i - 1) + ((c - k - 1) + 1) by omega, sg_add, sg_cons, show i + 1 + (k - i - 1) = k by omega]
    rw [this]
    refine sg_desc (fun x y hxy hy => ?_)
    have := adj_desc h4 (y - x - 1) (i + 1 + x) (by omega) (by omega)
    rw [show i + 1 + x + (y - x - 1) + 1 = i + 1 + y by omega] at this
    exact this
  have hv : ∀ x ∈ sg f (k + 1) (c - k - 1), x < f i := fun x hx => by
    obtain ⟨j, j1, rfl⟩ := sg_mem.mp hx
    exact h5 _ (by omega) (by omega)
  rw [e1] at hm
  have key := rv_next hd h3 hv hm
  rw [← e1, ← e2] at key
  refine ⟨key.1, ?_, fun q hq hlt => key.2 q (hq.trans hp.symm) hlt⟩
  have p1 : (sg (nxf f i k c) 0 c).Perm (sg f 0 c) := by
    rw [e1, e2]
    refine List.Perm.append_left _ ?_
    have q1 : (f k :: (sg f (i + 1) (k - i - 1) ++ f i :: sg f (k + 1) (c - k - 1)).reverse).Perm (f k :: (sg f (i + 1) (k - i - 1) ++ f i :: sg f (k + 1) (c - k - 1))) := List.Perm.cons _ (List.reverse_perm _)
    have q2 : (f k :: (sg f (i + 1) (k - i - 1) ++ f i :: sg f (k + 1) (c - k - 1))).Perm (f k :: (f i :: (sg f (i + 1) (k - i - 1) ++ sg f (k + 1) (c - k - 1)))) := List.Perm.cons _ List.perm_middle
    have q3 : (f i :: (sg f (i + 1) (k - i - 1) ++ f k :: sg f (k + 1) (c - k - 1))).Perm (f i :: (f k :: (sg f (i + 1) (k - i - 1) ++ sg f (k + 1) (c - k - 1)))) := List.Perm.cons _ List.perm_middle
    exact q1.trans (q2.trans ((List.Perm.swap (f i) (f k) _).trans q3.symm))
  exact p1.trans hp
theorem desc_last {f : Nat → Nat} {c : Nat} (hc : c ≤ 8) (hp : (sg f 0 c).Perm (List.range c)) (h4 : ∀ j, 0 ≤ j → j + 1 < c → f (j + 1) < f j) : ∀ q : List Nat, q.Perm (List.range c) → rv q ≤ rv (sg f 0 c) := by
  intro q hq
  have hm : sm (sg f 0 c) := fun x hx => by
    have := hp.mem_iff.mp hx
    rw [List.mem_range] at this; omega
  refine rv_max (sg_desc (fun x y hxy hy => ?_)) hm (hq.trans hp.symm)
  have := adj_desc (m := 0) h4 (y - x - 1) (0 + x) (by omega) (by omega)
  rw [show 0 + x + (y - x - 1) + 1 = 0 + y by omega] at this
  exact this
/-- the reference's orders -/
def iSM (M : hyB) (so ho du wo : Nat → Nat) (ch c : Nat) : Prop := iO (M.1 16) (M.1 17) (M.1 18) (M.1 19) so ho du wo ∧ M.2 20 = nI ch ∧ ch ≤ 50 ∧ M.2 15 = nI c ∧ c ≤ 7
def rowF (r : Nat → Int32) (f : Nat → Nat) (c : Nat) : Prop := ∀ k, k < c → r k = nI (f k)
section
variable (N F S T C M : hyB)
theorem m_swaps (r : Nat → Int32) (i k : Nat) (hi : i < 7) (hk : k < 7) : hy_R 3 mX6_swaps 0 0 [hy_r 30, .inl (nI i), .inl (nI k)] (wW N F S T C (wM (sa M 31 r))) (fun o w1 => o = none ∧ w1 = wW N F S T C (wM (sa M 31 (upd (upd r i (r k)) k (r i))))) := by
  have hcl : (nI i).toNatClampNeg = i := cl_nI (by omega)
  have hkl : (nI k).toNatClampNeg = k := cl_nI (by omega)
  have hin : vp_in (nI i) 7 := vn_in hi (by decide)
  have hkn : vp_in (nI k) 7 := vn_in hk (by decide)
  refine hy_Rv (L := [some (hy_r 30), some (.inl (nI i)), some (.inl (nI k)), none]) rfl (by decide) (hy_ple rfl) rfl ?_
  refine hy_go hy_pfA oX6_swaps [] 60 0 0 _ ?_
  refine And.intro hin (And.intro hkn (And.intro hin (And.intro hkn ?_)))
  have key : (none : Option Int32) = none ∧ wW N F S T C (wM (sa M 31 (upd (upd r (nI i).toNatClampNeg (r (nI k).toNatClampNeg)) (nI k).toNatClampNeg (r (nI i).toNatClampNeg)))) = wW N F S T C (wM (sa M 31 (upd (upd r i (r k)) k (r i)))) := by
    rw [hcl, hkl]; exact ⟨rfl, rfl⟩
  exact key
theorem sw2_row {r : Nat → Int32} {f : Nat → Nat} {c i k : Nat} (hr : rowF r f c) (hi : i < c) (hk : k < c) : rowF (upd (upd r i (r k)) k (r i)) (sw2 f i k) c := by
  intro j hj
  unfold upd sw2
  by_cases e : j = k
  · rw [if_pos e, if_pos e]; exact hr i hi
  · rw [if_neg e, if_neg e]
    by_cases e2 : j = i
    · rw [if_pos e2, if_pos e2]; exact hr k hk
    · rw [if_neg e2, if_neg e2]; exact hr j hj
/-- while the end of a row is turned about -/
def rvf (f : Nat → Nat) (i c t : Nat) : Nat → Nat := fun j => if (i < j ∧ j < i + 1 + t) ∨ (c - 1 - t < j ∧ j < c) then f (i + c - j) else f j
theorem rvf_s {f : Nat → Nat} {i c t j : Nat} (h : i + 1 + t < c - 1 - t) (hj : j < c) : rvf f i c (t + 1) j = sw2 (rvf f i c t) (i + 1 + t) (c - 1 - t) j := by
  unfold sw2
  by_cases e : j = c - 1 - t
  · rw [if_pos e]
    unfold rvf
    rw [if_pos (Or.inr ⟨by omega, hj⟩), if_neg (by omega)]
    congr 1; omega
  · rw [if_neg e]
    by_cases e2 : j = i + 1 + t
    · rw [if_pos e2]
      unfold rvf
      rw [if_pos (Or.inl ⟨by omega, by omega⟩), if_neg (by omega)]
      congr 1; omega
    · rw [if_neg e2]
      unfold rvf
      by_cases q : (i < j ∧ j < i + 1 + t) ∨ (c - 1 - t < j ∧ j < c)
      · rw [if_pos q, if_pos (by omega)]
      · rw [if_neg q, if_neg (by omega)]
theorem l_nr3 (Q : hyQ) (c i : Nat) (x2 : Option hyV) (f : Nat → Nat) (h15 : M.2 15 = nI c) (hc : c ≤ 7) (hi : i + 1 < c) (K : ∀ r', rowF r' (fun j => if j ≤ i then f j else f (i + c - j)) c → Q (some 1) (wW N F S T C (wM (sa M 31 r')))) :
    ∀ (m t : Nat) (r : Nat → Int32), c - t = m → i + t < c → rowF r (rvf f i c t) c → hy_X none 5 mX6_nextRow Q 0 0 (86, [some (hy_r 30), some (.inl (nI i)), x2, some (.inl (nI (c - 1 - t))), some (.inl (nI (i + 1 + t)))], [], wW N F S T C (wM (sa M 31 r))) := by
  intro m
  induction m with
  | zero => intro t r hm ht; omega
  | succ m ih =>
    intro t r hm ht hr
    refine hy_go hy_pfA oX6_nextRow [86] 60 0 0 _ ?_
    refine And.intro (fun q => ?_) (fun q => ?_)
    · rw [nI_le24 (by omega) (by omega)] at q
      refine K r (fun j hj => ?_)
      rw [hr j hj]
      congr 1
      unfold rvf
      show _ = (if j ≤ i then f j else f (i + c - j))
      by_cases e : j ≤ i
      · rw [if_pos e, if_neg (by omega)]
      · rw [if_neg e]
        by_cases e2 : (i < j ∧ j < i + 1 + t) ∨ (c - 1 - t < j ∧ j < c)
        · rw [if_pos e2]
        · rw [if_neg e2]
          congr 1; omega
    · rw [nI_le24 (by omega) (by omega)] at q
      refine hy_cl (m_swaps N F S T C M r (i + 1 + t) (c - 1 - t) (by omega) (by omega)) rfl ?_
      rintro o w1 ⟨rfl, rfl⟩
      have hr2 := sw2_row (c := c) hr (i := i + 1 + t) (k := c - 1 - t) (by omega) (by omega)
      have nx := ih (t + 1) (upd (upd r (i + 1 + t) (r (c - 1 - t))) (c - 1 - t) (r (i + 1 + t))) (by omega) (by omega) (fun j hj => by rw [rvf_s (by omega) hj]; exact hr2 j hj)
      have e1 : nI (c - 1 - (t + 1)) = nI (c - 1 - t) + (-1) := by
        have := pk_m1 (c - 1 - (t + 1))
        rw [show c - 1 - (t + 1) + 1 = c - 1 - t by omega] at this
        exact this.symm
      have e2 : nI (i + 1 + (t + 1)) = nI (i + 1 + t) + 1 := by rw [nI_s]; congr 1
      rw [e1, e2] at nx
      exact nx
theorem l_nr2 (Q : hyQ) (c i : Nat) (f : Nat → Nat) (r : Nat → Int32) (h15 : M.2 15 = nI c) (hc : c ≤ 7) (hi : i + 1 < c) (hr : rowF r f c) (hf : ∀ k, k < c → f k < 8) (hd : ∀ j k, j < c → k < c → f j = f k → j = k) (h4 : f i < f (i + 1))
    (K : ∀ k, i < k → k < c → f i < f k → (∀ j, k < j → j < c → f j < f i) → hy_X none 5 mX6_nextRow Q 0 0 (68, [some (hy_r 30), some (.inl (nI i)), some (.inl (nI k)), none, none], [], wW N F S T C (wM (sa M 31 r)))) :
    ∀ (m k : Nat), k = m → i < k → k < c → (∀ j, k < j → j < c → f j < f i) → hy_X none 5 mX6_nextRow Q 0 0 (47, [some (hy_r 30), some (.inl (nI i)), some (.inl (nI k)), none, none], [], wW N F S T C (wM (sa M 31 r))) := by
  intro m
  induction m with
  | zero => intro k hm hk; omega
  | succ m ih =>
    intro k hm hk hkc hj
    have hcl : (nI i).toNatClampNeg = i := cl_nI (by omega)
    have hkl : (nI k).toNatClampNeg = k := cl_nI (by omega)
    have b1 := hf i (by omega)
    have b2 := hf k hkc
    refine hy_go hy_pfA oX6_nextRow [47, 68] 60 0 0 _ ?_
    refine And.intro (vn_in (by omega) (by decide)) (And.intro (vn_in (by omega) (by decide)) ?_)
    refine And.intro (fun q => ?_) (fun q => ?_)
    · have q : r (nI i).toNatClampNeg ≤ r (nI k).toNatClampNeg := q
      rw [hcl, hkl, hr i (by omega), hr k hkc, nI_le24 (by omega) (by omega)] at q
      have hne : f i ≠ f k := fun e => by have := hd i k (by omega) hkc e; omega
      exact K k hk hkc (by omega) hj
    · have q : ¬ r (nI i).toNatClampNeg ≤ r (nI k).toNatClampNeg := q
      rw [hcl, hkl, hr i (by omega), hr k hkc, nI_le24 (by omega) (by omega)] at q
      have hk2 : i + 1 < k := by
        by_cases e : k = i + 1
        · rw [e] at q; omega
        · omega
      have nx := ih (k - 1) (by omega) (by omega) (by omega) (fun j h1 h2 => by
        by_cases e : j = k
        · rw [e]; omega
        · exact hj j (by omega) h2)
      have e1 : nI (k - 1) = nI k + (-1) := by
        have := pk_m1 (k - 1)
        rw [show k - 1 + 1 = k by omega] at this
        exact this.symm
      rw [e1] at nx
      exact nx
theorem l_nr1 (Q : hyQ) (c : Nat) (f : Nat → Nat) (r : Nat → Int32) (h15 : M.2 15 = nI c) (hc : c ≤ 7) (hr : rowF r f c) (hf : ∀ k, k < c → f k < 8) (hd : ∀ j k, j < c → k < c → f j = f k → j = k)
    (K1 : ∀ i, i + 1 < c → f i < f (i + 1) → (∀ j, i + 1 ≤ j → j + 1 < c → f (j + 1) < f j) → hy_X none 5 mX6_nextRow Q 0 0 (34, [some (hy_r 30), some (.inl (nI i)), none, none, none], [], wW N F S T C (wM (sa M 31 r))))
    (K0 : (∀ j, 0 ≤ j → j + 1 < c → f (j + 1) < f j) → Q (some 0) (wW N F S T C (wM (sa M 31 r)))) :
    ∀ (m : Nat), m < c → (∀ j, m ≤ j → j + 1 < c → f (j + 1) < f j) → hy_X none 5 mX6_nextRow Q 0 0 (7, [some (hy_r 30), some (.inl (nI m - 1)), none, none, none], [], wW N F S T C (wM (sa M 31 r))) := by
  intro m
  induction m with
  | zero =>
    intro hm h4
    refine hy_go hy_pfA oX6_nextRow [7] 60 0 0 _ ?_
    refine And.intro (fun q => And.intro (fun q2 => absurd q2 (by decide)) (fun q2 => K0 h4)) (fun q => absurd (by decide) q)
  | succ m ih =>
    intro hm h4
    rw [nI_pred]
    have hcl : (nI m).toNatClampNeg = m := cl_nI (by omega)
    have hsl : (nI m + 1).toNatClampNeg = m + 1 := by rw [nI_s]; exact cl_nI (by omega)
    have b1 := hf m (by omega)
    have b2 := hf (m + 1) (by omega)
    refine hy_go hy_pfA oX6_nextRow [7, 34] 60 0 0 _ ?_
    refine And.intro (fun q => ?_) (fun q => ?_)
    · have q := zi_lt.mp q
      rw [zi_nI (by omega), zi_lit0] at q; omega
    · refine And.intro (vn_in (by omega) (by decide)) (And.intro (by rw [nI_s]; exact vn_in (by omega) (by decide)) ?_)
      refine And.intro (fun q2 => ?_) (fun q2 => ?_)
      · have q2 : r (nI m).toNatClampNeg ≤ r (nI m + 1).toNatClampNeg := q2
        rw [hcl, hsl, hr m (by omega), hr (m + 1) (by omega), nI_le24 (by omega) (by omega)] at q2
        have hne : f m ≠ f (m + 1) := fun e => by have := hd m (m + 1) (by omega) (by omega) e; omega
        exact K1 m (by omega) (by omega) h4
      · have q2 : ¬ r (nI m).toNatClampNeg ≤ r (nI m + 1).toNatClampNeg := q2
        rw [hcl, hsl, hr m (by omega), hr (m + 1) (by omega), nI_le24 (by omega) (by omega)] at q2
        have nx := ih (by omega) (fun j h1 h2 => by
          by_cases e : j = m
          · rw [e]; omega
          · exact h4 j (by omega) h2)
        have e1 : nI m - 1 = nI m + (-1) := Int32.sub_eq_add_neg _ _
        rw [e1] at nx
        exact nx
theorem sg_inj {f : Nat → Nat} {c : Nat} (hp : (sg f 0 c).Perm (List.range c)) : (∀ k, k < c → f k < c) ∧ ∀ j k, j < c → k < c → f j = f k → j = k := by
  constructor
  · intro k hk
    have := hp.mem_iff.mp (sg_mem.mpr ⟨k, hk, rfl⟩)
    rw [Nat.zero_add, List.mem_range] at this
    exact this
  · intro j k hj hk e
    have hn : (sg f 0 c).Nodup := hp.nodup_iff.mpr List.nodup_range
    have h1 : (sg f 0 c)[j]? = (sg f 0 c)[k]? := by
      rw [sg_get, sg_get, if_pos hj, if_pos hk, Nat.zero_add, Nat.zero_add, e]
    exact (List.getElem?_inj (by rw [sg_len]; exact hj) hn).mp h1
/-- the next row -/
theorem m_nextRow (c : Nat) (f : Nat → Nat) (r : Nat → Int32) (h15 : M.2 15 = nI c) (hc : c ≤ 7) (hr : rowF r f c) (hp : (sg f 0 c).Perm (List.range c)) : hy_R 5 mX6_nextRow 0 0 [hy_r 30] (wW N F S T C (wM (sa M 31 r))) (fun o w1 => ∃ x, o = some x ∧ ((x = 0 ∧ (∀ q : List Nat, q.Perm (List.range c) → rv q ≤ rv (sg f 0 c)) ∧ w1 = wW N F S T C (wM (sa M 31 r))) ∨ (x = 1 ∧ ∃ g r', rowF r' g c ∧ (sg g 0 c).Perm (List.range c) ∧ rv (sg f 0 c) < rv (sg g 0 c) ∧ (∀ q : List Nat, q.Perm (List.range c) → rv (sg f 0 c) < rv q → rv (sg g 0 c) ≤ rv q) ∧ w1 = wW N F S T C (wM (sa M 31 r'))))) := by
  obtain ⟨hf, hd⟩ := sg_inj hp
  refine hy_Rz (L := [some (hy_r 30), none, none, none, none]) rfl (by decide) (fun x w h => ?_) (hy_ple rfl) rfl ?_
  · rcases h with ⟨h, -⟩ | ⟨h, -⟩
    · exact Or.inl h
    · exact Or.inr h
  refine hy_go hy_pfA oX6_nextRow [7] 60 0 0 _ ?_
  by_cases hc0 : c = 0
  · subst hc0
    have e0 : M.2 15 - 2 = -2 := by rw [h15]; decide
    suffices g : hy_X none 5 mX6_nextRow (fun o w1 => ∃ x, o = some x ∧ ((x = 0 ∧ (∀ q : List Nat, q.Perm (List.range 0) → rv q ≤ rv (sg f 0 0)) ∧ w1 = wW N F S T C (wM (sa M 31 r))) ∨ (x = 1 ∧ ∃ g r', rowF r' g 0 ∧ (sg g 0 0).Perm (List.range 0) ∧ rv (sg f 0 0) < rv (sg g 0 0) ∧ (∀ q : List Nat, q.Perm (List.range 0) → rv (sg f 0 0) < rv q → rv (sg g 0 0) ≤ rv q) ∧ w1 = wW N F S T C (wM (sa M 31 r'))))) 0 0 (7, [some (hy_r 30), some (.inl (-2)), none, none, none], [], wW N F S T C (wM (sa M 31 r))) by
      rw [← e0] at g
      exact g
    refine hy_go hy_pfA oX6_nextRow [7] 60 0 0 _ ?_
    refine And.intro (fun q => And.intro (fun q2 => absurd q2 (by decide)) (fun q2 => hy_fin (Or.inl ⟨rfl, fun q hq => ?_, rfl⟩))) (fun q => absurd (by decide) q)
    rw [List.perm_nil.mp hq]; exact Nat.zero_le _
  · have e0 : nI (c - 1) - 1 = M.2 15 - 2 := by
      rw [h15]
      have a := nI_pred (c - 1)
      rw [show c - 1 + 1 = c by omega] at a
      rw [← a]
      rw [zi_eq]
      have z := zi_nI (n := c) (by omega)
      have w1 : (nI c - 1).toInt = (c : Int) - 1 := by
        rw [zi_sub]
        · rw [z]; rfl
        · rw [z]; show -2147483648 ≤ (c : Int) - 1; omega
        · rw [z]; show (c : Int) - 1 < 2147483648; omega
      have w2 : (nI c - 2).toInt = (c : Int) - 2 := by
        rw [zi_sub]
        · rw [z]; rfl
        · rw [z]; show -2147483648 ≤ (c : Int) - 2; omega
        · rw [z]; show (c : Int) - 2 < 2147483648; omega
      have w3 : (nI c - 1 - 1).toInt = (c : Int) - 1 - 1 := by
        rw [zi_sub]
        · rw [w1]; rfl
        · rw [w1]; show -2147483648 ≤ (c : Int) - 1 - 1; omega
        · rw [w1]; show (c : Int) - 1 - 1 < 2147483648; omega
      rw [w2, w3]; omega
    have key := l_nr1 N F S T C M (fun o w1 => ∃ x, o = some x ∧ ((x = 0 ∧ (∀ q : List Nat, q.Perm (List.range c) → rv q ≤ rv (sg f 0 c)) ∧ w1 = wW N F S T C (wM (sa M 31 r))) ∨ (x = 1 ∧ ∃ g r', rowF r' g c ∧ (sg g 0 c).Perm (List.range c) ∧ rv (sg f 0 c) < rv (sg g 0 c) ∧ (∀ q : List Nat, q.Perm (List.range c) → rv (sg f 0 c) < rv q → rv (sg g 0 c) ≤ rv q) ∧ w1 = wW N F S T C (wM (sa M 31 r'))))) c f r h15 hc hr (fun k hk => by have := hf k hk; omega) hd (fun i hi h3 h4 => by
        refine hy_go hy_pfA oX6_nextRow [47] 60 0 0 _ ?_
        refine And.intro (fun q => ?_) (fun q => absurd (nI_pos' (by omega)) q)
        have e1 : nI (c - 1) = M.2 15 - 1 := by
          rw [h15]
          have a := nI_pred (c - 1)
          rw [show c - 1 + 1 = c by omega] at a
          exact a.symm
        have lp := l_nr2 N F S T C M (fun o w1 => ∃ x, o = some x ∧ ((x = 0 ∧ (∀ q : List Nat, q.Perm (List.range c) → rv q ≤ rv (sg f 0 c)) ∧ w1 = wW N F S T C (wM (sa M 31 r))) ∨ (x = 1 ∧ ∃ g r', rowF r' g c ∧ (sg g 0 c).Perm (List.range c) ∧ rv (sg f 0 c) < rv (sg g 0 c) ∧ (∀ q : List Nat, q.Perm (List.range c) → rv (sg f 0 c) < rv q → rv (sg g 0 c) ≤ rv q) ∧ w1 = wW N F S T C (wM (sa M 31 r'))))) c i f r h15 hc hi hr (fun k hk => by have := hf k hk; omega) hd h3 (fun k k1 k2 k3 k5 => by
            refine hy_go hy_pfA oX6_nextRow [86] 60 0 0 _ ?_
            refine hy_cl (m_swaps N F S T C M r i k (by omega) (by omega)) rfl ?_
            rintro o w1 ⟨rfl, rfl⟩
            have hsw := sw2_row (c := c) hr (i := i) (k := k) (by omega) k2
            obtain ⟨n1, n2, n3⟩ := nxf_ok (by omega) hp k1 k2 k3 h4 k5
            have l3 := l_nr3 N F S T C M (fun o w1 => ∃ x, o = some x ∧ ((x = 0 ∧ (∀ q : List Nat, q.Perm (List.range c) → rv q ≤ rv (sg f 0 c)) ∧ w1 = wW N F S T C (wM (sa M 31 r))) ∨ (x = 1 ∧ ∃ g r', rowF r' g c ∧ (sg g 0 c).Perm (List.range c) ∧ rv (sg f 0 c) < rv (sg g 0 c) ∧ (∀ q : List Nat, q.Perm (List.range c) → rv (sg f 0 c) < rv q → rv (sg g 0 c) ≤ rv q) ∧ w1 = wW N F S T C (wM (sa M 31 r'))))) c i (some (.inl (nI k))) (sw2 f i k) h15 hc hi (fun r' hr' => ⟨1, rfl, Or.inr ⟨rfl, nxf f i k c, r', hr', n2, n1, n3, rfl⟩⟩) c 0 (upd (upd r i (r k)) k (r i)) (by omega) (by omega) (fun j hj => by
                rw [hsw j hj]
                unfold rvf
                rw [if_neg (by omega)])
            rw [show c - 1 - 0 = c - 1 by omega, e1, show i + 1 + 0 = i + 1 by omega, ← nI_s] at l3
            exact l3) (c - 1) (c - 1) rfl (by omega) (by omega) (fun j h1 h2 => by omega)
        rw [e1] at lp
        exact lp) (fun h4 => ⟨0, rfl, Or.inl ⟨rfl, desc_last (by omega) hp h4, rfl⟩⟩) (c - 1) (by omega) (fun j h1 h2 => by omega)
    rw [e0] at key
    exact key
end
end
section
/-! ===== the reference's spin yard: ends, all rows ===== -/
theorem sub1_I {m : Nat} (h : m < 1000000) : (nI m - 1).toInt = (m : Int) - 1 := by
  have z := zi_nI (n := m) (by omega)
  rw [zi_sub]
  · rw [z]; rfl
  · rw [z]; show -2147483648 ≤ (m : Int) - 1; omega
  · rw [z]; show (m : Int) - 1 < 2147483648; omega
theorem sub1_lt {m k : Nat} (h : m < 1000000) (hk : k < 1000000) : nI m - 1 < nI k ↔ m ≤ k := by
  rw [zi_lt, sub1_I h, zi_nI (by omega)]; omega
theorem sg_s (f : Nat → Nat) (k : Nat) : sg f 0 (k + 1) = sg f 0 k ++ [f k] := by
  rw [sg_add, sg_one, Nat.zero_add]
section
variable (N F S T C M : hyB) (so ho du wo : Nat → Nat) (ch c : Nat)
theorem l_m_endOf (Q : hyQ) (fl : Int32) (g : Nat → Nat) (m : Nat) (hM : iSM M so ho du wo ch c) (hm : m ≤ 7) (hg : ∀ k, k < m → (if fl = 0 then M.1 31 else M.1 32) k = nI (g k) ∧ g k < 7)
    (K : Q (some (nI (rn so ho du wo ch (sg g 0 m) (0, 0, 0)).1)) (wW N F S T C (wM (ss M 33 (nI (rn so ho du wo ch (sg g 0 m) (0, 0, 0)).2.2))))) :
    ∀ (j k : Nat) (x6 : Option hyV), m - k = j → k ≤ m → hy_X none 4 mX6_endOf Q 0 0 (13, [some (hy_r 30), some (.inl (nI m - 1)), some (.inl fl), some (.inl (nI (rn so ho du wo ch (sg g 0 k) (0, 0, 0)).1)), some (.inl (nI (rn so ho du wo ch (sg g 0 k) (0, 0, 0)).2.1)), some (.inl (nI k)), x6], [], wW N F S T C (wM (ss M 33 (nI (rn so ho du wo ch (sg g 0 k) (0, 0, 0)).2.2)))) := by
  obtain ⟨d0, d1, d2, d3, d4⟩ := id hM
  intro j
  induction j with
  | zero =>
    intro k x6 hj hk
    have : k = m := by omega
    subst this
    refine hy_go hy_pfA oX6_endOf [13] 80 0 0 _ ?_
    exact And.intro (fun q => K) (fun q => absurd ((sub1_lt (by omega) (by omega)).mpr (by omega)) q)
  | succ j ih =>
    intro k x6 hj hk
    obtain ⟨g1, g2⟩ := hg k (by omega)
    have hcl : (nI k).toNatClampNeg = k := cl_nI (by omega)
    have hgl : (nI (g k)).toNatClampNeg = g k := cl_nI (by omega)
    have hin : vp_in (nI k) 7 := vn_in (by omega) (by decide)
    have hgn : vp_in (nI (g k)) 7 := vn_in g2 (by decide)
    obtain ⟨o1, o2, o3, o4, o5, o6, o7, o8⟩ := d0 (g k)
    have nx := fun x => ih (k + 1) x (by omega) (by omega)
    have bd := rn_bd so ho du wo ch (fun o => (d0 o).2.2.2.2.2.1) (fun o => (d0 o).2.2.2.2.2.2.2) d2 (sg g 0 k) 0 0 0 0 (by omega) (by omega) (by rw [sg_len]; omega)
    have bs := rn_sort so ho du wo ch (fun o => (d0 o).2.2.2.2.1) (sg g 0 k) 0 0 0 (by omega)
    rw [sg_len] at bd
    rw [sg_s, rn_app] at nx
    generalize rn so ho du wo ch (sg g 0 k) (0, 0, 0) = st at *
    obtain ⟨h, s, l⟩ := st
    dsimp only [rn] at *
    have k40 : hy_X none 4 mX6_endOf Q 0 0 (42, [some (hy_r 30), some (.inl (nI m - 1)), some (.inl fl), some (.inl (nI h)), some (.inl (nI s)), some (.inl (nI k)), some (.inl (nI (g k)))], [], wW N F S T C (wM (ss M 33 (nI l)))) := by
      have f0 : M.1 16 (nI (g k)).toNatClampNeg = nI (so (g k)) := by rw [hgl]; exact o1
      have f1 : M.1 17 (nI (g k)).toNatClampNeg = nI (ho (g k)) := by rw [hgl]; exact o2
      have f2 : M.1 18 (nI (g k)).toNatClampNeg = nI (du (g k)) := by rw [hgl]; exact o3
      have f3 : M.1 19 (nI (g k)).toNatClampNeg = nI (wo (g k)) := by rw [hgl]; exact o4
      have k82 : hy_X none 4 mX6_endOf Q 0 0 (82, [some (hy_r 30), some (.inl (nI m - 1)), some (.inl fl), some (.inl (nI (en so ho ch h s (g k)))), some (.inl (M.1 16 (nI (g k)).toNatClampNeg)), some (.inl (nI k)), some (.inl (nI (g k)))], [], wW N F S T C (wM (ss M 33 (nI l)))) := by
        have nx := nx (some (.inl (nI (g k))))
        rw [← nI_s, ← f0] at nx
        have hen : en so ho ch h s (g k) ≤ 150 * 8 := by
          unfold en
          split <;> omega
        refine hy_go hy_pfA oX6_endOf [13] 80 0 0 _ ?_
        refine And.intro hgn ?_
        refine And.intro (fun q => ?_) (fun q => ?_)
        · have q : nI (en so ho ch h s (g k)) ≤ M.1 18 (nI (g k)).toNatClampNeg := q
          rw [f2, nI_le24 (by omega) (by omega)] at q
          have e : la so ho du wo ch h s l (g k) = l := by
            unfold la
            rw [show en so ho ch h s (g k) - du (g k) = 0 by omega, Nat.zero_mul, Nat.add_zero]
          rw [e, ← Int32.add_zero (nI l)] at nx
          exact nx
        · have q : ¬ nI (en so ho ch h s (g k)) ≤ M.1 18 (nI (g k)).toNatClampNeg := q
          rw [f2, nI_le24 (by omega) (by omega)] at q
          refine And.intro hgn (And.intro hgn ?_)
          have e : nI (la so ho du wo ch h s l (g k)) = nI l + (nI (en so ho ch h s (g k)) - M.1 18 (nI (g k)).toNatClampNeg) * M.1 19 (nI (g k)).toNatClampNeg := by
            rw [f2, f3, pk_sub (by omega), pk_mul, nI_add]; rfl
          rw [e] at nx
          exact nx
      refine hy_go hy_pfA oX6_endOf [82] 80 0 0 _ ?_
      refine And.intro hgn ?_
      refine And.intro (fun q => ?_) (fun q => ?_)
      · have q : M.1 16 (nI (g k)).toNatClampNeg = nI s := q
        rw [f0, nI_eqI (by omega) (by omega)] at q
        refine And.intro hgn (And.intro hgn ?_)
        have e : nI (en so ho ch h s (g k)) = nI h + (0 + M.1 17 (nI (g k)).toNatClampNeg) := by
          rw [f1]
          unfold en
          rw [if_pos q, ← nI_add, Int32.zero_add]
        rw [e] at k82
        exact k82
      · have q : ¬ M.1 16 (nI (g k)).toNatClampNeg = nI s := q
        rw [f0, nI_eqI (by omega) (by omega)] at q
        refine And.intro hgn (And.intro hgn ?_)
        have e : nI (en so ho ch h s (g k)) = nI h + (M.2 20 + M.1 17 (nI (g k)).toNatClampNeg) := by
          rw [f1, d1, nI_add, nI_add]
          unfold en
          rw [if_neg q]
          congr 1; omega
        rw [e] at k82
        exact k82
    refine hy_go hy_pfA oX6_endOf [42] 80 0 0 _ ?_
    refine And.intro (fun q => ?_) (fun q => ?_)
    · rw [sub1_lt (by omega) (by omega)] at q; omega
    · refine And.intro (fun q2 => ?_) (fun q2 => ?_)
      · refine And.intro hin ?_
        rw [if_pos q2] at g1
        have e : M.1 31 (nI k).toNatClampNeg = nI (g k) := by rw [hcl]; exact g1
        rw [← e] at k40
        exact k40
      · refine And.intro hin ?_
        rw [if_neg q2] at g1
        have e : M.1 32 (nI k).toNatClampNeg = nI (g k) := by rw [hcl]; exact g1
        rw [← e] at k40
        exact k40
theorem m_endOf (fl : Int32) (g : Nat → Nat) (m : Nat) (hM : iSM M so ho du wo ch c) (hm : m ≤ 7) (hg : ∀ k, k < m → (if fl = 0 then M.1 31 else M.1 32) k = nI (g k) ∧ g k < 7) : hy_R 4 mX6_endOf 0 0 [hy_r 30, .inl (nI m - 1), .inl fl] (wW N F S T C (wM M)) (fun o w1 => ∃ x, o = some x ∧ x = nI (rn so ho du wo ch (sg g 0 m) (0, 0, 0)).1 ∧ w1 = wW N F S T C (wM (ss M 33 (nI (rn so ho du wo ch (sg g 0 m) (0, 0, 0)).2.2)))) := by
  refine hy_Ri (L := [some (hy_r 30), some (.inl (nI m - 1)), some (.inl fl), none, none, none, none]) rfl (by decide) (hy_ple rfl) rfl ?_
  refine hy_go hy_pfA oX6_endOf [13] 60 0 0 _ ?_
  exact l_m_endOf N F S T C M so ho du wo ch c _ fl g m hM hm hg ⟨_, rfl, rfl, rfl⟩ m 0 none (by omega) (by omega)
def scrP (M M' : hyB) : Prop := (∀ k, k ≠ 31 → k ≠ 32 → M'.1 k = M.1 k) ∧ ∀ k, k ≠ 33 → M'.2 k = M.2 k
theorem scrP_refl (M : hyB) : scrP M M := ⟨fun _ _ _ => rfl, fun _ _ => rfl⟩
theorem scrP_mk (M : hyB) (v : Int32) (r bf : Nat → Int32) : scrP M (sa (sa (ss M 33 v) 32 bf) 31 r) := by
  refine ⟨fun k h1 h2 => ?_, fun k h1 => ?_⟩
  · show sv (sv M.1 32 bf) 31 r k = M.1 k
    rw [sv_ne h1, sv_ne h2]
  · show sv M.2 33 v k = M.2 k
    rw [sv_ne h1]
theorem scrP_mk3 {M M' : hyB} (h : scrP M M') (v : Int32) : scrP M (ss M' 33 v) := by
  refine ⟨h.1, fun k h1 => ?_⟩
  show sv M'.2 33 v k = M.2 k
  rw [sv_ne h1]; exact h.2 k h1
theorem l_sp2 (Q : hyQ) (x1 x2 x3 : Option hyV) (r : Nat → Int32) (v : Int32) (h15 : M.2 15 = nI c) (hc : c ≤ 7) (bf : Nat → Int32)
    (K : hy_X none 6 mX6_spins Q 0 0 (89, [some (hy_r 30), x1, x2, x3, some (.inl (nI c))], [], wW N F S T C (wM (sa (sa (ss M 33 v) 32 (cpf r bf c)) 31 r)))) :
    ∀ (j i : Nat), c - i = j → i ≤ c → hy_X none 6 mX6_spins Q 0 0 (60, [some (hy_r 30), x1, x2, x3, some (.inl (nI i))], [], wW N F S T C (wM (sa (sa (ss M 33 v) 32 (cpf r bf i)) 31 r))) := by
  intro j
  induction j with
  | zero =>
    intro i hj hi
    have : i = c := by omega
    subst this
    refine hy_go hy_pfA oX6_spins [60, 89] 60 0 0 _ ?_
    refine And.intro (fun q => K) (fun q => absurd ?_ q)
    show M.2 15 ≤ nI i
    rw [h15]; exact Int32.le_refl _
  | succ j ih =>
    intro i hj hi
    have hcl : (nI i).toNatClampNeg = i := cl_nI (by omega)
    have hin : vp_in (nI i) 7 := vn_in (by omega) (by decide)
    refine hy_go hy_pfA oX6_spins [60, 89] 60 0 0 _ ?_
    refine And.intro (fun q => ?_) (fun q => ?_)
    · have q : M.2 15 ≤ nI i := q
      rw [h15, nI_le24 (by omega) (by omega)] at q
      omega
    · refine And.intro hin (And.intro hin ?_)
      have nx := ih (i + 1) (by omega) (by omega)
      rw [← nI_s, cpf_s] at nx
      have e : upd (cpf r bf i) (nI i).toNatClampNeg (r (nI i).toNatClampNeg) = upd (cpf r bf i) i (r i) := by rw [hcl]
      rw [← e] at nx
      exact nx
/-- all rows, one behind the other -/
theorem l_sp1 (Q : hyQ) (hM : iSM M so ho du wo ch c) (K : ∀ (B : Nat) (b : List Nat) (v : Int32) (r bf : Nat → Int32), bestR (tot so ho du wo ch) c B b → rowIs bf b → B < 1000000 → Q (some (nI B)) (wW N F S T C (wM (sa (sa (ss M 33 v) 32 bf) 31 r)))) :
    ∀ (m : Nat) (f : Nat → Nat) (r bf : Nat → Int32) (v : Int32) (L : Nat) (b : List Nat) (x3 x4 : Option hyV), 8 ^ c - rv (sg f 0 c) = m → rowF r f c → (sg f 0 c).Perm (List.range c) → usp (tot so ho du wo ch) (fun q => q.Perm (List.range c) ∧ rv q < rv (sg f 0 c)) 1000000000 [] L b → rowIs bf b → L ≤ 1000000000 → hy_X none 6 mX6_spins Q 0 0 (28, [some (hy_r 30), some (.inl (nI L)), some (.inl 1), x3, x4], [], wW N F S T C (wM (sa (sa (ss M 33 v) 32 bf) 31 r))) := by
  obtain ⟨d0, d1, d2, d3, d4⟩ := id hM
  intro m
  induction m using Nat.strongRecOn with
  | ind m ih =>
    intro f r bf v L b x3 x4 hm hr hp hu hb hL
    obtain ⟨hf, hd⟩ := sg_inj hp
    have hsm : sm (sg f 0 c) := fun x hx => by
      have := hp.mem_iff.mp hx
      rw [List.mem_range] at this; omega
    have hlt := rv_lt hsm
    rw [sg_len] at hlt
    have htot : tot so ho du wo ch (sg f 0 c) = (rn so ho du wo ch (sg f 0 c) (0, 0, 0)).2.2 := (rn_lf so ho du wo ch _ 0 0 0).symm
    have hbd : tot so ho du wo ch (sg f 0 c) < 1000000 := by
      have := rn_bd so ho du wo ch (fun o => (d0 o).2.2.2.2.2.1) (fun o => (d0 o).2.2.2.2.2.2.2) d2 (sg f 0 c) 0 0 0 0 (by omega) (by omega) (by rw [sg_len]; omega)
      rw [sg_len] at this
      rw [htot]; omega
    -- behind the evaluation of the row
    have tail : ∀ (L' : Nat) (b' : List Nat) (bf' : Nat → Int32) (x3 x4 : Option hyV) (v' : Int32), usp (tot so ho du wo ch) (fun q => q = sg f 0 c) L b L' b' → rowIs bf' b' → L' ≤ 1000000000 → hy_X none 6 mX6_spins Q 0 0 (89, [some (hy_r 30), some (.inl (nI L')), some (.inl 1), x3, x4], [], wW N F S T C (wM (sa (sa (ss M 33 v') 32 bf') 31 r))) := by
      intro L' b' bf' x3 x4 v' hu' hb' hL'
      have hcat : usp (tot so ho du wo ch) (fun q => q.Perm (List.range c) ∧ rv q ≤ rv (sg f 0 c)) 1000000000 [] L' b' := usp_cat hu hu' (fun p => by
        constructor
        · rintro ⟨h1, h2⟩
          by_cases e : rv p = rv (sg f 0 c)
          · refine Or.inr (rv_inj (by rw [h1.length_eq, sg_len]; simp) (fun x hx => ?_) hsm e)
            have := h1.mem_iff.mp hx
            rw [List.mem_range] at this; omega
          · exact Or.inl ⟨h1, by omega⟩
        · rintro (h | h)
          · exact ⟨h.1, by omega⟩
          · rw [h]; exact ⟨hp, Nat.le_refl _⟩) (fun p q h1 h2 => by
          have h2 : q = sg f 0 c := h2
          rw [h2]; exact Nat.le_of_lt h1.2)
      refine hy_go hy_pfA oX6_spins [28] 60 0 0 _ ?_
      refine hy_cl (m_nextRow N F S T C (sa (ss M 33 v') 32 bf') c f r d3 d4 hr hp) rfl ?_
      rintro o w1 ⟨x, rfl, ⟨rfl, h1, rfl⟩ | ⟨rfl, g, r', g1, g2, g3, g4, rfl⟩⟩
      · have hbest : bestR (tot so ho du wo ch) c L' b' ∧ L' < 1000000 := by
          rcases hcat with ⟨e1, e2, e3⟩ | ⟨e1, e2, e3, e4⟩
          · have := e3 (sg f 0 c) ⟨hp, Nat.le_refl _⟩
            omega
          · refine ⟨⟨e2.1, e3, fun p hp2 => e4 p ⟨hp2, h1 p hp2⟩⟩, ?_⟩
            have := (e4 (sg f 0 c) ⟨hp, Nat.le_refl _⟩).1
            omega
        have fin := K L' b' v' r bf' hbest.1 hb' hbest.2
        suffices gg : hy_X none 6 mX6_spins Q 0 0 (28, [some (hy_r 30), some (.inl (nI L')), some (.inl 0), x3, x4], [], wW N F S T C (wM (sa (sa (ss M 33 v') 32 bf') 31 r))) from gg
        refine hy_go hy_pfA oX6_spins [28] 60 0 0 _ ?_
        exact And.intro (fun q => fin) (fun q => absurd rfl q)
      · have hsm2 : sm (sg g 0 c) := fun x hx => by
          have := g2.mem_iff.mp hx
          rw [List.mem_range] at this; omega
        have hlt2 := rv_lt hsm2
        rw [sg_len] at hlt2
        have nx := ih (8 ^ c - rv (sg g 0 c)) (by omega) g r' bf' v' L' b' x3 x4 rfl g1 g2 (usp_iff hcat (fun p => by
          constructor
          · rintro ⟨h1, h2⟩
            exact ⟨h1, by omega⟩
          · rintro ⟨h1, h2⟩
            refine ⟨h1, ?_⟩
            apply Classical.byContradiction
            intro h3
            have := g4 p h1 (by omega)
            omega)) hb' hL'
        exact nx
    refine hy_go hy_pfA oX6_spins [60, 89] 60 0 0 _ ?_
    refine And.intro (fun q => absurd q (by decide)) (fun q => ?_)
    have hend : hy_R 4 mX6_endOf 0 0 [hy_r 30, .inl (M.2 15 - 1), .inl 0] (wW N F S T C (wM (sa (sa (ss M 33 v) 32 bf) 31 r))) (fun o w1 => ∃ x, o = some x ∧ x = nI (rn so ho du wo ch (sg f 0 c) (0, 0, 0)).1 ∧ w1 = wW N F S T C (wM (ss (sa (sa (ss M 33 v) 32 bf) 31 r) 33 (nI (rn so ho du wo ch (sg f 0 c) (0, 0, 0)).2.2)))) := by
      rw [d3]
      exact m_endOf N F S T C (sa (sa (ss M 33 v) 32 bf) 31 r) so ho du wo ch c 0 f c hM d4 (fun k hk => ⟨hr k hk, by have := hf k hk; omega⟩)
    refine hy_cl hend rfl ?_
    rintro o w1 ⟨x, rfl, rfl, rfl⟩
    rw [← htot]
    refine And.intro (fun q2 => ?_) (fun q2 => ?_)
    · have q2 : nI L ≤ nI (tot so ho du wo ch (sg f 0 c)) := q2
      rw [nI_le24 (by omega) (by omega)] at q2
      have := tail L b bf (some (.inl (nI (rn so ho du wo ch (sg f 0 c) (0, 0, 0)).1))) x4 (nI (tot so ho du wo ch (sg f 0 c))) (usp_none (fun p hp2 => by
        have hp2 : p = sg f 0 c := hp2
        rw [hp2]; exact q2)) hb hL
      exact this
    · have q2 : ¬ nI L ≤ nI (tot so ho du wo ch (sg f 0 c)) := q2
      rw [nI_le24 (by omega) (by omega)] at q2
      have t2 := tail (tot so ho du wo ch (sg f 0 c)) (sg f 0 c) (cpf r bf c) (some (.inl (nI (rn so ho du wo ch (sg f 0 c) (0, 0, 0)).1))) (some (.inl (nI c))) (nI (tot so ho du wo ch (sg f 0 c))) (Or.inr ⟨by omega, rfl, rfl, fun p hp2 => by
        have hp2 : p = sg f 0 c := hp2
        rw [hp2]; exact ⟨Nat.le_refl _, fun _ => Nat.le_refl _⟩⟩) (fun i x hx => by
          rw [sg_get] at hx
          split at hx
          · rename_i hi
            cases hx
            unfold cpf
            rw [if_pos hi, Nat.zero_add]; exact hr i hi
          · cases hx) (by omega)
      have l2 := l_sp2 N F S T C M c Q (some (.inl (nI (tot so ho du wo ch (sg f 0 c))))) (some (.inl 1)) (some (.inl (nI (rn so ho du wo ch (sg f 0 c) (0, 0, 0)).1))) r (nI (tot so ho du wo ch (sg f 0 c))) d3 d4 bf t2 c 0 (by omega) (by omega)
      rw [cpf_0] at l2
      exact l2
theorem l_sp0 (Q : hyQ) (h15 : M.2 15 = nI c) (hc : c ≤ 7) (K : ∀ r, rowF r id c → hy_X none 6 mX6_spins Q 0 0 (23, [some (hy_r 30), some (.inl (nI c)), none, none, none], [], wW N F S T C (wM (sa M 31 r)))) :
    ∀ (j i : Nat) (r : Nat → Int32), c - i = j → i ≤ c → rowF r id i → hy_X none 6 mX6_spins Q 0 0 (2, [some (hy_r 30), some (.inl (nI i)), none, none, none], [], wW N F S T C (wM (sa M 31 r))) := by
  intro j
  induction j with
  | zero =>
    intro i r hj hi hr
    have : i = c := by omega
    subst this
    refine hy_go hy_pfA oX6_spins [2, 23] 60 0 0 _ ?_
    refine And.intro (fun q => K r hr) (fun q => absurd ?_ q)
    show M.2 15 ≤ nI i
    rw [h15]; exact Int32.le_refl _
  | succ j ih =>
    intro i r hj hi hr
    have hcl : (nI i).toNatClampNeg = i := cl_nI (by omega)
    have hin : vp_in (nI i) 7 := vn_in (by omega) (by decide)
    refine hy_go hy_pfA oX6_spins [2, 23] 60 0 0 _ ?_
    refine And.intro (fun q => ?_) (fun q => ?_)
    · have q : M.2 15 ≤ nI i := q
      rw [h15, nI_le24 (by omega) (by omega)] at q
      omega
    · refine And.intro hin ?_
      have nx := ih (i + 1) (upd r (nI i).toNatClampNeg (nI i)) (by omega) (by omega) (fun k hk => by
        rw [hcl]
        unfold upd
        by_cases e : k = i
        · rw [if_pos e, e]; rfl
        · rw [if_neg e]; exact hr k (by omega))
      rw [← nI_s] at nx
      exact nx
theorem sg_id (c : Nat) : sg id 0 c = List.range c := by
  apply List.ext_getElem?
  intro i
  rw [sg_get]
  by_cases h : i < c
  · rw [if_pos h, List.getElem?_range h]; simp
  · rw [if_neg h, List.getElem?_eq_none (by simp; omega)]
theorem m_spins (hM : iSM M so ho du wo ch c) : hy_R 6 mX6_spins 0 0 [hy_r 30] (wW N F S T C (wM M)) (fun o w1 => ∃ x, o = some x ∧ ∃ M' B b, x = nI B ∧ B < 1000000 ∧ scrP M M' ∧ bestR (tot so ho du wo ch) c B b ∧ rowIs (M'.1 32) b ∧ w1 = wW N F S T C (wM M')) := by
  obtain ⟨d0, d1, d2, d3, d4⟩ := id hM
  refine hy_Ri (L := [some (hy_r 30), none, none, none, none]) rfl (by decide) (hy_ple rfl) rfl ?_
  refine hy_go hy_pfA oX6_spins [2] 60 0 0 _ ?_
  refine l_sp0 N F S T C M c _ d3 d4 (fun r hr => ?_) c 0 (M.1 31) (by omega) (by omega) (fun k hk => by omega)
  refine hy_go hy_pfA oX6_spins [28] 60 0 0 _ ?_
  have hp : (sg id 0 c).Perm (List.range c) := by rw [sg_id]
  have hmin : ∀ q : List Nat, q.Perm (List.range c) → rv (List.range c) ≤ rv q := fun q hq => rv_min List.pairwise_lt_range (fun x hx => by have := List.mem_range.mp hx; omega) hq
  have := l_sp1 N F S T C M so ho du wo ch c (fun o w1 => ∃ x, o = some x ∧ ∃ M' B b, x = nI B ∧ B < 1000000 ∧ scrP M M' ∧ bestR (tot so ho du wo ch) c B b ∧ rowIs (M'.1 32) b ∧ w1 = wW N F S T C (wM M')) hM (fun B b v r bf h1 h2 h3 => ⟨_, rfl, _, B, b, rfl, h3, scrP_mk M v r bf, h1, h2, rfl⟩) _ id r (M.1 32) (M.2 33) 1000000000 [] none none rfl hr hp (usp_none (fun p hp2 => by
    rw [sg_id] at hp2
    have := hmin p hp2.1
    omega)) (fun i x hx => by simp at hx) (by omega)
  exact this
end
end
section
/-! ===== the ends of the spin yard: reference, and the yard's own face ===== -/
section
variable (N F S T C M : hyB) (so ho du wo : Nat → Nat) (ch c : Nat)
theorem m_late (hM : iSM M so ho du wo ch c) : hy_R 7 mX6_late 0 0 [hy_r 30] (wW N F S T C (wM M)) (fun o w1 => ∃ x, o = some x ∧ ∃ M' B b, x = nI B ∧ scrP M M' ∧ bestR (tot so ho du wo ch) c B b ∧ w1 = wW N F S T C (wM M')) := by
  refine hy_Ri (L := [some (hy_r 30)]) rfl (by decide) (hy_ple rfl) rfl ?_
  refine hy_go hy_pfA oX6_late [] 60 0 0 _ ?_
  refine hy_cl (m_spins N F S T C M so ho du wo ch c hM) rfl ?_
  rintro o w1 ⟨x, rfl, M', B, b, h1, h2, h3, h4, h5, rfl⟩
  exact hy_fin ⟨M', B, b, h1, h3, h4, rfl⟩
theorem iSM_scr {M M' : hyB} {so ho du wo : Nat → Nat} {ch c : Nat} (h : iSM M so ho du wo ch c) (hs : scrP M M') : iSM M' so ho du wo ch c := by
  obtain ⟨d0, d1, d2, d3, d4⟩ := h
  refine ⟨?_, (hs.2 20 (by decide)).trans d1, d2, (hs.2 15 (by decide)).trans d3, d4⟩
  rw [hs.1 16 (by decide) (by decide), hs.1 17 (by decide) (by decide), hs.1 18 (by decide) (by decide), hs.1 19 (by decide) (by decide)]
  exact d0
/-- what spun answers -/
def sp_spun (so ho du wo : Nat → Nat) (ch c : Nat) (a b x : Int32) : Prop :=
  (b.toInt = 0 ∧ ((∃ k B l y, k < c ∧ a = nI k ∧ bestR (tot so ho du wo ch) c B l ∧ l[k]? = some y ∧ x = nI y) ∨ ((¬ ∃ k, k < c ∧ a = nI k) ∧ x = -1))) ∨
  (b.toInt = 1 ∧ ((∃ k B l, k < c ∧ a = nI k ∧ bestR (tot so ho du wo ch) c B l ∧ x = nI (rn so ho du wo ch (l.take (k + 1)) (0, 0, 0)).1) ∨ ((¬ ∃ k, k < c ∧ a = nI k) ∧ x = -1))) ∨ (¬ b.toInt = 0 ∧ ¬ b.toInt = 1 ∧ x = -1)
theorem nI_inj24 {a b : Nat} (ha : a < 2147483648) (hb : b < 2147483648) (h : nI a = nI b) : a = b := (nI_eqI ha hb).mp h
theorem sp_spun_eq {so ho du wo : Nat → Nat} {ch c : Nat} {a b x x2 : Int32} (hc : c ≤ 7) (h : sp_spun so ho du wo ch c a b x) (h2 : sp_spun so ho du wo ch c a b x2) : x = x2 := by
  rcases h with ⟨h0, h⟩ | ⟨h0, h⟩ | ⟨h0, h1, h⟩
  · rcases h2 with ⟨g0, g⟩ | ⟨g0, g⟩ | ⟨g0, g1, g⟩
    · rcases h with ⟨k, B, l, y, a1, a2, a3, a4, a5⟩ | ⟨a1, a2⟩
      · rcases g with ⟨k', B', l', y', b1, b2, b3, b4, b5⟩ | ⟨b1, b2⟩
        · have e := nI_inj24 (by omega) (by omega) (a2.symm.trans b2)
          subst e
          obtain ⟨-, e2⟩ := bestR_eq (by omega) a3 b3
          subst e2
          rw [a4] at b4
          cases b4
          rw [a5, b5]
        · exact absurd ⟨k, a1, a2⟩ b1
      · rcases g with ⟨k', B', l', y', b1, b2, b3, b4, b5⟩ | ⟨b1, b2⟩
        · exact absurd ⟨k', b1, b2⟩ a1
        · rw [a2, b2]
    · omega
    · exact absurd h0 g0
  · rcases h2 with ⟨g0, g⟩ | ⟨g0, g⟩ | ⟨g0, g1, g⟩
    · omega
    · rcases h with ⟨k, B, l, a1, a2, a3, a5⟩ | ⟨a1, a2⟩
      · rcases g with ⟨k', B', l', b1, b2, b3, b5⟩ | ⟨b1, b2⟩
        · have e := nI_inj24 (by omega) (by omega) (a2.symm.trans b2)
          subst e
          obtain ⟨-, e2⟩ := bestR_eq (by omega) a3 b3
          subst e2
          rw [a5, b5]
        · exact absurd ⟨k, a1, a2⟩ b1
      · rcases g with ⟨k', B', l', b1, b2, b3, b5⟩ | ⟨b1, b2⟩
        · exact absurd ⟨k', b1, b2⟩ a1
        · rw [a2, b2]
    · exact absurd h0 g1
  · rcases h2 with ⟨g0, g⟩ | ⟨g0, g⟩ | ⟨g0, g1, g⟩
    · exact absurd g0 h0
    · exact absurd g0 h1
    · rw [h, g]
theorem lget {b : List Nat} {k : Nat} (h : k < b.length) : b[k]? = some (b.getD k 0) := by
  rw [List.getD_eq_getElem?_getD, List.getElem?_eq_getElem h]; rfl
theorem sg_getD {b : List Nat} {m : Nat} (h : m ≤ b.length) : sg (fun k => b.getD k 0) 0 m = b.take m := by
  apply List.ext_getElem?
  intro i
  rw [sg_get, List.getElem?_take]
  by_cases q : i < m
  · rw [if_pos q, if_pos q, Nat.zero_add, lget (by omega)]
  · rw [if_neg q, if_neg q]
theorem m_spun (a b : Int32) (hM : iSM M so ho du wo ch c) : hy_R 7 mX6_spun 0 0 [hy_r 30, .inl a, .inl b] (wW N F S T C (wM M)) (fun o w1 => ∃ x, o = some x ∧ sp_spun so ho du wo ch c a b x ∧ ∃ M', scrP M M' ∧ w1 = wW N F S T C (wM M')) := by
  obtain ⟨d0, d1, d2, d3, d4⟩ := id hM
  refine hy_Ri (L := [some (hy_r 30), some (.inl a), some (.inl b), none]) rfl (by decide) (hy_ple rfl) rfl ?_
  refine hy_go hy_pfA oX6_spun [] 60 0 0 _ ?_
  refine And.intro (fun q => ?_) (fun q => And.intro (fun q2 => ?_) (fun q2 => ?_))
  · rw [d3] at q
    refine hy_fin ⟨?_, M, scrP_refl M, rfl⟩
    have hno := net_out (n := c) (by omega) q
    by_cases e0 : b.toInt = 0
    · exact Or.inl ⟨e0, Or.inr ⟨hno, rfl⟩⟩
    · by_cases e1 : b.toInt = 1
      · exact Or.inr (Or.inl ⟨e1, Or.inr ⟨hno, rfl⟩⟩)
      · exact Or.inr (Or.inr ⟨e0, e1, rfl⟩)
  · refine hy_fin ⟨Or.inr (Or.inr ⟨fun e => ?_, fun e => ?_, rfl⟩), M, scrP_refl M, rfl⟩
    · exact g_within_I q2 (by rw [e]; decide)
    · exact g_within_I q2 (by rw [e]; decide)
  · rw [d3] at q
    obtain ⟨k, hk, rfl⟩ := net_in (by omega) q
    have hb : 0 ≤ b.toInt ∧ b.toInt ≤ 1 := g_within_nI q2
    have hcl : (nI k).toNatClampNeg = k := cl_nI (by omega)
    refine hy_cl (m_spins N F S T C M so ho du wo ch c hM) rfl ?_
    rintro o w1 ⟨x, rfl, M', B, l, h1, h2, h3, h4, h5, rfl⟩
    have hlen : l.length = c := by rw [h4.1.length_eq]; simp
    refine And.intro (fun q3 => ?_) (fun q3 => ?_)
    · refine And.intro (vn_in (by omega) (by decide)) ?_
      have hb0 : b.toInt = 0 := by rw [q3]; rfl
      have hl : l[k]? = some l[k] := List.getElem?_eq_getElem (by omega)
      refine hy_fin ⟨Or.inl ⟨hb0, Or.inl ⟨k, B, l, l[k], hk, rfl, h4, hl, ?_⟩⟩, M', h3, rfl⟩
      show M'.1 32 (nI k).toNatClampNeg = _
      rw [hcl]; exact h5 k _ hl
    · have hb1 : b.toInt = 1 := by
        have : ¬ b.toInt = 0 := fun e => q3 (zi_eq.mpr e)
        omega
      have hg : ∀ j, j < k + 1 → (if (1 : Int32) = 0 then M'.1 31 else M'.1 32) j = nI (l.getD j 0) ∧ l.getD j 0 < 7 := fun j hj => by
        have hj2 := lget (b := l) (k := j) (by omega)
        refine ⟨?_, ?_⟩
        · rw [if_neg (by decide)]; exact h5 j _ hj2
        · have := List.mem_range.mp (h4.1.mem_iff.mp (List.mem_of_getElem? hj2))
          omega
      have he := m_endOf N F S T C M' so ho du wo ch c 1 (fun j => l.getD j 0) (k + 1) (iSM_scr hM h3) (by omega) hg
      rw [nI_pred, sg_getD (by omega)] at he
      refine hy_cl he rfl ?_
      rintro o w1 ⟨y, rfl, hy, rfl⟩
      exact hy_fin ⟨Or.inr (Or.inl ⟨hb1, Or.inl ⟨k, B, l, hk, rfl, h4, hy⟩⟩), _, scrP_mk3 h3 _, rfl⟩
def tkM (M : hyB) (j : Nat) (a h d w v : Int32) : hyB := ss (sa (sa (sa (sa M 16 (upd (M.1 16) j a)) 17 (upd (M.1 17) j h)) 18 (upd (M.1 18) j d)) 19 (upd (M.1 19) j w)) 15 v
set_option maxRecDepth 100000 in
theorem m_order (a h d w : Int32) (h6 : M.2 15 = nI c) (h7 : c ≤ 7) : hy_R 4 mX6_order 0 0 [hy_r 30, .inl a, .inl h, .inl d, .inl w] (wW N F S T C (wM M)) (fun o w1 => ∃ x, o = some x ∧ (c_order a h d w c ∧ x = nI c ∧ w1 = wW N F S T C (wM (tkM M c a h d w (nI (c + 1)))) ∨ ¬ c_order a h d w c ∧ x = -1 ∧ w1 = wW N F S T C (wM M))) := by
  refine hy_Ri (L := [some (hy_r 30), some (.inl a), some (.inl h), some (.inl d), some (.inl w)]) rfl (by decide) (hy_ple rfl) rfl ?_
  refine hy_go hy_pfA oX6_order [] 80 0 0 _ ?_
  have hi : c < 7 → vp_in (M.2 15) 7 := fun h => by rw [h6]; exact vn_in h (by decide)
  have l7 : (7 : Int32).toInt = 7 := rfl
  refine And.intro (fun q => ?_) (fun q => And.intro (fun q2 => ?_) (fun q2 => And.intro (fun q3 => ?_) (fun q3 => And.intro (fun q4 => ?_) (fun q4 => And.intro (fun q5 => ?_) (fun q5 => ?_)))))
  · exact hy_fin (Or.inr ⟨fun h => g_within_0 q h.1, rfl, rfl⟩)
  · exact hy_fin (Or.inr ⟨fun h => g_within_0 q2 h.2.1, rfl, rfl⟩)
  · exact hy_fin (Or.inr ⟨fun h => g_within_0 q3 h.2.2.1, rfl, rfl⟩)
  · exact hy_fin (Or.inr ⟨fun h => g_within_0 q4 h.2.2.2.1, rfl, rfl⟩)
  · refine hy_fin (Or.inr ⟨fun h => ?_, rfl, rfl⟩)
    have := h.2.2.2.2
    have q5 := zi_eq.mp q5
    rw [h6, zi_nI (by omega)] at q5; omega
  · have hn : c < 7 := by
      have q5 : ¬ (M.2 15).toInt = 7 := fun h => q5 (zi_eq.mpr h)
      rw [h6, zi_nI (by omega)] at q5; omega
    refine And.intro (hi hn) (And.intro (hi hn) (And.intro (hi hn) (And.intro (hi hn) ?_)))
    have hcl : (M.2 15).toNatClampNeg = c := by rw [h6]; exact cl_nI (by omega)
    have e1 : M.2 15 + 1 = nI (c + 1) := by rw [h6, nI_s]
    have e2 : M.2 15 + 1 - 1 = nI c := by rw [e1]; exact nI_pred c
    have key : ∃ x, some (M.2 15 + 1 - 1) = some x ∧ (c_order a h d w c ∧ x = nI c ∧ wW N F S T C (wM (tkM M (M.2 15).toNatClampNeg a h d w (M.2 15 + 1))) = wW N F S T C (wM (tkM M c a h d w (nI (c + 1)))) ∨ ¬ c_order a h d w c ∧ x = -1 ∧ wW N F S T C (wM (tkM M (M.2 15).toNatClampNeg a h d w (M.2 15 + 1))) = wW N F S T C (wM M)) := ⟨_, rfl, Or.inl ⟨⟨g_within_n0 q, g_within_n0 q2, g_within_n0 q3, g_within_n0 q4, hn⟩, e2, by rw [hcl, e1]⟩⟩
    exact key
theorem m_change (v : Int32) : hy_R 4 mX6_change 0 0 [hy_r 30, .inl v] (wW N F S T C (wM M)) (fun o w1 => ∃ x, o = some x ∧ ((0 ≤ v ∧ v ≤ 50) ∧ x = 1 ∧ w1 = wW N F S T C (wM (ss M 20 v)) ∨ ¬ (0 ≤ v ∧ v ≤ 50) ∧ x = 0 ∧ w1 = wW N F S T C (wM M))) := by
  refine hy_Rz (L := [some (hy_r 30), some (.inl v)]) rfl (by decide) (fun x w h => ?_) (hy_ple rfl) rfl ?_
  · rcases h with ⟨-, h, -⟩ | ⟨-, h, -⟩
    · exact Or.inr h
    · exact Or.inl h
  refine hy_go hy_pfA oX6_change [] 60 0 0 _ ?_
  refine And.intro (fun q => ?_) (fun q => ?_)
  · exact hy_fin (Or.inr ⟨g_within_0 q, rfl, rfl⟩)
  · exact hy_fin (Or.inl ⟨g_within_n0 q, rfl, rfl⟩)
theorem m_clear : hy_R 3 mX6_clear 0 0 [hy_r 30] (wW N F S T C (wM M)) (fun o w1 => ∃ x, o = some x ∧ x = M.2 15 ∧ w1 = wW N F S T C (wM (ss M 15 0))) := by
  refine hy_Ri (L := [some (hy_r 30), none]) rfl (by decide) (hy_ple rfl) rfl ?_
  refine hy_go hy_pfA oX6_clear [] 60 0 0 _ ?_
  exact hy_fin ⟨rfl, rfl⟩
variable (R : hyW)
theorem y_order (a h d w : Int32) (h6 : S.2 6 = nI c) (h7 : c ≤ 7) : hy_R 5 mX5_order 0 0 [hy_r 0, .inl a, .inl h, .inl d, .inl w] (wW N F S T C R) (fun o w1 => ∃ x, o = some x ∧ (c_order a h d w c ∧ x = nI c ∧ w1 = wW N F (tkS S c a h d w (nI (c + 1))) T C R ∨ ¬ c_order a h d w c ∧ x = -1 ∧ w1 = wW N F S T C R)) := by
  refine hy_Ri (L := [some (hy_r 0), some (.inl a), some (.inl h), some (.inl d), some (.inl w)]) rfl (by decide) (hy_ple rfl) rfl ?_
  refine hy_go hy_pfA oX5_order [] 60 0 0 _ ?_
  refine hy_cl (r_s_take N F S T C R c a h d w h6 h7) rfl ?_
  rintro o w1 ⟨x, rfl, hx⟩
  exact hy_fin hx
theorem y_change (v : Int32) : hy_R 5 mX5_change 0 0 [hy_r 0, .inl v] (wW N F S T C R) (fun o w1 => ∃ x, o = some x ∧ ((0 ≤ v ∧ v ≤ 50) ∧ x = 1 ∧ w1 = wW N F (ss (ss S 7 v) 9 0) T C R ∨ ¬ (0 ≤ v ∧ v ≤ 50) ∧ x = 0 ∧ w1 = wW N F S T C R)) := by
  refine hy_Rz (L := [some (hy_r 0), some (.inl v)]) rfl (by decide) (fun x w h => ?_) (hy_ple rfl) rfl ?_
  · rcases h with ⟨-, h, -⟩ | ⟨-, h, -⟩
    · exact Or.inr h
    · exact Or.inl h
  refine hy_go hy_pfA oX5_change [] 60 0 0 _ ?_
  refine hy_cl (r_s_change N F S T C R v) rfl ?_
  rintro o w1 ⟨x, rfl, hx⟩
  exact hy_fin hx
theorem y_late (hS : iS S so ho du wo ch c) : hy_R 24 mX5_late 0 0 [hy_r 0] (wW N F S T C R) (fun o w1 => ∃ x, o = some x ∧ ∃ S' B b, x = nI B ∧ scrS S S' ∧ bestR (tot so ho du wo ch) c B b ∧ iS S' so ho du wo ch c ∧ w1 = wW N F S' T C R) := by
  refine hy_Ri (L := [some (hy_r 0)]) rfl (by decide) (hy_ple rfl) rfl ?_
  refine hy_go hy_pfA oX5_late [] 60 0 0 _ ?_
  refine hy_cl (r_s_late N F S T C R so ho du wo ch c hS) rfl ?_
  rintro o w1 ⟨x, rfl, hx⟩
  exact hy_fin hx
theorem y_spun (a b : Int32) (hS : iS S so ho du wo ch c) : hy_R 24 mX5_spun 0 0 [hy_r 0, .inl a, .inl b] (wW N F S T C R) (fun o w1 => ∃ x, o = some x ∧ sp_spun so ho du wo ch c a b x ∧ ∃ S', scrS S S' ∧ iS S' so ho du wo ch c ∧ w1 = wW N F S' T C R) := by
  refine hy_Ri (L := [some (hy_r 0), some (.inl a), some (.inl b)]) rfl (by decide) (hy_ple rfl) rfl ?_
  refine hy_go hy_pfA oX5_spun [] 60 0 0 _ ?_
  refine And.intro (fun h0 => ?_) (fun h0 => And.intro (fun h1 => ?_) (fun h1 => ?_))
  · refine hy_cl (r_s_orderAt N F S T C R so ho du wo ch c a hS) rfl ?_
    rintro o w1 ⟨x, rfl, S', s1, s2, hx, rfl⟩
    exact hy_fin ⟨Or.inl ⟨h0, hx⟩, S', s1, s2, rfl⟩
  · refine hy_cl (r_s_endAt N F S T C R so ho du wo ch c a hS) rfl ?_
    rintro o w1 ⟨x, rfl, S', s1, s2, hx, rfl⟩
    exact hy_fin ⟨Or.inr (Or.inl ⟨h1, hx⟩), S', s1, s2, rfl⟩
  · exact hy_fin ⟨Or.inr (Or.inr ⟨h0, h1, rfl⟩), S, scrS_refl S, hS, rfl⟩
theorem y_clear : hy_R 4 mX5_clear 0 0 [hy_r 0] (wW N F S T C R) (fun o w1 => ∃ x, o = some x ∧ x = S.2 6 ∧ w1 = wW N F (ss (ss S 6 0) 9 0) T C R) := by
  refine hy_Ri (L := [some (hy_r 0)]) rfl (by decide) (hy_ple rfl) rfl ?_
  refine hy_go hy_pfA oX5_clear [] 60 0 0 _ ?_
  refine hy_cl (r_s_drop N F S T C R) rfl ?_
  rintro o w1 ⟨x, rfl, hx⟩
  exact hy_fin hx
end
end
section
/-! ===== lays ===== -/
def sumf (f : Nat → Nat) : Nat → Nat
  | 0 => 0
  | k + 1 => sumf f k + f k
theorem sumf_congr {f g : Nat → Nat} : ∀ {n : Nat}, (∀ k, k < n → f k = g k) → sumf f n = sumf g n
  | 0, _ => rfl
  | n + 1, h => by
    have := sumf_congr (f := f) (g := g) (n := n) (fun k hk => h k (by omega))
    show sumf f n + f n = sumf g n + g n
    rw [this, h n (by omega)]
theorem sumf_le {f g : Nat → Nat} : ∀ {n : Nat}, (∀ k, k < n → f k ≤ g k) → sumf f n ≤ sumf g n
  | 0, _ => Nat.le_refl 0
  | n + 1, h => by
    have := sumf_le (f := f) (g := g) (n := n) (fun k hk => h k (by omega))
    have h2 := h n (by omega)
    show sumf f n + f n ≤ sumf g n + g n
    omega
theorem sumf_bd {f : Nat → Nat} {b : Nat} : ∀ {n : Nat}, (∀ k, k < n → f k ≤ b) → sumf f n ≤ b * n
  | 0, _ => by show 0 ≤ b * 0; omega
  | n + 1, h => by
    have := sumf_bd (f := f) (n := n) (fun k hk => h k (by omega))
    have h2 := h n (by omega)
    show sumf f n + f n ≤ b * (n + 1)
    rw [Nat.mul_add, Nat.mul_one]
    omega
theorem sumf_add (f : Nat → Nat) (m : Nat) : ∀ n, sumf f (m + n) = sumf f m + sumf (fun k => f (m + k)) n
  | 0 => rfl
  | n + 1 => by
    have := sumf_add f m n
    show sumf f (m + n) + f (m + n) = sumf f m + (sumf (fun k => f (m + k)) n + f (m + n))
    omega
theorem sumf_pos {f : Nat → Nat} : ∀ {n : Nat}, 0 < sumf f n → ∃ k, k < n ∧ 0 < f k
  | 0, h => absurd h (by show ¬ 0 < 0; omega)
  | n + 1, h => by
    by_cases q : 0 < f n
    · exact ⟨n, by omega, q⟩
    · have h2 : 0 < sumf f n := by
        have : 0 < sumf f n + f n := h
        omega
      obtain ⟨k, h3, h4⟩ := sumf_pos h2
      exact ⟨k, by omega, h4⟩
theorem sumf_one {f : Nat → Nat} : ∀ {n k : Nat}, k < n → f k ≤ sumf f n
  | 0, _, h => absurd h (by omega)
  | n + 1, k, h => by
    show f k ≤ sumf f n + f n
    by_cases e : k = n
    · rw [e]; omega
    · have := sumf_one (f := f) (n := n) (k := k) (by omega)
      omega
section
variable (l m L lo : Nat → Nat) (R c : Nat)
/-- what is cut of a roll by the lay p -/
def uL (p : List Nat) (r : Nat) : Nat := sumf (fun i => if p.getD i 9 = r then l i else 0) p.length
/-- what is opened by it -/
def oL (p : List Nat) : Nat := sumf (fun r => if 0 < uL l p r then L r else 0) R
def lyP (p : List Nat) : Prop := (∀ i, i < p.length → p.getD i 9 < R) ∧ (∀ r, r < R → uL l p r ≤ L r) ∧ ∀ i j, i < p.length → j < p.length → m i = m j → lo (p.getD i 9) = lo (p.getD j 9)
theorem gd_app {π q : List Nat} {i : Nat} (h : i < π.length) : (π ++ q).getD i 9 = π.getD i 9 := by
  rw [List.getD_eq_getElem?_getD, List.getD_eq_getElem?_getD, List.getElem?_append_left h]
theorem gd_last {π : List Nat} {x : Nat} : (π ++ [x]).getD π.length 9 = x := by
  rw [List.getD_eq_getElem?_getD]; simp
theorem uL_app (π q : List Nat) (r : Nat) : uL l π r ≤ uL l (π ++ q) r := by
  unfold uL
  rw [List.length_append, sumf_add]
  have : sumf (fun i => if (π ++ q).getD i 9 = r then l i else 0) π.length = sumf (fun i => if π.getD i 9 = r then l i else 0) π.length := sumf_congr (fun i hi => by rw [gd_app hi])
  omega
theorem uL_s (π : List Nat) (x r : Nat) : uL l (π ++ [x]) r = uL l π r + (if x = r then l π.length else 0) := by
  unfold uL
  rw [List.length_append, List.length_singleton]
  show sumf (fun i => if (π ++ [x]).getD i 9 = r then l i else 0) π.length + (if (π ++ [x]).getD π.length 9 = r then l π.length else 0) = _
  rw [gd_last]
  congr 1
  exact sumf_congr (fun i hi => by rw [gd_app hi])
theorem oL_app (π q : List Nat) : oL l L R π ≤ oL l L R (π ++ q) := sumf_le (fun r _ => by
  have := uL_app l π q r
  by_cases h : 0 < uL l π r
  · rw [if_pos h, if_pos (by omega)]; exact Nat.le_refl _
  · rw [if_neg h]; exact Nat.zero_le _)
theorem lyP_pre {π q : List Nat} (h : lyP l m L lo R (π ++ q)) : lyP l m L lo R π := by
  obtain ⟨h1, h2, h3⟩ := h
  have hl : (π ++ q).length = π.length + q.length := List.length_append
  refine ⟨fun i hi => ?_, fun r hr => Nat.le_trans (uL_app l π q r) (h2 r hr), fun i j hi hj hm => ?_⟩
  · have := h1 i (by omega)
    rwa [gd_app hi] at this
  · have := h3 i j (by omega) (by omega) hm
    rwa [gd_app hi, gd_app hj] at this
theorem lyP_s {π : List Nat} {x : Nat} : lyP l m L lo R (π ++ [x]) ↔ lyP l m L lo R π ∧ x < R ∧ uL l (π ++ [x]) x ≤ L x ∧ ∀ k, k < π.length → m k = m π.length → lo (π.getD k 9) = lo x := by
  constructor
  · intro h
    refine ⟨lyP_pre l m L lo R h, ?_, ?_, fun k hk hm => ?_⟩
    · have := h.1 π.length (by simp)
      rwa [gd_last] at this
    · have := h.1 π.length (by simp)
      rw [gd_last] at this
      exact h.2.1 x this
    · have := h.2.2 k π.length (by simp; omega) (by simp) hm
      rwa [gd_app hk, gd_last] at this
  · rintro ⟨⟨h1, h2, h3⟩, h4, h5, h6⟩
    have hl : (π ++ [x]).length = π.length + 1 := by simp
    have key : ∀ i, i < π.length + 1 → (i < π.length ∧ (π ++ [x]).getD i 9 = π.getD i 9) ∨ (i = π.length ∧ (π ++ [x]).getD i 9 = x) := fun i hi => by
      by_cases e : i = π.length
      · exact Or.inr ⟨e, by rw [e]; exact gd_last⟩
      · exact Or.inl ⟨by omega, gd_app (by omega)⟩
    refine ⟨fun i hi => ?_, fun r hr => ?_, fun i j hi hj hm => ?_⟩
    · rcases key i (by omega) with ⟨a, b⟩ | ⟨a, b⟩
      · rw [b]; exact h1 i a
      · rw [b]; exact h4
    · by_cases e : x = r
      · rw [← e]; exact h5
      · rw [uL_s, if_neg e, Nat.add_zero]; exact h2 r hr
    · rcases key i (by omega) with ⟨a, b⟩ | ⟨a, b⟩
      · rcases key j (by omega) with ⟨a', b'⟩ | ⟨a', b'⟩
        · rw [b, b']; exact h3 i j a a' hm
        · rw [b, b']; exact h6 i a (by rw [hm, a'])
      · rcases key j (by omega) with ⟨a', b'⟩ | ⟨a', b'⟩
        · rw [b, b']; exact (h6 j a' (by rw [← hm, a])).symm
        · rw [b, b']
/-- the lays of all c cuts that begin so -/
def eL (π p : List Nat) : Prop := p.length = c ∧ lyP l m L lo R p ∧ ∃ q, p = π ++ q
def eLj (j : Nat) (π p : List Nat) : Prop := ∃ x, x < j ∧ eL l m L lo R c (π ++ [x]) p
theorem eL_split {π p : List Nat} (hπ : π.length < c) : eL l m L lo R c π p ↔ eLj l m L lo R c R π p := by
  constructor
  · rintro ⟨h1, h2, q, rfl⟩
    match q, h1, h2 with
    | [], h1, h2 => simp at h1; omega
    | x :: q, h1, h2 =>
      have e : π ++ x :: q = (π ++ [x]) ++ q := by simp
      refine ⟨x, ?_, h1, h2, q, e⟩
      rw [e] at h2
      exact ((lyP_s l m L lo R).mp (lyP_pre l m L lo R h2)).2.1
  · rintro ⟨x, -, h1, h2, q, h3⟩
    exact ⟨h1, h2, x :: q, by rw [h3]; simp⟩
theorem eLj_s {j : Nat} {π p : List Nat} : eLj l m L lo R c (j + 1) π p ↔ eLj l m L lo R c j π p ∨ eL l m L lo R c (π ++ [j]) p := by
  constructor
  · rintro ⟨x, h1, h2⟩
    by_cases e : x = j
    · subst e; exact Or.inr h2
    · exact Or.inl ⟨x, by omega, h2⟩
  · rintro (⟨x, h1, h2⟩ | h2)
    · exact ⟨x, by omega, h2⟩
    · exact ⟨j, by omega, h2⟩
theorem lyP_sm {p : List Nat} (hR : R ≤ 8) (h : lyP l m L lo R p) : sm p := fun x hx => by
  obtain ⟨i, hi, rfl⟩ := List.mem_iff_getElem.mp hx
  have := h.1 i hi
  rw [List.getD_eq_getElem?_getD, List.getElem?_eq_getElem hi] at this
  have : p[i] < R := this
  omega
theorem eLj_rv {j : Nat} {π p q : List Nat} (hR : R ≤ 8) (h1 : eLj l m L lo R c j π p) (h2 : eL l m L lo R c (π ++ [j]) q) : rv p ≤ rv q := by
  obtain ⟨o, o1, p0, p1, p2, rfl⟩ := h1
  obtain ⟨q0, q1, q2, rfl⟩ := h2
  have hl : p2.length = q2.length := by simp at p0 q0; omega
  have hs : sm p2 := fun x hx => lyP_sm l m L lo R hR p1 x (List.mem_append_right _ hx)
  have h3 : rv (π ++ (o :: p2)) < rv (π ++ (j :: q2)) := (rv_pre (by simp [hl])).1.mpr (rv_head hl hs o1)
  simp only [List.append_assoc, List.singleton_append]
  omega
theorem eL_no {π : List Nat} {x : Nat} (h : ¬ lyP l m L lo R (π ++ [x])) (p : List Nat) : ¬ eL l m L lo R c (π ++ [x]) p := by
  rintro ⟨-, h2, q, rfl⟩
  exact h (lyP_pre l m L lo R h2)
theorem eL_low {π p : List Nat} (h : eL l m L lo R c π p) : oL l L R π ≤ oL l L R p := by
  obtain ⟨-, -, q, rfl⟩ := h
  exact oL_app l L R π q
/-- THE LEAST of all lays -/
def leastL (B : Nat) (b : List Nat) : Prop := eL l m L lo R c [] b ∧ oL l L R b = B ∧ ∀ p, eL l m L lo R c [] p → B ≤ oL l L R p ∧ (oL l L R p = B → rv b ≤ rv p)
theorem leastL_eq {B B2 : Nat} {b b2 : List Nat} (hR : R ≤ 8) (h : leastL l m L lo R c B b) (h2 : leastL l m L lo R c B2 b2) : B = B2 ∧ b = b2 := by
  obtain ⟨a1, a2, a3⟩ := h
  obtain ⟨c1, c2, c3⟩ := h2
  have e1 := a3 b2 c1
  have e2 := c3 b a1
  have e : B = B2 := by omega
  refine ⟨e, rv_inj (by rw [a1.1, c1.1]) (lyP_sm l m L lo R hR a1.2.1) (lyP_sm l m L lo R hR c1.2.1) ?_⟩
  have h1 := e1.2 (by omega)
  have h2 := e2.2 (by omega)
  omega
end
end
section
/-! ===== the reference's lays ===== -/
def iTd (a0 a1 a2 a3 : Nat → Int32) (l m L lo : Nat → Nat) (R c : Nat) : Prop := (∀ r, a0 r = nI (L r) ∧ a1 r = nI (lo r) ∧ L r ≤ 1000 ∧ lo r ≤ 2) ∧ (∀ i, a2 i = nI (l i) ∧ a3 i = nI (m i) ∧ l i ≤ 500 ∧ m i ≤ 3) ∧ R ≤ 6 ∧ c ≤ 8 ∧ (∀ i, i < c → 1 ≤ l i) ∧ ∀ r, r < R → 1 ≤ L r
def iTM (M : hyB) (l m L lo : Nat → Nat) (R c : Nat) : Prop := iTd (M.1 22) (M.1 23) (M.1 25) (M.1 26) l m L lo R c ∧ M.2 21 = nI R ∧ M.2 24 = nI c
theorem row_gd {fr : Nat → Int32} {π : List Nat} {i : Nat} (h : rowIs fr π) (hi : i < π.length) : fr i = nI (π.getD i 9) := by
  refine h i _ ?_
  rw [List.getD_eq_getElem?_getD, List.getElem?_eq_getElem hi]; rfl
section
variable (N F S T C M : hyB) (l m L lo : Nat → Nat) (R c : Nat)
theorem l_cutOf (Q : hyQ) (fr : Nat → Int32) (π : List Nat) (r : Nat) (hM : iTM M l m L lo R c) (hr : rowIs fr π) (hπ : π.length ≤ 8) (hx : ∀ i, i < π.length → π.getD i 9 < 1000) (hr2 : r < 1000) (K : Q (some (nI (uL l π r))) (wW N F S T C (wM (sa M 34 fr)))) :
    ∀ (j i : Nat), π.length - i = j → i ≤ π.length → hy_X none 4 mX6_cutOf Q 0 0 (5, [some (hy_r 30), some (.inl (nI r)), some (.inl (nI π.length)), some (.inl (nI (sumf (fun i => if π.getD i 9 = r then l i else 0) i))), some (.inl (nI i))], [], wW N F S T C (wM (sa M 34 fr))) := by
  obtain ⟨⟨t0, t1, t2, t3, t4, t5⟩, d1, d2⟩ := id hM
  intro j
  induction j with
  | zero =>
    intro i hj hi
    have : i = π.length := by omega
    subst this
    refine hy_go hy_pfA oX6_cutOf [5] 60 0 0 _ ?_
    exact And.intro (fun q => K) (fun q => absurd (Int32.le_refl _) q)
  | succ j ih =>
    intro i hj hi
    have hcl : (nI i).toNatClampNeg = i := cl_nI (by omega)
    have hin : vp_in (nI i) 8 := vn_in (by omega) (by decide)
    have hfi := row_gd hr (i := i) (by omega)
    have hxi := hx i (by omega)
    have nx := ih (i + 1) (by omega) (by omega)
    rw [← nI_s, show sumf (fun i => if π.getD i 9 = r then l i else 0) (i + 1) = sumf (fun i => if π.getD i 9 = r then l i else 0) i + (if π.getD i 9 = r then l i else 0) from rfl, ← nI_add] at nx
    refine hy_go hy_pfA oX6_cutOf [5] 60 0 0 _ ?_
    refine And.intro (fun q => ?_) (fun q => ?_)
    · rw [nI_le24 (by omega) (by omega)] at q; omega
    · refine And.intro hin ?_
      refine And.intro (fun q2 => ?_) (fun q2 => ?_)
      · have q2 : fr (nI i).toNatClampNeg = nI r := q2
        rw [hcl, hfi, nI_eqI (by omega) (by omega)] at q2
        refine And.intro hin ?_
        have e : M.1 25 (nI i).toNatClampNeg = nI (l i) := by rw [hcl]; exact (t1 i).1
        rw [if_pos q2, ← e] at nx
        exact nx
      · have q2 : ¬ fr (nI i).toNatClampNeg = nI r := q2
        rw [hcl, hfi, nI_eqI (by omega) (by omega)] at q2
        rw [if_neg q2] at nx
        exact nx
theorem m_cutOf (fr : Nat → Int32) (π : List Nat) (r : Nat) (hM : iTM M l m L lo R c) (hr : rowIs fr π) (hπ : π.length ≤ 8) (hx : ∀ i, i < π.length → π.getD i 9 < 1000) (hr2 : r < 1000) : hy_R 4 mX6_cutOf 0 0 [hy_r 30, .inl (nI r), .inl (nI π.length)] (wW N F S T C (wM (sa M 34 fr))) (fun o w1 => ∃ x, o = some x ∧ x = nI (uL l π r) ∧ w1 = wW N F S T C (wM (sa M 34 fr))) := by
  refine hy_Ri (L := [some (hy_r 30), some (.inl (nI r)), some (.inl (nI π.length)), none, none]) rfl (by decide) (hy_ple rfl) rfl ?_
  refine hy_go hy_pfA oX6_cutOf [5] 60 0 0 _ ?_
  exact l_cutOf N F S T C M l m L lo R c _ fr π r hM hr hπ hx hr2 ⟨_, rfl, rfl, rfl⟩ π.length 0 (by omega) (by omega)
theorem uL_bd (hl : ∀ i, l i ≤ 500) (π : List Nat) (hπ : π.length ≤ 8) (r : Nat) : uL l π r ≤ 4000 := by
  have := sumf_bd (f := fun i => if π.getD i 9 = r then l i else 0) (b := 500) (n := π.length) (fun k _ => by split; exact hl k; omega)
  unfold uL
  omega
theorem l_openedBy (Q : hyQ) (fr : Nat → Int32) (π : List Nat) (hM : iTM M l m L lo R c) (hr : rowIs fr π) (hπ : π.length ≤ 8) (hx : ∀ i, i < π.length → π.getD i 9 < 1000) (K : Q (some (nI (oL l L R π))) (wW N F S T C (wM (sa M 34 fr)))) :
    ∀ (j i : Nat), R - i = j → i ≤ R → hy_X none 5 mX6_openedBy Q 0 0 (4, [some (hy_r 30), some (.inl (nI π.length)), some (.inl (nI (sumf (fun r => if 0 < uL l π r then L r else 0) i))), some (.inl (nI i))], [], wW N F S T C (wM (sa M 34 fr))) := by
  obtain ⟨⟨t0, t1, t2, t3, t4, t5⟩, d1, d2⟩ := id hM
  intro j
  induction j with
  | zero =>
    intro i hj hi
    have : i = R := by omega
    subst this
    refine hy_go hy_pfA oX6_openedBy [4] 60 0 0 _ ?_
    refine And.intro (fun q => K) (fun q => absurd ?_ q)
    show M.2 21 ≤ nI i
    rw [d1]; exact Int32.le_refl _
  | succ j ih =>
    intro i hj hi
    have hcl : (nI i).toNatClampNeg = i := cl_nI (by omega)
    have hin : vp_in (nI i) 6 := vn_in (by omega) (by decide)
    have hb := uL_bd l (fun i => (t1 i).2.2.1) π hπ i
    have nx := ih (i + 1) (by omega) (by omega)
    rw [← nI_s, show sumf (fun r => if 0 < uL l π r then L r else 0) (i + 1) = sumf (fun r => if 0 < uL l π r then L r else 0) i + (if 0 < uL l π i then L i else 0) from rfl, ← nI_add] at nx
    refine hy_go hy_pfA oX6_openedBy [4] 60 0 0 _ ?_
    refine And.intro (fun q => ?_) (fun q => ?_)
    · have q : M.2 21 ≤ nI i := q
      rw [d1, nI_le24 (by omega) (by omega)] at q; omega
    · refine hy_cl (m_cutOf N F S T C M l m L lo R c fr π i hM hr hπ hx (by omega)) rfl ?_
      rintro o w1 ⟨x, rfl, rfl, rfl⟩
      refine And.intro (fun q2 => ?_) (fun q2 => ?_)
      · have q2 := zi_le.mp q2
        rw [zi_nI (by omega), zi_lit0] at q2
        rw [if_neg (by omega)] at nx
        exact nx
      · have q2 : ¬ (nI (uL l π i)).toInt ≤ 0 := fun h => q2 (zi_le.mpr h)
        rw [zi_nI (by omega)] at q2
        refine And.intro hin ?_
        have e : M.1 22 (nI i).toNatClampNeg = nI (L i) := by rw [hcl]; exact (t0 i).1
        rw [if_pos (by omega), ← e] at nx
        exact nx
theorem m_openedBy (fr : Nat → Int32) (π : List Nat) (hM : iTM M l m L lo R c) (hr : rowIs fr π) (hπ : π.length ≤ 8) (hx : ∀ i, i < π.length → π.getD i 9 < 1000) : hy_R 5 mX6_openedBy 0 0 [hy_r 30, .inl (nI π.length)] (wW N F S T C (wM (sa M 34 fr))) (fun o w1 => ∃ x, o = some x ∧ x = nI (oL l L R π) ∧ w1 = wW N F S T C (wM (sa M 34 fr))) := by
  refine hy_Ri (L := [some (hy_r 30), some (.inl (nI π.length)), none, none]) rfl (by decide) (hy_ple rfl) rfl ?_
  refine hy_go hy_pfA oX6_openedBy [4] 60 0 0 _ ?_
  exact l_openedBy N F S T C M l m L lo R c _ fr π hM hr hπ hx ⟨_, rfl, rfl, rfl⟩ R 0 (by omega) (by omega)
def mlv (P : Prop) (x : Int32) : Prop := (x = 1 ∧ P) ∨ (x = 0 ∧ ¬ P)
theorem l_mayLie (Q : hyQ) (fr : Nat → Int32) (π : List Nat) (x : Nat) (P : Prop) (hM : iTM M l m L lo R c) (hr : rowIs fr (π ++ [x])) (hπ : π.length < 8) (hx : ∀ i, i < π.length → π.getD i 9 < 6) (hx2 : x < 6)
    (K : ∀ v, mlv (P ∧ ∀ k, k < π.length → m k = m π.length → lo (π.getD k 9) = lo x) v → Q (some v) (wW N F S T C (wM (sa M 34 fr)))) :
    ∀ (j i : Nat) (v : Int32), π.length - i = j → i ≤ π.length → mlv (P ∧ ∀ k, k < i → m k = m π.length → lo (π.getD k 9) = lo x) v → hy_X none 5 mX6_mayLie Q 0 0 (38, [some (hy_r 30), some (.inl (nI (π.length + 1))), some (.inl (nI π.length)), some (.inl v), some (.inl (nI i))], [], wW N F S T C (wM (sa M 34 fr))) := by
  obtain ⟨⟨t0, t1, t2, t3, t4, t5⟩, d1, d2⟩ := id hM
  have hpl : (nI π.length).toNatClampNeg = π.length := cl_nI (by omega)
  have hpin : vp_in (nI π.length) 8 := vn_in (by omega) (by decide)
  have hfx : fr π.length = nI x := by
    have := row_gd hr (i := π.length) (by simp)
    rwa [gd_last] at this
  intro j
  induction j with
  | zero =>
    intro i v hj hi hv
    have : i = π.length := by omega
    subst this
    refine hy_go hy_pfA oX6_mayLie [38] 60 0 0 _ ?_
    exact And.intro (fun q => K v hv) (fun q => absurd (Int32.le_refl _) q)
  | succ j ih =>
    intro i v hj hi hv
    have hcl : (nI i).toNatClampNeg = i := cl_nI (by omega)
    have hin : vp_in (nI i) 8 := vn_in (by omega) (by decide)
    have hfi : fr i = nI (π.getD i 9) := by
      have := row_gd hr (i := i) (by simp; omega)
      rwa [gd_app (by omega)] at this
    have hxi := hx i (by omega)
    have b1 := (t1 i).2.2.2
    have b2 := (t1 π.length).2.2.2
    have b3 := (t0 (π.getD i 9)).2.2.2
    have b4 := (t0 x).2.2.2
    have e1 : M.1 26 (nI i).toNatClampNeg = nI (m i) := by rw [hcl]; exact (t1 i).2.1
    have e2 : M.1 26 (nI π.length).toNatClampNeg = nI (m π.length) := by rw [hpl]; exact (t1 _).2.1
    have e3 : fr (nI i).toNatClampNeg = nI (π.getD i 9) := by rw [hcl]; exact hfi
    have e4 : fr (nI π.length).toNatClampNeg = nI x := by rw [hpl]; exact hfx
    have e5 : M.1 23 (fr (nI i).toNatClampNeg).toNatClampNeg = nI (lo (π.getD i 9)) := by rw [e3, cl_nI (by omega)]; exact (t0 _).2.1
    have e6 : M.1 23 (fr (nI π.length).toNatClampNeg).toNatClampNeg = nI (lo x) := by rw [e4, cl_nI (by omega)]; exact (t0 _).2.1
    have step : ∀ v', mlv (P ∧ ∀ k, k < i + 1 → m k = m π.length → lo (π.getD k 9) = lo x) v' → hy_X none 5 mX6_mayLie Q 0 0 (38, [some (hy_r 30), some (.inl (nI (π.length + 1))), some (.inl (nI π.length)), some (.inl v'), some (.inl (nI i + 1))], [], wW N F S T C (wM (sa M 34 fr))) := fun v' hv' => by
      rw [nI_s]; exact ih (i + 1) v' (by omega) (by omega) hv'
    have split : ∀ k, k < i + 1 → k < i ∨ k = i := fun k hk => by omega
    refine hy_go hy_pfA oX6_mayLie [38] 60 0 0 _ ?_
    refine And.intro (fun q => ?_) (fun q => ?_)
    · rw [nI_le24 (by omega) (by omega)] at q; omega
    · refine And.intro (fun q2 => ?_) (fun q2 => ?_)
      · rcases hv with ⟨h1, h2⟩ | ⟨h1, h2⟩
        · rw [h1] at q2; exact absurd q2 (by decide)
        · exact step 0 (Or.inr ⟨rfl, fun h => h2 ⟨h.1, fun k hk => h.2 k (by omega)⟩⟩)
      · rcases hv with ⟨h1, h2⟩ | ⟨h1, h2⟩
        · refine And.intro hin (And.intro hpin ?_)
          refine And.intro (fun q3 => ?_) (fun q3 => ?_)
          · have q3 : M.1 26 (nI i).toNatClampNeg = M.1 26 (nI π.length).toNatClampNeg := q3
            rw [e1, e2, nI_eqI (by omega) (by omega)] at q3
            refine And.intro hin (And.intro ?_ (And.intro hpin (And.intro ?_ ?_)))
            · have hv : vp_in (fr (nI i).toNatClampNeg) 6 := by rw [e3]; exact vn_in hxi (by decide)
              exact hv
            · have hv : vp_in (fr (nI π.length).toNatClampNeg) 6 := by rw [e4]; exact vn_in hx2 (by decide)
              exact hv
            · refine And.intro (fun q4 => ?_) (fun q4 => ?_)
              · have q4 : M.1 23 (fr (nI i).toNatClampNeg).toNatClampNeg = M.1 23 (fr (nI π.length).toNatClampNeg).toNatClampNeg := q4
                rw [e5, e6, nI_eqI (by omega) (by omega)] at q4
                refine step 1 (Or.inl ⟨rfl, h2.1, fun k hk hm => ?_⟩)
                rcases split k hk with hk | hk
                · exact h2.2 k hk hm
                · rw [hk]; exact q4
              · have q4 : ¬ M.1 23 (fr (nI i).toNatClampNeg).toNatClampNeg = M.1 23 (fr (nI π.length).toNatClampNeg).toNatClampNeg := q4
                rw [e5, e6, nI_eqI (by omega) (by omega)] at q4
                exact step 0 (Or.inr ⟨rfl, fun h => q4 (h.2 i (by omega) q3)⟩)
          · have q3 : ¬ M.1 26 (nI i).toNatClampNeg = M.1 26 (nI π.length).toNatClampNeg := q3
            rw [e1, e2, nI_eqI (by omega) (by omega)] at q3
            refine step 1 (Or.inl ⟨rfl, h2.1, fun k hk hm => ?_⟩)
            rcases split k hk with hk | hk
            · exact h2.2 k hk hm
            · rw [hk] at hm; exact absurd hm q3
        · rw [h1] at q2; exact absurd rfl q2
theorem m_mayLie (fr : Nat → Int32) (π : List Nat) (x : Nat) (hM : iTM M l m L lo R c) (hr : rowIs fr (π ++ [x])) (hπ : π.length < 8) (hx : ∀ i, i < π.length → π.getD i 9 < 6) (hx2 : x < 6) : hy_R 5 mX6_mayLie 0 0 [hy_r 30, .inl (nI (π.length + 1))] (wW N F S T C (wM (sa M 34 fr))) (fun o w1 => ∃ v, o = some v ∧ mlv (uL l (π ++ [x]) x ≤ L x ∧ ∀ k, k < π.length → m k = m π.length → lo (π.getD k 9) = lo x) v ∧ w1 = wW N F S T C (wM (sa M 34 fr))) := by
  obtain ⟨⟨t0, t1, t2, t3, t4, t5⟩, d1, d2⟩ := id hM
  have hpl : (nI π.length).toNatClampNeg = π.length := cl_nI (by omega)
  have hpin : vp_in (nI π.length) 8 := vn_in (by omega) (by decide)
  have hfx : fr π.length = nI x := by
    have := row_gd hr (i := π.length) (by simp)
    rwa [gd_last] at this
  have e4 : fr (nI π.length).toNatClampNeg = nI x := by rw [hpl]; exact hfx
  have hb := uL_bd l (fun i => (t1 i).2.2.1) (π ++ [x]) (by simp; omega) x
  have hLx := (t0 x).2.2.1
  refine hy_Rz (L := [some (hy_r 30), some (.inl (nI (π.length + 1))), none, none, none]) rfl (by decide) (fun v w h => ?_) (hy_ple rfl) rfl ?_
  · rcases h.1 with h | h
    · exact Or.inr h.1
    · exact Or.inl h.1
  refine hy_go hy_pfA oX6_mayLie [4] 60 0 0 _ ?_
  suffices g : hy_X none 5 mX6_mayLie (fun o w1 => ∃ v, o = some v ∧ mlv (uL l (π ++ [x]) x ≤ L x ∧ ∀ k, k < π.length → m k = m π.length → lo (π.getD k 9) = lo x) v ∧ w1 = wW N F S T C (wM (sa M 34 fr))) 0 0 (4, [some (hy_r 30), some (.inl (nI (π.length + 1))), some (.inl (nI π.length)), none, none], [], wW N F S T C (wM (sa M 34 fr))) by
    have e : nI π.length = nI (π.length + 1) - 1 := (nI_pred _).symm
    rw [e] at g
    exact g
  refine hy_go hy_pfA oX6_mayLie [38] 60 0 0 _ ?_
  refine And.intro hpin ?_
  have hcut : hy_R 4 mX6_cutOf 0 0 [hy_r 30, .inl (fr (nI π.length).toNatClampNeg), .inl (nI (π.length + 1))] (wW N F S T C (wM (sa M 34 fr))) (fun o w1 => ∃ y, o = some y ∧ y = nI (uL l (π ++ [x]) x) ∧ w1 = wW N F S T C (wM (sa M 34 fr))) := by
    rw [e4]
    have := m_cutOf N F S T C M l m L lo R c fr (π ++ [x]) x hM hr (by simp; omega) (fun i hi => by
      by_cases e : i = π.length
      · rw [e, gd_last]; omega
      · rw [gd_app (by simp at hi; omega)]
        have := hx i (by simp at hi; omega)
        omega) (by omega)
    rwa [show (π ++ [x]).length = π.length + 1 by simp] at this
  refine hy_cl hcut rfl ?_
  rintro o w1 ⟨y, rfl, rfl, rfl⟩
  refine And.intro hpin (And.intro ?_ ?_)
  · have hv : vp_in (fr (nI π.length).toNatClampNeg) 6 := by rw [e4]; exact vn_in hx2 (by decide)
    exact hv
  · have e5 : M.1 22 (fr (nI π.length).toNatClampNeg).toNatClampNeg = nI (L x) := by rw [e4, cl_nI (by omega)]; exact (t0 x).1
    have lp := l_mayLie N F S T C M l m L lo R c (fun o w1 => ∃ v, o = some v ∧ mlv (uL l (π ++ [x]) x ≤ L x ∧ ∀ k, k < π.length → m k = m π.length → lo (π.getD k 9) = lo x) v ∧ w1 = wW N F S T C (wM (sa M 34 fr))) fr π x (uL l (π ++ [x]) x ≤ L x) hM hr hπ hx hx2 (fun v hv => ⟨v, rfl, hv, rfl⟩) π.length 0
    refine And.intro (fun q => ?_) (fun q => ?_)
    · have q : M.1 22 (fr (nI π.length).toNatClampNeg).toNatClampNeg < nI (uL l (π ++ [x]) x) := q
      rw [e5, zi_lt, zi_nI (by omega), zi_nI (by omega)] at q
      exact lp 0 (by omega) (by omega) (Or.inr ⟨rfl, fun h => by have := h.1; omega⟩)
    · have q : ¬ M.1 22 (fr (nI π.length).toNatClampNeg).toNatClampNeg < nI (uL l (π ++ [x]) x) := q
      rw [e5, zi_lt, zi_nI (by omega), zi_nI (by omega)] at q
      exact lp 1 (by omega) (by omega) (Or.inl ⟨rfl, by omega, fun k hk => by omega⟩)
end
end
section
/-! ===== the reference's search for the least lay ===== -/
section
variable (N F S T C M : hyB) (l m L lo : Nat → Nat) (R c : Nat)
theorem oL_bd (hL : ∀ r, L r ≤ 1000) (hR : R ≤ 6) (π : List Nat) : oL l L R π ≤ 6000 := by
  have := sumf_bd (f := fun r => if 0 < uL l π r then L r else 0) (b := 1000) (n := R) (fun k _ => by split; exact hL k; omega)
  unfold oL
  omega
/-- the roll array while a lay of the beginning π is looked at -/
def frIs (fr : Nat → Int32) (π : List Nat) : Prop := rowIs fr π ∧ ∀ i, π.length ≤ i → i < 8 → fr i = -1
theorem frIs_gd {fr : Nat → Int32} {π : List Nat} {i : Nat} (h : frIs fr π) (hi : i < π.length) : fr i = nI (π.getD i 9) := row_gd h.1 hi
theorem l_ly3 (Q : hyQ) (x1 x2 : Option hyV) (fr ls : Nat → Int32) (h24 : M.2 24 = nI c) (hc : c ≤ 8)
    (K : hy_X none 7 mX6_lays Q 0 0 (75, [some (hy_r 30), x1, x2, some (.inl (nI c))], [], wW N F S T C (wM (sa (sa M 35 (cpf fr ls c)) 34 fr)))) :
    ∀ (j i : Nat), c - i = j → i ≤ c → hy_X none 7 mX6_lays Q 0 0 (49, [some (hy_r 30), x1, x2, some (.inl (nI i))], [], wW N F S T C (wM (sa (sa M 35 (cpf fr ls i)) 34 fr))) := by
  intro j
  induction j with
  | zero =>
    intro i hj hi
    have : i = c := by omega
    subst this
    refine hy_go hy_pfA oX6_lays [49, 75] 60 0 0 _ ?_
    refine And.intro (fun q => K) (fun q => absurd ?_ q)
    show M.2 24 ≤ nI i
    rw [h24]; exact Int32.le_refl _
  | succ j ih =>
    intro i hj hi
    have hcl : (nI i).toNatClampNeg = i := cl_nI (by omega)
    have hin : vp_in (nI i) 8 := vn_in (by omega) (by decide)
    refine hy_go hy_pfA oX6_lays [49, 75] 60 0 0 _ ?_
    refine And.intro (fun q => ?_) (fun q => ?_)
    · have q : M.2 24 ≤ nI i := q
      rw [h24, nI_le24 (by omega) (by omega)] at q
      omega
    · refine And.intro hin (And.intro hin ?_)
      have nx := ih (i + 1) (by omega) (by omega)
      rw [← nI_s, cpf_s] at nx
      have e : upd (cpf fr ls i) (nI i).toNatClampNeg (fr (nI i).toNatClampNeg) = upd (cpf fr ls i) i (fr i) := by rw [hcl]
      rw [← e] at nx
      exact nx
def lyK (Q : hyQ) (π : List Nat) (B : Nat) (b : List Nat) : Prop := ∀ (B' : Nat) (b' : List Nat) (fr' ls' : Nat → Int32) (x3 : Option hyV), usp (oL l L R) (eL l m L lo R c π) B b B' b' → rowIs ls' b' → frIs fr' π → B' ≤ 1000000000 → hy_X none 7 mX6_lays Q 0 0 (26, [some (hy_r 30), some (.inl (nI B')), some (.inl (nI π.length - 1)), x3], [], wW N F S T C (wM (sa (sa M 35 ls') 34 fr')))
theorem l_lyD (Q : hyQ) (hM : iTM M l m L lo R c) : ∀ (d : Nat) (π : List Nat) (B : Nat) (b : List Nat) (fr ls : Nat → Int32) (x3 : Option hyV), π.length + d = c → lyP l m L lo R π → oL l L R π < B → B ≤ 1000000000 → rowIs ls b → frIs fr π → lyK N F S T C M l m L lo R c Q π B b → hy_X none 7 mX6_lays Q 0 0 (26, [some (hy_r 30), some (.inl (nI B)), some (.inl (nI π.length)), x3], [], wW N F S T C (wM (sa (sa M 35 ls) 34 fr))) := by
  obtain ⟨⟨t0, t1, t2, t3, t4, t5⟩, d1, d2⟩ := id hM
  have ob := oL_bd l L R (fun r => (t0 r).2.2.1) t2
  intro d
  induction d with
  | zero =>
    intro π B b fr ls x3 hd hly hlt hB hb hfr hK
    have hpc : π.length = c := by omega
    have hobp := ob π
    refine hy_go hy_pfA oX6_lays [49] 60 0 0 _ ?_
    refine And.intro (fun q => ?_) (fun q => And.intro (fun q2 => ?_) (fun q2 => absurd ?_ q2))
    · have q := zi_lt.mp q
      rw [zi_nI (by omega), zi_lit0] at q; omega
    · have hop : hy_R 5 mX6_openedBy 0 0 [hy_r 30, .inl (M.2 24)] (wW N F S T C (wM (sa (sa M 35 ls) 34 fr))) (fun o w1 => ∃ x, o = some x ∧ x = nI (oL l L R π) ∧ w1 = wW N F S T C (wM (sa (sa M 35 ls) 34 fr))) := by
        rw [d2, ← hpc]
        exact m_openedBy N F S T C (sa M 35 ls) l m L lo R c fr π hM hfr.1 (by omega) (fun i hi => by have := hly.1 i hi; omega)
      refine hy_cl hop rfl ?_
      rintro o w1 ⟨x, rfl, rfl, rfl⟩
      have fin := hK (oL l L R π) π fr (cpf fr ls c) (some (.inl (nI c))) (Or.inr ⟨hlt, ⟨hpc, hly, [], by simp⟩, rfl, fun p hp => ⟨eL_low l m L lo R c hp, fun _ => by
          obtain ⟨p1, -, q3, rfl⟩ := hp
          have : q3 = [] := List.length_eq_zero_iff.mp (by simp at p1; omega)
          rw [this, List.append_nil]; exact Nat.le_refl _⟩⟩) (fun i x hx => by
            have hi := (List.getElem?_eq_some_iff.mp hx).1
            unfold cpf
            rw [if_pos (by omega)]
            exact hfr.1 i x hx) hfr (by omega)
      have e1 : nI π.length - 1 = nI π.length + (-1) := Int32.sub_eq_add_neg _ _
      rw [e1] at fin
      have l3 := l_ly3 N F S T C M c Q (some (.inl (nI (oL l L R π)))) (some (.inl (nI π.length))) fr ls d2 t3 (by
        refine hy_go hy_pfA oX6_lays [26] 60 0 0 _ ?_
        exact fin) c 0 (by omega) (by omega)
      rw [cpf_0] at l3
      exact l3
    · show nI π.length = M.2 24
      rw [d2, hpc]
  | succ d ih =>
    intro π B b fr ls x3 hd hly hlt hB hb hfr hK
    have hpl : (nI π.length).toNatClampNeg = π.length := cl_nI (by omega)
    have hpin : vp_in (nI π.length) 8 := vn_in (by omega) (by decide)
    have hxp : ∀ i, i < π.length → π.getD i 9 < 6 := fun i hi => by have := hly.1 i hi; omega
    -- the loop over the rolls for this cut
    have loop : ∀ (k j : Nat) (B1 : Nat) (b1 : List Nat) (fr1 ls1 : Nat → Int32) (x3 : Option hyV), R - j = k → j ≤ R → usp (oL l L R) (eLj l m L lo R c j π) B b B1 b1 → rowIs ls1 b1 → (∀ i, i < π.length → fr1 i = nI (π.getD i 9)) → fr1 π.length = nI j → (∀ i, π.length < i → i < 8 → fr1 i = -1) → B1 ≤ 1000000000 → hy_X none 7 mX6_lays Q 0 0 (91, [some (hy_r 30), some (.inl (nI B1)), some (.inl (nI π.length)), x3], [], wW N F S T C (wM (sa (sa M 35 ls1) 34 fr1))) := by
      intro k
      induction k with
      | zero =>
        intro j B1 b1 fr1 ls1 x3 hk hj hu hb1 f1 f2 f3 hB1
        have hjR : j = R := by omega
        have e0 : fr1 (nI π.length).toNatClampNeg = nI j := by rw [hpl]; exact f2
        refine hy_go hy_pfA oX6_lays [26] 60 0 0 _ ?_
        refine And.intro hpin ?_
        refine And.intro (fun q => ?_) (fun q => absurd ?_ q)
        · refine And.intro hpin ?_
          refine And.intro (fun q2 => ?_) (fun q2 => ?_)
          · have q2 : fr1 (nI π.length).toNatClampNeg < M.2 21 := q2
            rw [e0, d1, hjR] at q2
            exact (Int32.lt_irrefl q2).elim
          · refine And.intro hpin ?_
            have fin := hK B1 b1 (upd fr1 (nI π.length).toNatClampNeg (-1)) ls1 x3 (usp_iff hu (fun p => by rw [hjR]; exact (eL_split l m L lo R c (by omega)).symm)) hb1 ⟨fun i x hx => by
                have hi := (List.getElem?_eq_some_iff.mp hx).1
                rw [hpl]
                unfold upd
                rw [if_neg (by omega), f1 i hi, List.getD_eq_getElem?_getD, hx]; rfl, fun i h1 h2 => by
                rw [hpl]
                unfold upd
                by_cases e : i = π.length
                · rw [if_pos e]
                · rw [if_neg e]; exact f3 i (by omega) h2⟩ hB1
            have e1 : nI π.length - 1 = nI π.length + (-1) := Int32.sub_eq_add_neg _ _
            rw [e1] at fin
            exact fin
        · show M.2 21 ≤ fr1 (nI π.length).toNatClampNeg
          rw [e0, d1, hjR]; exact Int32.le_refl _
      | succ k ihk =>
        intro j B1 b1 fr1 ls1 x3 hk hj hu hb1 f1 f2 f3 hB1
        have hjR : j < R := by omega
        have e0 : fr1 (nI π.length).toNatClampNeg = nI j := by rw [hpl]; exact f2
        have hrow : rowIs fr1 (π ++ [j]) := fun i x hx => by
          rw [List.getElem?_append] at hx
          by_cases e : i < π.length
          · rw [if_pos e] at hx
            rw [f1 i e, List.getD_eq_getElem?_getD, hx]; rfl
          · rw [if_neg e, List.getElem?_singleton] at hx
            split at hx
            · cases hx
              have : i = π.length := by omega
              rw [this]; exact f2
            · cases hx
        have hob2 := ob (π ++ [j])
        -- the next roll, when this one gives nothing
        have skip : (∀ p, eL l m L lo R c (π ++ [j]) p → B1 ≤ oL l L R p) → vp_in (nI π.length) 8 ∧ vp_in (nI π.length) 8 ∧ hy_X none 7 mX6_lays Q 0 0 (91, [some (hy_r 30), some (.inl (nI B1)), some (.inl (nI π.length)), x3], [], wW N F S T C (wM (sa (sa M 35 ls1) 34 (upd fr1 (nI π.length).toNatClampNeg (fr1 (nI π.length).toNatClampNeg + 1))))) := fun hno => by
          refine ⟨hpin, hpin, ?_⟩
          refine ihk (j + 1) B1 b1 _ ls1 x3 (by omega) (by omega) (usp_cat hu (usp_none hno) (fun p => eLj_s l m L lo R c) (fun p q h1 h2 => eLj_rv l m L lo R c (by omega) h1 h2)) hb1 (fun i hi => ?_) ?_ (fun i h1 h2 => ?_) hB1
          · rw [hpl]; unfold upd; rw [if_neg (by omega)]; exact f1 i hi
          · rw [hpl]; unfold upd; rw [if_pos rfl, f2, nI_s]
          · rw [hpl]; unfold upd; rw [if_neg (by omega)]; exact f3 i h1 h2
        refine hy_go hy_pfA oX6_lays [26, 91] 60 0 0 _ ?_
        refine And.intro hpin ?_
        refine And.intro (fun q => ?_) (fun q => ?_)
        · have q : M.2 21 ≤ fr1 (nI π.length).toNatClampNeg := q
          rw [e0, d1, nI_le24 (by omega) (by omega)] at q; omega
        · have hml := m_mayLie N F S T C (sa M 35 ls1) l m L lo R c fr1 π j hM hrow (by omega) hxp (by omega)
          rw [← nI_s] at hml
          refine hy_cl hml rfl ?_
          rintro o w1 ⟨v, rfl, hv, rfl⟩
          refine And.intro (fun q2 => ?_) (fun q2 => ?_)
          · rcases hv with ⟨h1, h2⟩ | ⟨h1, h2⟩
            · rw [h1] at q2; exact absurd q2 (by decide)
            · have hno : ¬ lyP l m L lo R (π ++ [j]) := fun h => h2 ((lyP_s l m L lo R).mp h).2.2
              have sk := skip (fun p hp => absurd hp (eL_no l m L lo R c hno p))
              exact And.intro sk.1 (And.intro sk.2.1 sk.2.2)
          · rcases hv with ⟨h1, h2⟩ | ⟨h1, h2⟩
            · have hly2 : lyP l m L lo R (π ++ [j]) := (lyP_s l m L lo R).mpr ⟨hly, hjR, h2.1, h2.2⟩
              have hop := m_openedBy N F S T C (sa M 35 ls1) l m L lo R c fr1 (π ++ [j]) hM hrow (by simp; omega) (fun i hi => by have := hly2.1 i hi; omega)
              rw [show (π ++ [j]).length = π.length + 1 by simp, ← nI_s] at hop
              refine hy_cl hop rfl ?_
              rintro o w1 ⟨y, rfl, rfl, rfl⟩
              refine And.intro (fun q3 => ?_) (fun q3 => ?_)
              · rw [zi_lt, zi_nI (by omega), zi_nI (by omega)] at q3
                refine And.intro hpin ?_
                refine And.intro (fun q4 => ?_) (fun q4 => absurd ?_ q4)
                · have dn := ih (π ++ [j]) B1 b1 fr1 ls1 x3 (by simp; omega) hly2 (by omega) hB1 hb1 ⟨hrow, fun i h3 h4 => f3 i (by simp at h3; omega) h4⟩ (fun B2 b2 fr2 ls2 x4 hu2 hb2 hfr2 hB2 => by
                      rw [show (π ++ [j]).length = π.length + 1 by simp, nI_pred]
                      have hf2 : ∀ i, i < π.length → fr2 i = nI (π.getD i 9) := fun i hi => by
                        have := frIs_gd hfr2 (i := i) (by simp; omega)
                        rwa [gd_app hi] at this
                      have hf3 : fr2 π.length = nI j := by
                        have := frIs_gd hfr2 (i := π.length) (by simp)
                        rwa [gd_last] at this
                      have e3 : fr2 (nI π.length).toNatClampNeg = nI j := by rw [hpl]; exact hf3
                      have hu3 := usp_cat hu hu2 (fun p => eLj_s l m L lo R c) (fun p q h1 h2 => eLj_rv l m L lo R c (by omega) h1 h2)
                      refine hy_go hy_pfA oX6_lays [91] 60 0 0 _ ?_
                      refine And.intro (fun q5 => ?_) (fun q5 => And.intro (fun q6 => ?_) (fun q6 => ?_))
                      · have q5 := zi_lt.mp q5
                        rw [zi_nI (by omega), zi_lit0] at q5; omega
                      · have q6 : nI π.length = M.2 24 := q6
                        rw [d2, nI_eqI (by omega) (by omega)] at q6; omega
                      · refine And.intro hpin (And.intro hpin ?_)
                        refine ihk (j + 1) B2 b2 (upd fr2 (nI π.length).toNatClampNeg (fr2 (nI π.length).toNatClampNeg + 1)) ls2 x4 (by omega) (by omega) hu3 hb2 (fun i hi => ?_) ?_ (fun i h1 h2 => ?_) hB2
                        · rw [hpl]; unfold upd; rw [if_neg (by omega)]; exact hf2 i hi
                        · rw [hpl]; unfold upd; rw [if_pos rfl]; show fr2 π.length + 1 = _; rw [hf3, nI_s]
                        · rw [hpl]; unfold upd; rw [if_neg (by omega)]; exact hfr2.2 i (by simp; omega) h2)
                  rw [show (π ++ [j]).length = π.length + 1 by simp, ← nI_s] at dn
                  exact dn
                · show fr1 (nI π.length).toNatClampNeg < M.2 21
                  rw [e0, d1]; exact nI_lt hjR (by omega)
              · rw [zi_lt, zi_nI (by omega), zi_nI (by omega)] at q3
                have sk := skip (fun p hp => by have := eL_low l m L lo R c hp; omega)
                exact And.intro sk.1 (And.intro sk.2.1 sk.2.2)
            · rw [h1] at q2; exact absurd rfl q2
    refine hy_go hy_pfA oX6_lays [91] 60 0 0 _ ?_
    refine And.intro (fun q => ?_) (fun q => And.intro (fun q2 => ?_) (fun q2 => ?_))
    · have q := zi_lt.mp q
      rw [zi_nI (by omega), zi_lit0] at q; omega
    · have q2 : nI π.length = M.2 24 := q2
      rw [d2, nI_eqI (by omega) (by omega)] at q2; omega
    · refine And.intro hpin (And.intro hpin ?_)
      have e0 : fr (nI π.length).toNatClampNeg = -1 := by rw [hpl]; exact hfr.2 _ (Nat.le_refl _) (by omega)
      refine loop R 0 B b (upd fr (nI π.length).toNatClampNeg (fr (nI π.length).toNatClampNeg + 1)) ls x3 (by omega) (by omega) (usp_none (fun p hp => by
        obtain ⟨x, hx, -⟩ := hp
        omega)) hb (fun i hi => ?_) ?_ (fun i h1 h2 => ?_) hB
      · rw [hpl]; unfold upd; rw [if_neg (by omega)]; exact frIs_gd hfr hi
      · rw [hpl]; unfold upd; rw [if_pos rfl]
        show fr π.length + 1 = _
        rw [hfr.2 _ (Nat.le_refl _) (by omega)]; rfl
      · rw [hpl]; unfold upd; rw [if_neg (by omega)]; exact hfr.2 i (by omega) h2
theorem l_ly0 (Q : hyQ) (x1 x2 : Option hyV) (K : ∀ fr x3, frIs fr [] → hy_X none 7 mX6_lays Q 0 0 (26, [some (hy_r 30), x1, x2, x3], [], wW N F S T C (wM (sa M 34 fr)))) :
    ∀ (j i : Nat) (fr : Nat → Int32), 8 - i = j → i ≤ 8 → (∀ k, k < i → fr k = -1) → hy_X none 7 mX6_lays Q 0 0 (7, [some (hy_r 30), x1, x2, some (.inl (nI i))], [], wW N F S T C (wM (sa M 34 fr))) := by
  intro j
  induction j with
  | zero =>
    intro i fr hj hi hf
    have : i = 8 := by omega
    subst this
    refine hy_go hy_pfA oX6_lays [7, 26] 60 0 0 _ ?_
    exact And.intro (fun q => K fr _ ⟨fun i x hx => by simp at hx, fun i _ h => hf i h⟩) (fun q => absurd (by decide : (8 : Int32) ≤ nI 8) q)
  | succ j ih =>
    intro i fr hj hi hf
    have hcl : (nI i).toNatClampNeg = i := cl_nI (by omega)
    have hin : vp_in (nI i) 8 := vn_in (by omega) (by decide)
    refine hy_go hy_pfA oX6_lays [7, 26] 60 0 0 _ ?_
    refine And.intro (fun q => ?_) (fun q => ?_)
    · have q : nI 8 ≤ nI i := q
      rw [nI_le24 (by omega) (by omega)] at q; omega
    · refine And.intro hin ?_
      have nx := ih (i + 1) (upd fr (nI i).toNatClampNeg (-1)) (by omega) (by omega) (fun k hk => by
        rw [hcl]
        unfold upd
        by_cases e : k = i
        · rw [if_pos e]
        · rw [if_neg e]; exact hf k (by omega))
      rw [← nI_s] at nx
      exact nx
def scrT (M M' : hyB) : Prop := (∀ k, k ≠ 34 → k ≠ 35 → M'.1 k = M.1 k) ∧ ∀ k, M'.2 k = M.2 k
theorem scrT_refl (M : hyB) : scrT M M := ⟨fun _ _ _ => rfl, fun _ => rfl⟩
theorem scrT_mk (M : hyB) (ls fr : Nat → Int32) : scrT M (sa (sa M 35 ls) 34 fr) := by
  refine ⟨fun k h1 h2 => ?_, fun k => rfl⟩
  show sv (sv M.1 35 ls) 34 fr k = M.1 k
  rw [sv_ne h1, sv_ne h2]
/-- what the search gives -/
def sp_lays (x : Int32) (ls : Nat → Int32) : Prop := (∃ B b, leastL l m L lo R c B b ∧ B ≤ 6000 ∧ x = nI B ∧ rowIs ls b) ∨ ((∀ p, ¬ eL l m L lo R c [] p) ∧ x = 1000000000)
theorem m_lays (hM : iTM M l m L lo R c) : hy_R 7 mX6_lays 0 0 [hy_r 30] (wW N F S T C (wM M)) (fun o w1 => ∃ x, o = some x ∧ ∃ M', scrT M M' ∧ sp_lays l m L lo R c x (M'.1 35) ∧ w1 = wW N F S T C (wM M')) := by
  obtain ⟨⟨t0, t1, t2, t3, t4, t5⟩, d1, d2⟩ := id hM
  have ob := oL_bd l L R (fun r => (t0 r).2.2.1) t2
  refine hy_Ri (L := [some (hy_r 30), none, none, none]) rfl (by decide) (hy_ple rfl) rfl ?_
  refine hy_go hy_pfA oX6_lays [7] 60 0 0 _ ?_
  refine l_ly0 N F S T C M _ _ _ (fun fr x3 hfr => ?_) 8 0 (M.1 34) (by omega) (by omega) (fun k hk => by omega)
  have hz : ∀ r, uL l [] r = 0 := fun r => rfl
  have h0 : lyP l m L lo R [] := ⟨fun i hi => by simp at hi, fun r hr => Nat.zero_le _, fun i j hi => by simp at hi⟩
  have ho0 : oL l L R [] < 1000000000 := by have := ob []; omega
  have key := l_lyD N F S T C M l m L lo R c (fun o w1 => ∃ x, o = some x ∧ ∃ M', scrT M M' ∧ sp_lays l m L lo R c x (M'.1 35) ∧ w1 = wW N F S T C (wM M')) hM c [] 1000000000 [] fr (M.1 35) x3 (by simp) h0 ho0 (Nat.le_refl _) (fun i x hx => by simp at hx) hfr (fun B' b' fr' ls' x4 hu hb hf hB => by
    refine hy_go hy_pfA oX6_lays [26] 60 0 0 _ ?_
    refine And.intro (fun q => ?_) (fun q => absurd (by decide) q)
    refine hy_fin ⟨_, scrT_mk M ls' fr', ?_, rfl⟩
    rcases hu with ⟨e1, e2, e3⟩ | ⟨e1, e2, e3, e4⟩
    · refine Or.inr ⟨fun p hp => ?_, by rw [e1]; rfl⟩
      have := e3 p hp
      have := ob p
      omega
    · refine Or.inl ⟨B', b', ⟨e2, e3, e4⟩, ?_, rfl, hb⟩
      have := ob b'
      omega)
  exact key
theorem m_opened (hM : iTM M l m L lo R c) : hy_R 8 mX6_opened 0 0 [hy_r 30] (wW N F S T C (wM M)) (fun o w1 => ∃ x, o = some x ∧ ∃ M', scrT M M' ∧ ((∃ B b, leastL l m L lo R c B b ∧ x = nI B) ∨ ((∀ p, ¬ eL l m L lo R c [] p) ∧ x = -1)) ∧ w1 = wW N F S T C (wM M')) := by
  refine hy_Ri (L := [some (hy_r 30), none]) rfl (by decide) (hy_ple rfl) rfl ?_
  refine hy_go hy_pfA oX6_opened [] 60 0 0 _ ?_
  refine hy_cl (m_lays N F S T C M l m L lo R c hM) rfl ?_
  rintro o w1 ⟨x, rfl, M', s1, hx, rfl⟩
  refine And.intro (fun q => ?_) (fun q => ?_)
  · refine hy_fin ⟨M', s1, ?_, rfl⟩
    rcases hx with ⟨B, b, h1, h2, h3, h4⟩ | ⟨h1, h2⟩
    · have q := zi_eq.mp q
      rw [h3, zi_nI (by omega)] at q
      have : (1000000000 : Int32).toInt = 1000000000 := rfl
      omega
    · exact Or.inr ⟨h1, rfl⟩
  · refine hy_fin ⟨M', s1, ?_, rfl⟩
    rcases hx with ⟨B, b, h1, h2, h3, h4⟩ | ⟨h1, h2⟩
    · exact Or.inl ⟨B, b, h1, h3⟩
    · exact absurd h2 q
/-- what from answers -/
def sp_from (a x : Int32) : Prop := (∃ k B b y, k < c ∧ a = nI k ∧ leastL l m L lo R c B b ∧ b[k]? = some y ∧ x = nI y) ∨ ((¬ ∃ k B b, k < c ∧ a = nI k ∧ leastL l m L lo R c B b) ∧ x = -1)
theorem m_from (a : Int32) (hM : iTM M l m L lo R c) : hy_R 8 mX6_from 0 0 [hy_r 30, .inl a] (wW N F S T C (wM M)) (fun o w1 => ∃ x, o = some x ∧ ∃ M', scrT M M' ∧ sp_from l m L lo R c a x ∧ w1 = wW N F S T C (wM M')) := by
  obtain ⟨⟨t0, t1, t2, t3, t4, t5⟩, d1, d2⟩ := id hM
  refine hy_Ri (L := [some (hy_r 30), some (.inl a)]) rfl (by decide) (hy_ple rfl) rfl ?_
  refine hy_go hy_pfA oX6_from [] 60 0 0 _ ?_
  refine And.intro (fun q => ?_) (fun q => ?_)
  · rw [d2] at q
    refine hy_fin ⟨M, scrT_refl M, Or.inr ⟨?_, rfl⟩, rfl⟩
    rintro ⟨k, B, b, h1, h2, -⟩
    exact net_out (by omega) q ⟨k, h1, h2⟩
  · rw [d2] at q
    obtain ⟨k, hk, rfl⟩ := net_in (by omega) q
    have hcl : (nI k).toNatClampNeg = k := cl_nI (by omega)
    refine hy_cl (m_lays N F S T C M l m L lo R c hM) rfl ?_
    rintro o w1 ⟨x, rfl, M', s1, hx, rfl⟩
    refine And.intro (fun q2 => ?_) (fun q2 => ?_)
    · refine hy_fin ⟨M', s1, Or.inr ⟨?_, rfl⟩, rfl⟩
      rintro ⟨k', B', b', h1', h2', h3'⟩
      rcases hx with ⟨B, b, h1, h2, h3, h4⟩ | ⟨h1, h2⟩
      · have q2 := zi_eq.mp q2
        rw [h3, zi_nI (by omega)] at q2
        have : (1000000000 : Int32).toInt = 1000000000 := rfl
        omega
      · exact h1 b' h3'.1
    · rcases hx with ⟨B, b, h1, h2, h3, h4⟩ | ⟨h1, h2⟩
      · refine And.intro (vn_in (by omega) (by decide)) ?_
        have hlen : b.length = c := h1.1.1
        have hb : b[k]? = some b[k] := List.getElem?_eq_getElem (by omega)
        refine hy_fin ⟨M', s1, Or.inl ⟨k, B, b, b[k], hk, rfl, h1, hb, ?_⟩, rfl⟩
        show M'.1 35 (nI k).toNatClampNeg = _
        rw [hcl]; exact h4 k _ hb
      · exact absurd h2 q2
end
end
section
/-! ===== packing sets of cuts into rolls of a lot, sets of mats into lots ===== -/
def isMn (P : Nat → Prop) (x : Nat) : Prop := (x < 1000000 ∧ P x ∧ ∀ v, P v → x ≤ v) ∨ (x = 1000000 ∧ ∀ v, ¬ P v)
theorem isMn_le {P : Nat → Prop} {x : Nat} (h : isMn P x) : x ≤ 1000000 := by
  rcases h with ⟨h, -⟩ | ⟨h, -⟩ <;> omega
theorem isMn_iff {P P' : Nat → Prop} {x : Nat} (h : isMn P x) (e : ∀ v, P v ↔ P' v) : isMn P' x := by
  rcases h with ⟨h1, h2, h3⟩ | ⟨h1, h2⟩
  · exact Or.inl ⟨h1, (e x).mp h2, fun v hv => h3 v ((e v).mpr hv)⟩
  · exact Or.inr ⟨h1, fun v hv => h2 v ((e v).mpr hv)⟩
theorem isMn_eq {P : Nat → Prop} {x y : Nat} (h : isMn P x) (h2 : isMn P y) : x = y := by
  rcases h with ⟨a1, a2, a3⟩ | ⟨a1, a2⟩
  · rcases h2 with ⟨b1, b2, b3⟩ | ⟨b1, b2⟩
    · have := a3 y b2; have := b3 x a2; omega
    · exact absurd a2 (b2 x)
  · rcases h2 with ⟨b1, b2, b3⟩ | ⟨b1, b2⟩
    · exact absurd b2 (a2 y)
    · omega
theorem isMn_add {P P1 P2 : Nat → Prop} {y a b : Nat} (hy : isMn P y) (ha : isMn P1 a) (hb : isMn P2 b) (bd : ∀ v1 v2, P1 v1 → P2 v2 → v1 + v2 < 1000000) : isMn (fun v => P v ∨ ∃ v1 v2, P1 v1 ∧ P2 v2 ∧ v = v1 + v2) (if a + b < y then a + b else y) := by
  have ly := isMn_le hy
  rcases ha with ⟨a1, a2, a3⟩ | ⟨a1, a2⟩
  · rcases hb with ⟨b1, b2, b3⟩ | ⟨b1, b2⟩
    · have hab := bd a b a2 b2
      by_cases q : a + b < y
      · rw [if_pos q]
        refine Or.inl ⟨hab, Or.inr ⟨a, b, a2, b2, rfl⟩, ?_⟩
        rintro v (hv | ⟨v1, v2, h1, h2, rfl⟩)
        · rcases hy with ⟨y1, y2, y3⟩ | ⟨y1, y2⟩
          · have := y3 v hv; omega
          · exact absurd hv (y2 v)
        · have := a3 v1 h1; have := b3 v2 h2; omega
      · rw [if_neg q]
        rcases hy with ⟨y1, y2, y3⟩ | ⟨y1, y2⟩
        · refine Or.inl ⟨y1, Or.inl y2, ?_⟩
          rintro v (hv | ⟨v1, v2, h1, h2, rfl⟩)
          · exact y3 v hv
          · have := a3 v1 h1; have := b3 v2 h2; omega
        · omega
    · rw [if_neg (by omega)]
      refine isMn_iff hy (fun v => ⟨Or.inl, ?_⟩)
      rintro (hv | ⟨v1, v2, h1, h2, rfl⟩)
      · exact hv
      · exact absurd h2 (b2 v2)
  · rw [if_neg (by omega)]
    refine isMn_iff hy (fun v => ⟨Or.inl, ?_⟩)
    rintro (hv | ⟨v1, v2, h1, h2, rfl⟩)
    · exact hv
    · exact absurd h1 (a2 v1)
theorem isMn_pt (d : Nat) (hd : d < 1000000) : isMn (fun v => v = d) d := Or.inl ⟨hd, rfl, fun v hv => by rw [hv]; exact Nat.le_refl _⟩
/-! sets of bits -/
def sub (P S : Nat) : Prop := ∀ i, P.testBit i = true → S.testBit i = true
theorem sub_half {P S : Nat} (h : sub P S) : sub (P / 2) (S / 2) := fun i hi => by
  rw [← Nat.testBit_succ] at hi ⊢
  exact h (i + 1) hi
theorem sub_low {P S : Nat} (h : sub P S) : P % 2 ≤ S % 2 := by
  have := h 0
  rw [Nat.testBit_zero, Nat.testBit_zero, decide_eq_true_eq, decide_eq_true_eq] at this
  omega
theorem sub_and (x S : Nat) : sub (x &&& S) S := fun i hi => by
  rw [Nat.testBit_and, Bool.and_eq_true] at hi
  exact hi.2
theorem and_half (a b : Nat) : a &&& b = 2 * (a / 2 &&& b / 2) + (a % 2) * (b % 2) := by
  have h1 : (a &&& b) / 2 = (a / 2 &&& b / 2) := Nat.and_div_two
  have h2 : (a &&& b) % 2 = (a % 2) * (b % 2) := by
    have := Nat.and_mod_two_eq_one (a := a) (b := b)
    rcases Nat.mod_two_eq_zero_or_one a with ha | ha <;> rcases Nat.mod_two_eq_zero_or_one b with hb | hb <;> rw [ha, hb] <;> omega
  omega
/-- the next smaller part of a set -/
theorem sub_next : ∀ (n S t p : Nat), S < 2 ^ n → sub t S → sub p S → p < t → p ≤ ((t - 1) &&& S)
  | 0, S, t, p, hS, ht, hp, hlt => by
    have hS : S = 0 := by simp at hS; exact hS
    have : t = 0 := by
      apply Nat.eq_of_testBit_eq
      intro i
      cases h : t.testBit i with
      | false => simp
      | true => have := ht i h; rw [hS] at this; simp at this
    omega
  | n + 1, S, t, p, hS, ht, hp, hlt => by
    have hS2 : S / 2 < 2 ^ n := by rw [Nat.pow_succ] at hS; omega
    have l1 := sub_low ht
    have l2 := sub_low hp
    rw [and_half]
    rcases Nat.mod_two_eq_zero_or_one t with h0 | h1
    · have e1 : (t - 1) / 2 = t / 2 - 1 := by omega
      have e2 : (t - 1) % 2 = 1 := by omega
      have ih := sub_next n (S / 2) (t / 2) (p / 2) hS2 (sub_half ht) (sub_half hp) (by omega)
      rw [e1, e2]
      omega
    · have e1 : (t - 1) / 2 = t / 2 := by omega
      have e2 : (t - 1) % 2 = 0 := by omega
      have e3 : (t / 2 &&& S / 2) = t / 2 := by
        apply Nat.eq_of_testBit_eq
        intro i
        rw [Nat.testBit_and]
        cases h : (t / 2).testBit i with
        | false => rfl
        | true => rw [sub_half ht i h]; rfl
      rw [e1, e2, e3]
      omega
theorem and_lt {t S : Nat} (h : 0 < t) : ((t - 1) &&& S) < t := Nat.lt_of_le_of_lt Nat.and_le_left (by omega)
theorem xor_sub {P S i : Nat} (h : sub P S) : (S ^^^ P).testBit i = (S.testBit i && !(P.testBit i)) := by
  rw [Nat.testBit_xor]
  cases hp : P.testBit i with
  | false => simp
  | true => rw [h i hp]; rfl
theorem sumf_two (f g : Nat → Nat) : ∀ n, sumf (fun k => f k + g k) n = sumf f n + sumf g n
  | 0 => rfl
  | n + 1 => by
    have := sumf_two f g n
    show sumf (fun k => f k + g k) n + (f n + g n) = sumf f n + f n + (sumf g n + g n)
    omega
theorem sumf_zero {f : Nat → Nat} {n : Nat} (h : ∀ k, k < n → f k = 0) : sumf f n = 0 := by
  have h2 : sumf f n = sumf (fun _ => 0) n := sumf_congr h
  rw [h2]
  have := sumf_bd (f := fun _ => 0) (b := 0) (n := n) (fun k _ => Nat.le_refl _)
  omega
section
variable (l : Nat → Nat) (n : Nat) (rs pr lo : Nat → Nat)
/-- lengths of sets; of those in a roll -/
def lnS (S : Nat) : Nat := sumf (fun j => if S.testBit j then l j else 0) n
def lnP (S : Nat) (ψ : Nat → Nat) (r : Nat) : Nat := sumf (fun j => if S.testBit j ∧ ψ j = r then l j else 0) n
def PF (t S k v : Nat) : Prop := ∃ ψ : Nat → Nat, (∀ j, S.testBit j = true → ψ j < k ∧ lo (ψ j) = t) ∧ (∀ r, r < k → lo r = t → lnP l n S ψ r ≤ rs r) ∧ v = sumf (fun r => if lo r = t ∧ 0 < lnP l n S ψ r then pr r else 0) k
theorem PF_0 {t S v : Nat} : PF l n rs pr lo t S 0 v ↔ S = 0 ∧ v = 0 := by
  constructor
  · rintro ⟨ψ, h1, -, h3⟩
    refine ⟨?_, h3⟩
    apply Nat.eq_of_testBit_eq
    intro i
    cases h : S.testBit i with
    | false => simp
    | true => have := (h1 i h).1; omega
  · rintro ⟨rfl, rfl⟩
    exact ⟨fun _ => 0, fun j hj => by simp at hj, fun r hr => by omega, rfl⟩
theorem lnP_none {S : Nat} {ψ : Nat → Nat} {r : Nat} (h : ∀ j, S.testBit j = true → ψ j ≠ r) : lnP l n S ψ r = 0 := sumf_zero (fun j _ => by
  rw [if_neg]
  rintro ⟨h1, h2⟩
  exact h j h1 h2)
theorem PF_n {t S k v : Nat} (h : lo k ≠ t) : PF l n rs pr lo t S (k + 1) v ↔ PF l n rs pr lo t S k v := by
  constructor
  · rintro ⟨ψ, h1, h2, h3⟩
    refine ⟨ψ, fun j hj => ⟨?_, (h1 j hj).2⟩, fun r hr => h2 r (by omega), ?_⟩
    · have h4 := h1 j hj
      have : ψ j ≠ k := fun e => h (e ▸ h4.2)
      omega
    · rw [h3]
      show sumf _ k + (if lo k = t ∧ 0 < lnP l n S ψ k then pr k else 0) = _
      rw [if_neg (fun q => h q.1), Nat.add_zero]
  · rintro ⟨ψ, h1, h2, h3⟩
    refine ⟨ψ, fun j hj => ⟨by have := (h1 j hj).1; omega, (h1 j hj).2⟩, fun r hr hl => h2 r (by have : r ≠ k := (fun e => h (e ▸ hl)); omega) hl, ?_⟩
    rw [h3]
    show _ = sumf _ k + (if lo k = t ∧ 0 < lnP l n S ψ k then pr k else 0)
    rw [if_neg (fun q => h q.1), Nat.add_zero]
theorem PF_s {t S k v : Nat} (h : lo k = t) (hn : S < 2 ^ n) (hl : ∀ j, j < n → 1 ≤ l j) : PF l n rs pr lo t S (k + 1) v ↔ PF l n rs pr lo t S k v ∨ ∃ P, 1 ≤ P ∧ sub P S ∧ lnS l n P ≤ rs k ∧ ∃ v', PF l n rs pr lo t (S ^^^ P) k v' ∧ v = v' + pr k := by
  constructor
  · rintro ⟨ψ, h1, h2, h3⟩
    obtain ⟨P, p1, p2⟩ := set_num (fun j => S.testBit j && decide (ψ j = k)) n (fun j hj => by
      rw [Bool.and_eq_true] at hj
      exact tb_lt hn hj.1)
    have hPS : sub P S := fun i hi => by
      rw [p2, Bool.and_eq_true] at hi
      exact hi.1
    have hPk : ∀ j, P.testBit j = true ↔ S.testBit j = true ∧ ψ j = k := fun j => by
      rw [p2, Bool.and_eq_true, decide_eq_true_eq]
    by_cases hP : P = 0
    · refine Or.inl ⟨ψ, fun j hj => ⟨?_, (h1 j hj).2⟩, fun r hr => h2 r (by omega), ?_⟩
      · have h4 := h1 j hj
        have : ψ j ≠ k := fun e => by
          have := (hPk j).mpr ⟨hj, e⟩
          rw [hP] at this; simp at this
        omega
      · rw [h3]
        show sumf _ k + (if lo k = t ∧ 0 < lnP l n S ψ k then pr k else 0) = _
        rw [lnP_none l n (fun j hj e => by
          have := (hPk j).mpr ⟨hj, e⟩
          rw [hP] at this; simp at this), if_neg (by omega), Nat.add_zero]
    · refine Or.inr ⟨P, by omega, hPS, ?_, sumf (fun r => if lo r = t ∧ 0 < lnP l n S ψ r then pr r else 0) k, ⟨ψ, fun j hj => ?_, fun r hr hlr => ?_, ?_⟩, ?_⟩
      · have e : lnS l n P = lnP l n S ψ k := sumf_congr (fun j _ => by
          by_cases q : P.testBit j = true
          · rw [if_pos q, if_pos ((hPk j).mp q)]
          · rw [if_neg q, if_neg (fun z => q ((hPk j).mpr z))])
        rw [e]
        exact h2 k (by omega) h
      · rw [xor_sub hPS, Bool.and_eq_true] at hj
        have h4 := h1 j hj.1
        refine ⟨?_, h4.2⟩
        have : ψ j ≠ k := fun e => by
          have := (hPk j).mpr ⟨hj.1, e⟩
          rw [this] at hj
          simp at hj
        omega
      · have e : lnP l n (S ^^^ P) ψ r = lnP l n S ψ r := sumf_congr (fun j _ => by
          by_cases q : S.testBit j = true ∧ ψ j = r
          · rw [if_pos q, if_pos]
            refine ⟨?_, q.2⟩
            rw [xor_sub hPS, q.1]
            cases hp : P.testBit j with
            | false => rfl
            | true => have := ((hPk j).mp hp).2; omega
          · rw [if_neg q, if_neg]
            rintro ⟨z1, z2⟩
            rw [xor_sub hPS, Bool.and_eq_true] at z1
            exact q ⟨z1.1, z2⟩)
        rw [e]; exact h2 r (by omega) hlr
      · refine sumf_congr (fun r hr => ?_)
        have e : lnP l n (S ^^^ P) ψ r = lnP l n S ψ r := sumf_congr (fun j _ => by
          by_cases q : S.testBit j = true ∧ ψ j = r
          · rw [if_pos q, if_pos]
            refine ⟨?_, q.2⟩
            rw [xor_sub hPS, q.1]
            cases hp : P.testBit j with
            | false => rfl
            | true => have := ((hPk j).mp hp).2; omega
          · rw [if_neg q, if_neg]
            rintro ⟨z1, z2⟩
            rw [xor_sub hPS, Bool.and_eq_true] at z1
            exact q ⟨z1.1, z2⟩)
        rw [e]
      · rw [h3]
        show sumf _ k + (if lo k = t ∧ 0 < lnP l n S ψ k then pr k else 0) = _
        rw [if_pos]
        refine ⟨h, ?_⟩
        obtain ⟨i, hi⟩ : ∃ i, P.testBit i = true := Nat.exists_testBit_of_ne_zero hP
        have hin := tb_lt p1 hi
        have h5 := hl i hin
        have h6 := sumf_one (f := fun j => if S.testBit j ∧ ψ j = k then l j else 0) hin
        rw [if_pos ((hPk i).mp hi)] at h6
        unfold lnP
        omega
  · rintro (⟨ψ, h1, h2, h3⟩ | ⟨P, p1, p2, p3, v', ⟨ψ, h1, h2, h3⟩, rfl⟩)
    · have hz : lnP l n S ψ k = 0 := lnP_none l n (fun j hj e => by have := (h1 j hj).1; omega)
      refine ⟨ψ, fun j hj => ⟨by have := (h1 j hj).1; omega, (h1 j hj).2⟩, fun r hr hlr => ?_, ?_⟩
      · by_cases e : r = k
        · rw [e, hz]; exact Nat.zero_le _
        · exact h2 r (by omega) hlr
      · rw [h3]
        show _ = sumf _ k + (if lo k = t ∧ 0 < lnP l n S ψ k then pr k else 0)
        rw [hz, if_neg (by omega), Nat.add_zero]
    · have hP2 : P < 2 ^ n := by
        apply Nat.lt_pow_two_of_testBit
        intro i hi
        cases hb : P.testBit i with
        | false => rfl
        | true => have := tb_lt hn (p2 i hb); omega
      have e1 : ∀ r, r < k → lnP l n S (fun j => if P.testBit j = true then k else ψ j) r = lnP l n (S ^^^ P) ψ r := fun r hr => sumf_congr (fun j _ => by
        by_cases q : P.testBit j = true
        · rw [if_neg, if_neg]
          · rintro ⟨z, -⟩
            rw [xor_sub p2, q] at z; simp at z
          · rintro ⟨-, z⟩
            have z : (if P.testBit j = true then k else ψ j) = r := z
            rw [if_pos q] at z; omega
        · have q' : P.testBit j = false := by simpa using q
          have w : (if P.testBit j = true then k else ψ j) = ψ j := if_neg q
          show (if S.testBit j = true ∧ (if P.testBit j = true then k else ψ j) = r then l j else 0) = _
          rw [w, xor_sub p2, q']
          simp)
      have e2 : lnP l n S (fun j => if P.testBit j = true then k else ψ j) k = lnS l n P := sumf_congr (fun j _ => by
        by_cases q : P.testBit j = true
        · rw [if_pos q, if_pos ⟨p2 j q, if_pos q⟩]
        · rw [if_neg q, if_neg]
          rintro ⟨z1, z2⟩
          have z2 : (if P.testBit j = true then k else ψ j) = k := z2
          rw [if_neg q] at z2
          have q' : P.testBit j = false := by simpa using q
          have := (h1 j (by rw [xor_sub p2, z1, q']; rfl)).1
          omega)
      refine ⟨fun j => if P.testBit j = true then k else ψ j, fun j hj => ?_, fun r hr hlr => ?_, ?_⟩
      · show (if P.testBit j = true then k else ψ j) < k + 1 ∧ lo (if P.testBit j = true then k else ψ j) = t
        by_cases q : P.testBit j = true
        · rw [if_pos q]; exact ⟨by omega, h⟩
        · rw [if_neg q]
          have q' : P.testBit j = false := by simpa using q
          have := h1 j (by rw [xor_sub p2, hj, q']; rfl)
          exact ⟨by omega, this.2⟩
      · by_cases e : r = k
        · rw [e, e2]; exact p3
        · rw [e1 r (by omega)]; exact h2 r (by omega) hlr
      · show _ = sumf _ k + (if lo k = t ∧ 0 < lnP l n S (fun j => if P.testBit j = true then k else ψ j) k then pr k else 0)
        have hpos : 0 < lnS l n P := by
          obtain ⟨i, hi⟩ : ∃ i, P.testBit i = true := Nat.exists_testBit_of_ne_zero (by omega)
          have hin := tb_lt hP2 hi
          have h5 := hl i hin
          have h6 := sumf_one (f := fun j => if P.testBit j then l j else 0) hin
          rw [if_pos hi] at h6
          unfold lnS
          omega
        rw [e2, if_pos ⟨h, hpos⟩, h3]
        congr 1
        exact sumf_congr (fun r hr => by rw [e1 r hr])
theorem PF_bd {t S k v : Nat} (hp : ∀ r, pr r ≤ 1000) (h : PF l n rs pr lo t S k v) : v ≤ 1000 * k := by
  obtain ⟨ψ, -, -, h3⟩ := h
  rw [h3]
  exact sumf_bd (fun r _ => by split; exact hp r; omega)
end
end
section
/-! ===== mats to lots ===== -/
def cs (mm : Nat → Nat) (n Y : Nat) : Nat := bitf (fun j => Y.testBit (mm j) = true) n
theorem cs_t {mm : Nat → Nat} {n Y j : Nat} : (cs mm n Y).testBit j = true ↔ j < n ∧ Y.testBit (mm j) = true := by
  unfold cs
  rw [bitf_test, decide_eq_true_eq]
theorem cs_lt (mm : Nat → Nat) (n Y : Nat) : cs mm n Y < 2 ^ n := bitf_lt _ _
theorem zero_sub {P : Nat} (h : sub P 0) : P = 0 := by
  apply Nat.eq_of_testBit_eq
  intro i
  cases hb : P.testBit i with
  | false => simp
  | true => have := h i hb; simp at this
section
variable (l : Nat → Nat) (n : Nat) (rs pr lo mm fm g : Nat → Nat) (F R : Nat)
def okL (P t : Nat) : Prop := ∀ i, i < F → P.testBit (fm i) = true → g i = t
def JF (Y T v : Nat) : Prop := ∃ μ ψ : Nat → Nat, (∀ a, Y.testBit a = true → μ a < T) ∧ (∀ i, i < F → Y.testBit (fm i) = true → g i = μ (fm i)) ∧ (∀ j, j < n → Y.testBit (mm j) = true → ψ j < R ∧ lo (ψ j) = μ (mm j)) ∧ (∀ r, r < R → lo r < T → lnP l n (cs mm n Y) ψ r ≤ rs r) ∧ v = sumf (fun r => if lo r < T ∧ 0 < lnP l n (cs mm n Y) ψ r then pr r else 0) R
theorem JF_0 {Y v : Nat} : JF l n rs pr lo mm fm g F R Y 0 v ↔ Y = 0 ∧ v = 0 := by
  constructor
  · rintro ⟨μ, ψ, h1, -, -, -, h5⟩
    refine ⟨?_, ?_⟩
    · apply Nat.eq_of_testBit_eq
      intro i
      cases h : Y.testBit i with
      | false => simp
      | true => have := h1 i h; omega
    · rw [h5]; exact sumf_zero (fun r _ => if_neg (by omega))
  · rintro ⟨rfl, rfl⟩
    exact ⟨fun _ => 0, fun _ => 0, fun a ha => by simp at ha, fun i _ h => by simp at h, fun j _ h => by simp at h, fun r _ h => by omega, (sumf_zero (fun r _ => if_neg (by omega))).symm⟩
theorem JF_bd {Y T v : Nat} (hp : ∀ r, pr r ≤ 1000) (h : JF l n rs pr lo mm fm g F R Y T v) : v ≤ 1000 * R := by
  obtain ⟨μ, ψ, -, -, -, -, h3⟩ := h
  rw [h3]
  exact sumf_bd (fun r _ => by split; exact hp r; omega)
theorem JF_s {Y T v : Nat} : JF l n rs pr lo mm fm g F R Y (T + 1) v ↔ JF l n rs pr lo mm fm g F R Y T v ∨ ∃ P, 1 ≤ P ∧ sub P Y ∧ okL fm g F P T ∧ ∃ v1 v2, JF l n rs pr lo mm fm g F R (Y ^^^ P) T v1 ∧ PF l n rs pr lo T (cs mm n P) R v2 ∧ v = v1 + v2 := by
  constructor
  · rintro ⟨μ, ψ, h1, h2, h3, h4, h5⟩
    obtain ⟨b, hb⟩ : ∃ b, Y < 2 ^ b := ⟨Y, Nat.lt_two_pow_self⟩
    obtain ⟨P, -, p2⟩ := set_num (fun a => Y.testBit a && decide (μ a = T)) b (fun a ha => by
      rw [Bool.and_eq_true] at ha
      exact tb_lt hb ha.1)
    have hPY : sub P Y := fun i hi => by
      rw [p2, Bool.and_eq_true] at hi
      exact hi.1
    have hPk : ∀ a, P.testBit a = true ↔ Y.testBit a = true ∧ μ a = T := fun a => by
      rw [p2, Bool.and_eq_true, decide_eq_true_eq]
    have hX : ∀ a, (Y ^^^ P).testBit a = true ↔ Y.testBit a = true ∧ μ a ≠ T := fun a => by
      rw [xor_sub hPY, Bool.and_eq_true, Bool.not_eq_true', Bool.eq_false_iff]
      constructor
      · rintro ⟨q1, q2⟩
        exact ⟨q1, fun e => q2 ((hPk a).mpr ⟨q1, e⟩)⟩
      · rintro ⟨q1, q2⟩
        exact ⟨q1, fun e => q2 ((hPk a).mp e).2⟩
    have eA : ∀ r, lo r ≠ T → lnP l n (cs mm n Y) ψ r = lnP l n (cs mm n (Y ^^^ P)) ψ r := fun r hr => sumf_congr (fun j hj => by
      by_cases q : (cs mm n (Y ^^^ P)).testBit j = true ∧ ψ j = r
      · rw [if_pos q, if_pos]
        exact ⟨cs_t.mpr ⟨hj, ((hX _).mp (cs_t.mp q.1).2).1⟩, q.2⟩
      · rw [if_neg q, if_neg]
        rintro ⟨z1, z2⟩
        have z1 := (cs_t.mp z1).2
        refine q ⟨cs_t.mpr ⟨hj, (hX _).mpr ⟨z1, fun e => hr ?_⟩⟩, z2⟩
        rw [← z2, (h3 j hj z1).2, e])
    have eB : ∀ r, lo r = T → lnP l n (cs mm n Y) ψ r = lnP l n (cs mm n P) ψ r := fun r hr => sumf_congr (fun j hj => by
      by_cases q : (cs mm n P).testBit j = true ∧ ψ j = r
      · rw [if_pos q, if_pos]
        exact ⟨cs_t.mpr ⟨hj, ((hPk _).mp (cs_t.mp q.1).2).1⟩, q.2⟩
      · rw [if_neg q, if_neg]
        rintro ⟨z1, z2⟩
        have z1 := (cs_t.mp z1).2
        refine q ⟨cs_t.mpr ⟨hj, (hPk _).mpr ⟨z1, ?_⟩⟩, z2⟩
        rw [← (h3 j hj z1).2, z2, hr])
    by_cases hP : P = 0
    · have hμ : ∀ a, Y.testBit a = true → μ a ≠ T := fun a ha e => by
        have := (hPk a).mpr ⟨ha, e⟩
        rw [hP] at this; simp at this
      have hz : ∀ r, lo r = T → lnP l n (cs mm n Y) ψ r = 0 := fun r hr => by
        rw [eB r hr]
        exact lnP_none l n (fun j hj => by
          have := (cs_t.mp hj).2
          rw [hP] at this; simp at this)
      refine Or.inl ⟨μ, ψ, fun a ha => ?_, h2, h3, fun r hr hlr => h4 r hr (by omega), ?_⟩
      · have := h1 a ha; have := hμ a ha; omega
      · rw [h5]
        refine sumf_congr (fun r hr => ?_)
        by_cases q : lo r < T ∧ 0 < lnP l n (cs mm n Y) ψ r
        · rw [if_pos q, if_pos ⟨by omega, q.2⟩]
        · rw [if_neg q, if_neg]
          rintro ⟨z1, z2⟩
          by_cases e : lo r = T
          · rw [hz r e] at z2; omega
          · exact q ⟨by omega, z2⟩
    · refine Or.inr ⟨P, by omega, hPY, fun i hi hpi => ?_, sumf (fun r => if lo r < T ∧ 0 < lnP l n (cs mm n (Y ^^^ P)) ψ r then pr r else 0) R, sumf (fun r => if lo r = T ∧ 0 < lnP l n (cs mm n P) ψ r then pr r else 0) R, ⟨μ, ψ, fun a ha => ?_, fun i hi h => h2 i hi ((hX _).mp h).1, fun j hj h => h3 j hj ((hX _).mp h).1, fun r hr hlr => ?_, rfl⟩, ⟨ψ, fun j hj => ?_, fun r hr hlr => ?_, rfl⟩, ?_⟩
      · have := (hPk _).mp hpi
        rw [h2 i hi this.1, this.2]
      · have := (hX a).mp ha
        have := h1 a this.1
        omega
      · rw [← eA r (by omega)]; exact h4 r hr (by omega)
      · have hj := cs_t.mp hj
        have hq := (hPk _).mp hj.2
        have := h3 j hj.1 hq.1
        exact ⟨this.1, by rw [this.2, hq.2]⟩
      · rw [← eB r hlr]; exact h4 r hr (by omega)
      · rw [h5, ← sumf_two]
        refine sumf_congr (fun r hr => ?_)
        by_cases e : lo r = T
        · rw [eB r e, if_neg (show ¬ (lo r < T ∧ 0 < lnP l n (cs mm n (Y ^^^ P)) ψ r) by omega), Nat.zero_add]
          by_cases q : 0 < lnP l n (cs mm n P) ψ r
          · rw [if_pos ⟨by omega, q⟩, if_pos ⟨e, q⟩]
          · rw [if_neg (fun z => q z.2), if_neg (fun z => q z.2)]
        · rw [eA r e, if_neg (show ¬ (lo r = T ∧ 0 < lnP l n (cs mm n P) ψ r) from fun z => e z.1), Nat.add_zero]
          by_cases q : lo r < T ∧ 0 < lnP l n (cs mm n (Y ^^^ P)) ψ r
          · rw [if_pos q, if_pos ⟨by omega, q.2⟩]; rfl
          · rw [if_neg q, if_neg (fun z => q ⟨by omega, z.2⟩)]
  · rintro (⟨μ, ψ, h1, h2, h3, h4, h5⟩ | ⟨P, p1, p2, p3, v1, v2, ⟨μ, ψ, h1, h2, h3, h4, rfl⟩, ⟨χ, k1, k2, rfl⟩, rfl⟩)
    · have hz : ∀ r, lo r = T → lnP l n (cs mm n Y) ψ r = 0 := fun r hr => lnP_none l n (fun j hj e => by
        have hj := cs_t.mp hj
        have := h3 j hj.1 hj.2
        have := h1 _ hj.2
        rw [e] at *
        omega)
      refine ⟨μ, ψ, fun a ha => by have := h1 a ha; omega, h2, h3, fun r hr hlr => ?_, ?_⟩
      · by_cases e : lo r = T
        · rw [hz r e]; exact Nat.zero_le _
        · exact h4 r hr (by omega)
      · rw [h5]
        refine sumf_congr (fun r hr => ?_)
        by_cases q : lo r < T ∧ 0 < lnP l n (cs mm n Y) ψ r
        · rw [if_pos q, if_pos ⟨by omega, q.2⟩]
        · rw [if_neg q, if_neg]
          rintro ⟨z1, z2⟩
          by_cases e : lo r = T
          · rw [hz r e] at z2; omega
          · exact q ⟨by omega, z2⟩
    · have hX : ∀ a, (Y ^^^ P).testBit a = true ↔ Y.testBit a = true ∧ ¬ P.testBit a = true := fun a => by
        rw [xor_sub p2, Bool.and_eq_true, Bool.not_eq_true', Bool.eq_false_iff]
      have ePs : ∀ j, P.testBit (mm j) = true → (if P.testBit (mm j) = true then χ j else ψ j) = χ j := fun j h => if_pos h
      have eNs : ∀ j, ¬ P.testBit (mm j) = true → (if P.testBit (mm j) = true then χ j else ψ j) = ψ j := fun j h => if_neg h
      have eA : ∀ r, lo r < T → lnP l n (cs mm n Y) (fun j => if P.testBit (mm j) = true then χ j else ψ j) r = lnP l n (cs mm n (Y ^^^ P)) ψ r := fun r hr => sumf_congr (fun j hj => by
        show (if (cs mm n Y).testBit j = true ∧ (if P.testBit (mm j) = true then χ j else ψ j) = r then l j else 0) = _
        by_cases q : P.testBit (mm j) = true
        · rw [ePs j q, if_neg, if_neg]
          · rintro ⟨z1, -⟩
            exact ((hX _).mp (cs_t.mp z1).2).2 q
          · rintro ⟨-, z2⟩
            have := (k1 j (cs_t.mpr ⟨hj, q⟩)).2
            rw [z2] at this
            omega
        · rw [eNs j q]
          by_cases q2 : (cs mm n Y).testBit j = true ∧ ψ j = r
          · rw [if_pos q2, if_pos ⟨cs_t.mpr ⟨hj, (hX _).mpr ⟨(cs_t.mp q2.1).2, q⟩⟩, q2.2⟩]
          · rw [if_neg q2, if_neg (fun z => q2 ⟨cs_t.mpr ⟨hj, ((hX _).mp (cs_t.mp z.1).2).1⟩, z.2⟩)])
      have eB : ∀ r, lo r = T → lnP l n (cs mm n Y) (fun j => if P.testBit (mm j) = true then χ j else ψ j) r = lnP l n (cs mm n P) χ r := fun r hr => sumf_congr (fun j hj => by
        show (if (cs mm n Y).testBit j = true ∧ (if P.testBit (mm j) = true then χ j else ψ j) = r then l j else 0) = _
        by_cases q : P.testBit (mm j) = true
        · rw [ePs j q]
          by_cases q2 : χ j = r
          · rw [if_pos ⟨cs_t.mpr ⟨hj, p2 _ q⟩, q2⟩, if_pos ⟨cs_t.mpr ⟨hj, q⟩, q2⟩]
          · rw [if_neg (fun z => q2 z.2), if_neg (fun z => q2 z.2)]
        · rw [eNs j q, if_neg, if_neg]
          · rintro ⟨z1, -⟩
            exact q (cs_t.mp z1).2
          · rintro ⟨z1, z2⟩
            have hy := (hX _).mpr ⟨(cs_t.mp z1).2, q⟩
            have a1 := (h3 j hj hy).2
            have a2 := h1 _ hy
            rw [z2] at a1
            omega)
      refine ⟨fun a => if P.testBit a = true then T else μ a, fun j => if P.testBit (mm j) = true then χ j else ψ j, fun a ha => ?_, fun i hi h => ?_, fun j hj h => ?_, fun r hr hlr => ?_, ?_⟩
      · show (if P.testBit a = true then T else μ a) < T + 1
        by_cases q : P.testBit a = true
        · rw [if_pos q]; omega
        · rw [if_neg q]
          have := h1 a ((hX a).mpr ⟨ha, q⟩)
          omega
      · show g i = (if P.testBit (fm i) = true then T else μ (fm i))
        by_cases q : P.testBit (fm i) = true
        · rw [if_pos q]; exact p3 i hi q
        · rw [if_neg q]; exact h2 i hi ((hX _).mpr ⟨h, q⟩)
      · show (if P.testBit (mm j) = true then χ j else ψ j) < R ∧ lo (if P.testBit (mm j) = true then χ j else ψ j) = (if P.testBit (mm j) = true then T else μ (mm j))
        by_cases q : P.testBit (mm j) = true
        · rw [if_pos q, if_pos q]
          exact k1 j (cs_t.mpr ⟨hj, q⟩)
        · rw [if_neg q, if_neg q]
          exact h3 j hj ((hX _).mpr ⟨h, q⟩)
      · by_cases e : lo r = T
        · rw [eB r e]; exact k2 r hr e
        · rw [eA r (by omega)]; exact h4 r hr (by omega)
      · rw [← sumf_two]
        refine sumf_congr (fun r hr => ?_)
        by_cases e : lo r = T
        · rw [eB r e, if_neg (show ¬ (lo r < T ∧ 0 < lnP l n (cs mm n (Y ^^^ P)) ψ r) by omega), Nat.zero_add]
          by_cases q : 0 < lnP l n (cs mm n P) χ r
          · have a1 : lo r < T + 1 ∧ 0 < lnP l n (cs mm n P) χ r := ⟨by omega, q⟩
            rw [if_pos a1, if_pos (show lo r = T ∧ 0 < lnP l n (cs mm n P) χ r from ⟨e, q⟩)]
          · rw [if_neg (fun z => q z.2), if_neg (fun z => q z.2)]
        · by_cases e2 : lo r < T
          · rw [eA r e2, if_neg (show ¬ (lo r = T ∧ 0 < lnP l n (cs mm n P) χ r) from fun z => e z.1), Nat.add_zero]
            by_cases q : 0 < lnP l n (cs mm n (Y ^^^ P)) ψ r
            · rw [if_pos ⟨by omega, q⟩, if_pos ⟨by omega, q⟩]
            · rw [if_neg (fun z => q z.2), if_neg (fun z => q z.2)]
          · rw [if_neg (by omega), if_neg (by omega), if_neg (by omega)]
end
end
section
/-! ===== what joins all mats over three lots is a lay ===== -/
theorem t15 {a : Nat} (h : a ≤ 3) : (15 : Nat).testBit a = true := by
  have : ∀ x : Fin 4, (15 : Nat).testBit x.val = true := by decide
  exact this ⟨a, by omega⟩
theorem t15' {a : Nat} (h : (15 : Nat).testBit a = true) : a ≤ 3 := by
  have := tb_lt (x := 15) (n := 4) (by decide) h
  omega
section
variable (l m L lo : Nat → Nat) (R c : Nat)
/-- the lengths, rests, prices behind the fixed ones -/
def fl (F : Nat) : Nat → Nat := fun j => l (F + j)
def frs (π : List Nat) : Nat → Nat := fun r => L r - uL l π r
def fpr (π : List Nat) : Nat → Nat := fun r => if 0 < uL l π r then 0 else L r
def fmm (F : Nat) : Nat → Nat := fun j => m (F + j)
def fg (π : List Nat) : Nat → Nat := fun i => lo (π.getD i 9)
def Jp (π : List Nat) (Y T v : Nat) : Prop := JF (fl l π.length) (c - π.length) (frs l L π) (fpr l L π) lo (fmm m π.length) m (fg lo π) π.length R Y T v
def Pp (π : List Nat) (t S k v : Nat) : Prop := PF (fl l π.length) (c - π.length) (frs l L π) (fpr l L π) lo t S k v
theorem uL_cat (π q : List Nat) (r : Nat) : uL l (π ++ q) r = uL l π r + sumf (fun j => if q.getD j 9 = r then l (π.length + j) else 0) q.length := by
  unfold uL
  rw [List.length_append, sumf_add]
  congr 1
  · exact sumf_congr (fun i hi => by rw [gd_app hi])
  · refine sumf_congr (fun j hj => ?_)
    have : (π ++ q).getD (π.length + j) 9 = q.getD j 9 := by
      rw [List.getD_eq_getElem?_getD, List.getD_eq_getElem?_getD, List.getElem?_append_right (by omega)]
      simp
    rw [this]
theorem oL_cat (π q : List Nat) : oL l L R (π ++ q) = oL l L R π + sumf (fun r => if 0 < sumf (fun j => if q.getD j 9 = r then l (π.length + j) else 0) q.length then fpr l L π r else 0) R := by
  unfold oL
  rw [← sumf_two]
  refine sumf_congr (fun r hr => ?_)
  show (if 0 < uL l (π ++ q) r then L r else 0) = (if 0 < uL l π r then L r else 0) + (if 0 < sumf (fun j => if q.getD j 9 = r then l (π.length + j) else 0) q.length then (if 0 < uL l π r then 0 else L r) else 0)
  rw [uL_cat]
  generalize sumf (fun j => if q.getD j 9 = r then l (π.length + j) else 0) q.length = y
  by_cases h1 : 0 < uL l π r
  · rw [if_pos h1, if_pos h1, if_pos (by omega)]
    split <;> rfl
  · rw [if_neg h1, if_neg h1]
    have : uL l π r = 0 := by omega
    rw [this, Nat.zero_add, Nat.zero_add]
theorem lnP_all {n : Nat} {l' mm ψ : Nat → Nat} {r : Nat} (hm : ∀ i, mm i ≤ 3) : lnP l' n (cs mm n 15) ψ r = sumf (fun j => if ψ j = r then l' j else 0) n := sumf_congr (fun j hj => by
  by_cases q : ψ j = r
  · rw [if_pos q, if_pos ⟨cs_t.mpr ⟨hj, t15 (hm j)⟩, q⟩]
  · rw [if_neg q, if_neg (fun z => q z.2)])
theorem Jp_eL {π : List Nat} {v : Nat} (hπ : π.length ≤ c) (h1 : ∀ i, i < π.length → π.getD i 9 < R) (h2 : ∀ r, r < R → uL l π r ≤ L r) (hm : ∀ i, m i ≤ 3) (hlo : ∀ r, lo r ≤ 2) : Jp l m L lo R c π 15 3 v ↔ ∃ p, eL l m L lo R c π p ∧ oL l L R p = oL l L R π + v := by
  have hmm : ∀ j, fmm m π.length j ≤ 3 := fun j => hm _
  constructor
  · rintro ⟨μ, ψ, a1, a2, a3, a4, a5⟩
    have hq : ∀ j, j < c - π.length → (sg ψ 0 (c - π.length)).getD j 9 = ψ j := fun j hj => by
      rw [List.getD_eq_getElem?_getD, sg_get, if_pos hj, Nat.zero_add]; rfl
    have hs : ∀ r, sumf (fun j => if (sg ψ 0 (c - π.length)).getD j 9 = r then l (π.length + j) else 0) (sg ψ 0 (c - π.length)).length = lnP (fl l π.length) (c - π.length) (cs (fmm m π.length) (c - π.length) 15) ψ r := fun r => by
      rw [lnP_all hmm, sg_len]
      exact sumf_congr (fun j hj => by rw [hq j hj]; rfl)
    have hgd : ∀ i, i < c → (i < π.length ∧ (π ++ sg ψ 0 (c - π.length)).getD i 9 = π.getD i 9) ∨ (∃ j, i = π.length + j ∧ j < c - π.length ∧ (π ++ sg ψ 0 (c - π.length)).getD i 9 = ψ j) := fun i hi => by
      by_cases e : i < π.length
      · exact Or.inl ⟨e, gd_app e⟩
      · refine Or.inr ⟨i - π.length, by omega, by omega, ?_⟩
        rw [← hq (i - π.length) (by omega), List.getD_eq_getElem?_getD, List.getD_eq_getElem?_getD, List.getElem?_append_right (by omega)]
    have hlen : (π ++ sg ψ 0 (c - π.length)).length = c := by
      rw [List.length_append, sg_len]; omega
    have hμ : ∀ i, i < c → lo ((π ++ sg ψ 0 (c - π.length)).getD i 9) = μ (m i) := fun i hi => by
      rcases hgd i hi with ⟨e1, e2⟩ | ⟨j, e1, e2, e3⟩
      · rw [e2]; exact a2 i e1 (t15 (hm i))
      · rw [e3, e1]; exact (a3 j e2 (t15 (hmm j))).2
    refine ⟨π ++ sg ψ 0 (c - π.length), ⟨hlen, ⟨fun i hi => ?_, fun r hr => ?_, fun i j hi hj hij => ?_⟩, _, rfl⟩, ?_⟩
    · rcases hgd i (by omega) with ⟨e1, e2⟩ | ⟨j, e1, e2, e3⟩
      · rw [e2]; exact h1 i e1
      · rw [e3]; exact (a3 j e2 (t15 (hmm j))).1
    · rw [uL_cat, hs]
      have b1 := a4 r hr (by have := hlo r; omega)
      have b2 := h2 r hr
      have b3 : frs l L π r = L r - uL l π r := rfl
      omega
    · rw [hμ i (by omega), hμ j (by omega), hij]
    · rw [oL_cat, a5]
      congr 1
      refine sumf_congr (fun r hr => ?_)
      rw [hs]
      have := hlo r
      by_cases q : 0 < lnP (fl l π.length) (c - π.length) (cs (fmm m π.length) (c - π.length) 15) ψ r
      · rw [if_pos q, if_pos ⟨by omega, q⟩]
      · rw [if_neg q, if_neg (fun z => q z.2)]
  · rintro ⟨p, ⟨b1, b2, q, rfl⟩, b3⟩
    have hql : q.length = c - π.length := by rw [List.length_append] at b1; omega
    have hgq : ∀ j, j < c - π.length → (π ++ q).getD (π.length + j) 9 = q.getD j 9 := fun j hj => by
      rw [List.getD_eq_getElem?_getD, List.getD_eq_getElem?_getD, List.getElem?_append_right (by omega)]
      simp
    have hs : ∀ r, sumf (fun j => if q.getD j 9 = r then l (π.length + j) else 0) q.length = lnP (fl l π.length) (c - π.length) (cs (fmm m π.length) (c - π.length) 15) (fun j => q.getD j 9) r := fun r => by
      rw [lnP_all hmm, hql]; rfl
    have hμ : ∃ μ : Nat → Nat, (∀ a, μ a ≤ 2) ∧ ∀ i, i < c → lo ((π ++ q).getD i 9) = μ (m i) := by
      refine ⟨fun a => if h : ∃ i, i < c ∧ m i = a then lo ((π ++ q).getD (Classical.choose h) 9) else 0, fun a => ?_, fun i hi => ?_⟩
      · show (if h : ∃ i, i < c ∧ m i = a then lo ((π ++ q).getD (Classical.choose h) 9) else 0) ≤ 2
        split
        · exact hlo _
        · omega
      · have h : ∃ k, k < c ∧ m k = m i := ⟨i, hi, rfl⟩
        show _ = (if h : ∃ k, k < c ∧ m k = m i then lo ((π ++ q).getD (Classical.choose h) 9) else 0)
        rw [dif_pos h]
        have hc := Classical.choose_spec h
        exact b2.2.2 i _ (by omega) (by omega) hc.2.symm
    obtain ⟨μ, m1, m2⟩ := hμ
    refine ⟨μ, fun j => q.getD j 9, fun a ha => by have := m1 a; omega, fun i hi _ => ?_, fun j hj _ => ⟨?_, ?_⟩, fun r hr _ => ?_, ?_⟩
    · have := m2 i (by omega)
      rwa [gd_app hi] at this
    · have := b2.1 (π.length + j) (by omega)
      rwa [hgq j hj] at this
    · have := m2 (π.length + j) (by omega)
      rwa [hgq j hj] at this
    · have := b2.2.1 r hr
      rw [uL_cat, hs] at this
      show _ ≤ L r - uL l π r
      omega
    · rw [oL_cat] at b3
      have e : v = sumf (fun r => if 0 < sumf (fun j => if q.getD j 9 = r then l (π.length + j) else 0) q.length then fpr l L π r else 0) R := by omega
      rw [e]
      refine sumf_congr (fun r hr => ?_)
      rw [hs]
      have := hlo r
      by_cases z : 0 < lnP (fl l π.length) (c - π.length) (cs (fmm m π.length) (c - π.length) 15) (fun j => q.getD j 9) r
      · rw [if_pos z, if_pos ⟨by omega, z⟩]
      · rw [if_neg z, if_neg (fun w => z w.2)]
/-- what leastWith gives -/
def lwV (π : List Nat) (x : Nat) : Prop := isMn (fun w => ∃ p, eL l m L lo R c π p ∧ oL l L R p = w) x
theorem lw_ok {π : List Nat} {y : Nat} (hπ : π.length ≤ c) (h1 : ∀ i, i < π.length → π.getD i 9 < R) (h2 : ∀ r, r < R → uL l π r ≤ L r) (hm : ∀ i, m i ≤ 3) (hlo : ∀ r, lo r ≤ 2) (hL : ∀ r, L r ≤ 1000) (hR : R ≤ 6) (hy : isMn (Jp l m L lo R c π 15 3) y) : lwV l m L lo R c π (if oL l L R π + y < 1000000 then oL l L R π + y else 1000000) := by
  have key : ∀ v, Jp l m L lo R c π 15 3 v ↔ ∃ p, eL l m L lo R c π p ∧ oL l L R p = oL l L R π + v := fun v => Jp_eL l m L lo R c hπ h1 h2 hm hlo
  rcases hy with ⟨y1, y2, y3⟩ | ⟨y1, y2⟩
  · obtain ⟨p, p1, p2⟩ := (key y).mp y2
    have hb := oL_bd l L R hL hR p
    rw [if_pos (by omega)]
    refine Or.inl ⟨by omega, ⟨p, p1, p2⟩, ?_⟩
    rintro v ⟨q, q1, rfl⟩
    have hq := eL_low l m L lo R c q1
    have := y3 (oL l L R q - oL l L R π) ((key _).mpr ⟨q, q1, by omega⟩)
    omega
  · rw [if_neg (by omega)]
    refine Or.inr ⟨rfl, ?_⟩
    rintro v ⟨q, q1, rfl⟩
    have hq := eL_low l m L lo R c q1
    exact y2 (oL l L R q - oL l L R π) ((key _).mpr ⟨q, q1, by omega⟩)
theorem lw_no {π : List Nat} {r : Nat} (hr : r < R) (h : L r < uL l π r) : lwV l m L lo R c π 1000000 := by
  refine Or.inr ⟨rfl, ?_⟩
  rintro v ⟨q, ⟨q1, q2, z, rfl⟩, rfl⟩
  have := (lyP_pre l m L lo R q2).2.1 r hr
  omega
end
end
section
/-! ===== the mat room of the class: used, measured, packed ===== -/
theorem nI_xor (a b : Nat) : nI a ^^^ nI b = nI (a ^^^ b) := by
  apply Int32.toBitVec_inj.mp
  show (Int32.ofNat a ^^^ Int32.ofNat b).toBitVec = (Int32.ofNat (a ^^^ b)).toBitVec
  rw [Int32.toBitVec_xor, Int32.toBitVec_ofNat', Int32.toBitVec_ofNat', Int32.toBitVec_ofNat']
  exact BitVec.ofNat_xor.symm
theorem shl_I {t F : Nat} (ht : t < 256) (hF : F ≤ 8) : nI t <<< (nI F &&& 31) = nI (t * 2 ^ F) := by
  have : ∀ (f : Fin 9) (x : Fin 256), nI x.val <<< (nI f.val &&& 31) = nI (x.val * 2 ^ f.val) := by decide +kernel
  exact this ⟨F, by omega⟩ ⟨t, ht⟩
theorem sub_le {P S : Nat} (h : sub P S) : P ≤ S := by
  have e : P = P &&& S := by
    apply Nat.eq_of_testBit_eq
    intro i
    rw [Nat.testBit_and]
    cases hb : P.testBit i with
    | false => rfl
    | true => rw [h i hb]; rfl
  rw [e]
  exact Nat.and_le_right
theorem sub_step {S t b : Nat} (hS : S < 2 ^ b) (ht : sub t S) (h1 : 1 ≤ t) (G : Nat → Prop) : (∃ P, ((t - 1) &&& S) < P ∧ sub P S ∧ G P) ↔ (∃ P, t < P ∧ sub P S ∧ G P) ∨ G t := by
  have hlt := and_lt (t := t) (S := S) h1
  constructor
  · rintro ⟨P, p1, p2, p3⟩
    by_cases e : P = t
    · exact Or.inr (e ▸ p3)
    · by_cases q : P < t
      · have := sub_next b S t P hS ht p2 q
        omega
      · exact Or.inl ⟨P, by omega, p2, p3⟩
  · rintro (⟨P, p1, p2, p3⟩ | h)
    · exact ⟨P, by omega, p2, p3⟩
    · exact ⟨t, hlt, ht, h⟩
theorem xor_lt {P S : Nat} (h : sub P S) (h1 : 1 ≤ P) : S ^^^ P < S := by
  have h2 : sub (S ^^^ P) S := fun i hi => by
    rw [xor_sub h, Bool.and_eq_true] at hi
    exact hi.1
  have h3 := sub_le h2
  have h4 : S ^^^ P ≠ S := fun e => by
    have : P = 0 := by
      apply Nat.eq_of_testBit_eq
      intro i
      have e2 : (S ^^^ P).testBit i = S.testBit i := by rw [e]
      rw [xor_sub h] at e2
      cases hb : P.testBit i with
      | false => simp
      | true => rw [hb, h i hb] at e2; cases e2
    omega
  omega
theorem lnS_sh (l : Nat → Nat) {F c t : Nat} (h : F ≤ c) : lnS l c (t * 2 ^ F) = lnS (fl l F) (c - F) t := by
  unfold lnS
  have e : c = F + (c - F) := by omega
  rw [show sumf (fun j => if (t * 2 ^ F).testBit j = true then l j else 0) c = sumf (fun j => if (t * 2 ^ F).testBit j = true then l j else 0) (F + (c - F)) by rw [← e], sumf_add]
  have z : sumf (fun j => if (t * 2 ^ F).testBit j = true then l j else 0) F = 0 := sumf_zero (fun j hj => by
    rw [if_neg]
    rw [Nat.testBit_mul_two_pow]
    simp
    omega)
  rw [z, Nat.zero_add]
  refine sumf_congr (fun j hj => ?_)
  have : (t * 2 ^ F).testBit (F + j) = t.testBit j := by
    rw [Nat.testBit_mul_two_pow]
    simp
  rw [this]; rfl
def iTc (T : hyB) (l m L lo : Nat → Nat) (R c : Nat) : Prop := iTd (T.1 0) (T.1 1) (T.1 2) (T.1 3) l m L lo R c ∧ T.2 8 = nI R ∧ T.2 9 = nI c
section
variable (N F S T C : hyB) (W : hyW) (l m L lo : Nat → Nat) (R c : Nat)
theorem l_t_used (Q : hyQ) (π : List Nat) (r : Nat) (hT : iTc T l m L lo R c) (hr : rowIs (T.1 4) π) (hπ : π.length ≤ 8) (hx : ∀ i, i < π.length → π.getD i 9 < 1000) (hr2 : r < 1000) (K : Q (some (nI (uL l π r))) (wW N F S T C W)) :
    ∀ (j i : Nat), π.length - i = j → i ≤ π.length → hy_X none 4 mX1_usedOf Q 0 0 (5, [some (hy_r 20), some (.inl (nI r)), some (.inl (nI π.length)), some (.inl (nI (sumf (fun i => if π.getD i 9 = r then l i else 0) i))), some (.inl (nI i))], [], wW N F S T C W) := by
  obtain ⟨⟨t0, t1, t2, t3, t4, t5⟩, d1, d2⟩ := id hT
  intro j
  induction j with
  | zero =>
    intro i hj hi
    have : i = π.length := by omega
    subst this
    refine hy_go hy_pfA oX1_usedOf [5] 60 0 0 _ ?_
    exact And.intro (fun q => K) (fun q => absurd (Int32.le_refl _) q)
  | succ j ih =>
    intro i hj hi
    have hcl : (nI i).toNatClampNeg = i := cl_nI (by omega)
    have hin : vp_in (nI i) 8 := vn_in (by omega) (by decide)
    have hfi := row_gd hr (i := i) (by omega)
    have hxi := hx i (by omega)
    have nx := ih (i + 1) (by omega) (by omega)
    rw [← nI_s, show sumf (fun i => if π.getD i 9 = r then l i else 0) (i + 1) = sumf (fun i => if π.getD i 9 = r then l i else 0) i + (if π.getD i 9 = r then l i else 0) from rfl, ← nI_add] at nx
    refine hy_go hy_pfA oX1_usedOf [5] 60 0 0 _ ?_
    refine And.intro (fun q => ?_) (fun q => ?_)
    · rw [nI_le24 (by omega) (by omega)] at q; omega
    · refine And.intro hin ?_
      refine And.intro (fun q2 => ?_) (fun q2 => ?_)
      · have q2 : T.1 4 (nI i).toNatClampNeg = nI r := q2
        rw [hcl, hfi, nI_eqI (by omega) (by omega)] at q2
        refine And.intro hin ?_
        have e : T.1 2 (nI i).toNatClampNeg = nI (l i) := by rw [hcl]; exact (t1 i).1
        rw [if_pos q2, ← e] at nx
        exact nx
      · have q2 : ¬ T.1 4 (nI i).toNatClampNeg = nI r := q2
        rw [hcl, hfi, nI_eqI (by omega) (by omega)] at q2
        rw [if_neg q2, nI_add, Nat.add_zero] at nx
        exact nx
theorem r_t_used (π : List Nat) (r : Nat) (hT : iTc T l m L lo R c) (hr : rowIs (T.1 4) π) (hπ : π.length ≤ 8) (hx : ∀ i, i < π.length → π.getD i 9 < 1000) (hr2 : r < 1000) : hy_R 4 mX1_usedOf 0 0 [hy_r 20, .inl (nI r), .inl (nI π.length)] (wW N F S T C W) (fun o w1 => ∃ x, o = some x ∧ x = nI (uL l π r) ∧ w1 = wW N F S T C W) := by
  refine hy_Ri (L := [some (hy_r 20), some (.inl (nI r)), some (.inl (nI π.length)), none, none]) rfl (by decide) (hy_ple rfl) rfl ?_
  refine hy_go hy_pfA oX1_usedOf [5] 60 0 0 _ ?_
  exact l_t_used N F S T C W l m L lo R c _ π r hT hr hπ hx hr2 ⟨_, rfl, rfl, rfl⟩ π.length 0 (by omega) (by omega)
theorem l_t_msIn (Q : hyQ) (ln : Nat → Int32) (s : Nat) (x1 : Option hyV) (hT : iTc T l m L lo R c) (hs : s < 2 ^ c)
    (K : hy_X none 4 mX1_measureSets Q 0 0 (51, [some (hy_r 20), x1, some (.inl (nI s)), some (.inl (nI (lnS l c s))), some (.inl (nI c))], [], wW N F S (sa T 5 ln) C W)) :
    ∀ (j i : Nat), c - i = j → i ≤ c → hy_X none 4 mX1_measureSets Q 0 0 (19, [some (hy_r 20), x1, some (.inl (nI s)), some (.inl (nI (sumf (fun j => if s.testBit j then l j else 0) i))), some (.inl (nI i))], [], wW N F S (sa T 5 ln) C W) := by
  obtain ⟨⟨t0, t1, t2, t3, t4, t5⟩, d1, d2⟩ := id hT
  have hs2 : s < 256 := Nat.lt_of_lt_of_le hs (Nat.pow_le_pow_right (n := 2) (by omega) t3 : 2 ^ c ≤ 2 ^ 8)
  intro j
  induction j with
  | zero =>
    intro i hj hi
    have : i = c := by omega
    subst this
    refine hy_go hy_pfA oX1_measureSets [19, 51] 60 0 0 _ ?_
    refine And.intro (fun q => K) (fun q => absurd ?_ q)
    show T.2 9 ≤ nI i
    rw [d2]; exact Int32.le_refl _
  | succ j ih =>
    intro i hj hi
    have hcl : (nI i).toNatClampNeg = i := cl_nI (by omega)
    have hin : vp_in (nI i) 8 := vn_in (by omega) (by decide)
    have nx := ih (i + 1) (by omega) (by omega)
    rw [← nI_s, show sumf (fun j => if s.testBit j then l j else 0) (i + 1) = sumf (fun j => if s.testBit j then l j else 0) i + (if s.testBit i then l i else 0) from rfl, ← nI_add] at nx
    have e : ((nI s >>> (nI i &&& 31)) &&& 1) * T.1 2 (nI i).toNatClampNeg = nI (if s.testBit i then l i else 0) := by
      rw [bit_I (by omega) (by omega), hcl, (t1 i).1]
      cases s.testBit i with
      | true => show (1 : Int32) * _ = _; rw [Int32.one_mul]; rfl
      | false => show (0 : Int32) * _ = _; rw [Int32.zero_mul]; rfl
    rw [← e] at nx
    refine hy_go hy_pfA oX1_measureSets [19, 51] 60 0 0 _ ?_
    refine And.intro (fun q => ?_) (fun q => And.intro hin nx)
    have q : T.2 9 ≤ nI i := q
    rw [d2, nI_le24 (by omega) (by omega)] at q; omega
theorem l_t_ms (Q : hyQ) (hT : iTc T l m L lo R c) (K : ∀ ln : Nat → Int32, (∀ s, s < 2 ^ c → ln s = nI (lnS l c s)) → Q none (wW N F S (sa T 5 ln) C W)) :
    ∀ (j s : Nat) (ln : Nat → Int32) (x3 x4 : Option hyV), 2 ^ c - s = j → s ≤ 2 ^ c → (∀ k, k < s → ln k = nI (lnS l c k)) → hy_X none 4 mX1_measureSets Q 0 0 (9, [some (hy_r 20), some (.inl (nI (2 ^ c))), some (.inl (nI s)), x3, x4], [], wW N F S (sa T 5 ln) C W) := by
  obtain ⟨⟨t0, t1, t2, t3, t4, t5⟩, d1, d2⟩ := id hT
  have hb : 2 ^ c ≤ 256 := (Nat.pow_le_pow_right (n := 2) (by omega) t3 : 2 ^ c ≤ 2 ^ 8)
  intro j
  induction j with
  | zero =>
    intro s ln x3 x4 hj hs hl
    have : s = 2 ^ c := by omega
    subst this
    refine hy_go hy_pfA oX1_measureSets [9] 60 0 0 _ ?_
    exact And.intro (fun q => K ln hl) (fun q => absurd (Int32.le_refl _) q)
  | succ j ih =>
    intro s ln x3 x4 hj hs hl
    have hcl : (nI s).toNatClampNeg = s := cl_nI (by omega)
    have hin : vp_in (nI s) 256 := vn_in (by omega) (by decide)
    refine hy_go hy_pfA oX1_measureSets [9, 19] 60 0 0 _ ?_
    refine And.intro (fun q => ?_) (fun q => ?_)
    · rw [nI_le24 (by omega) (by omega)] at q; omega
    · refine l_t_msIn N F S T C W l m L lo R c Q ln s _ hT (by omega) ?_ c 0 (by omega) (by omega)
      refine hy_go hy_pfA oX1_measureSets [9] 60 0 0 _ ?_
      refine And.intro hin ?_
      have nx := ih (s + 1) (upd ln (nI s).toNatClampNeg (nI (lnS l c s))) (some (.inl (nI (lnS l c s)))) (some (.inl (nI c))) (by omega) (by omega) (fun k hk => by
        rw [hcl]; unfold upd
        by_cases e : k = s
        · rw [if_pos e, e]
        · rw [if_neg e]; exact hl k (by omega))
      rw [← nI_s] at nx
      exact nx
theorem r_t_ms (hT : iTc T l m L lo R c) : hy_R 4 mX1_measureSets 0 0 [hy_r 20] (wW N F S T C W) (fun o w1 => o = none ∧ ∃ ln : Nat → Int32, (∀ s, s < 2 ^ c → ln s = nI (lnS l c s)) ∧ w1 = wW N F S (sa T 5 ln) C W) := by
  obtain ⟨⟨t0, t1, t2, t3, t4, t5⟩, d1, d2⟩ := id hT
  refine hy_Rv (L := [some (hy_r 20), none, none, none, none]) rfl (by decide) (hy_ple rfl) rfl ?_
  refine hy_go hy_pfA oX1_measureSets [9] 60 0 0 _ ?_
  have h := l_t_ms N F S T C W l m L lo R c (fun o w1 => o = none ∧ ∃ ln : Nat → Int32, (∀ s, s < 2 ^ c → ln s = nI (lnS l c s)) ∧ w1 = wW N F S (sa T 5 ln) C W) hT (fun ln hl => ⟨rfl, ln, hl, rfl⟩) (2 ^ c) 0 (T.1 5) none none (Nat.sub_zero _) (Nat.zero_le _) (fun k hk => by omega)
  rw [← shl_1 (by omega), ← d2] at h
  exact h
end
end
section
/-! ===== packing the rolls of a lot ===== -/
theorem pk_step (l : Nat → Nat) (n : Nat) (rs pr lo : Nat → Nat) {A : Nat → Prop} {t S k p y a : Nat} (hS : S < 2 ^ n) (hp : sub p S) (h1 : 1 ≤ p) (hpr : ∀ r, pr r ≤ 1000) (hk : k ≤ 6)
    (hy : isMn (fun v => A v ∨ ∃ P, p < P ∧ sub P S ∧ lnS l n P ≤ rs k ∧ ∃ v', PF l n rs pr lo t (S ^^^ P) k v' ∧ v = v' + pr k) y) (ha : isMn (PF l n rs pr lo t (S ^^^ p) k) a) :
    isMn (fun v => A v ∨ ∃ P, ((p - 1) &&& S) < P ∧ sub P S ∧ lnS l n P ≤ rs k ∧ ∃ v', PF l n rs pr lo t (S ^^^ P) k v' ∧ v = v' + pr k) (if a + pr k < y ∧ lnS l n p ≤ rs k then a + pr k else y) := by
  have step := fun v => sub_step hS hp h1 (fun P => lnS l n P ≤ rs k ∧ ∃ v', PF l n rs pr lo t (S ^^^ P) k v' ∧ v = v' + pr k)
  by_cases q : lnS l n p ≤ rs k
  · have e : (if a + pr k < y ∧ lnS l n p ≤ rs k then a + pr k else y) = (if a + pr k < y then a + pr k else y) := by
      by_cases z : a + pr k < y
      · rw [if_pos z, if_pos ⟨z, q⟩]
      · rw [if_neg z, if_neg (fun w => z w.1)]
    rw [e]
    have hb := hpr k
    refine isMn_iff (isMn_add hy ha (isMn_pt (pr k) (by omega)) (fun v1 v2 z1 z2 => by
      have := PF_bd l n rs pr lo hpr z1
      have z2 : v2 = pr k := z2
      omega)) (fun v => ?_)
    rw [step v]
    constructor
    · rintro ((h | h) | ⟨v1, v2, z1, z2, z3⟩)
      · exact Or.inl h
      · exact Or.inr (Or.inl h)
      · exact Or.inr (Or.inr ⟨q, v1, z1, by rw [z3, z2]⟩)
    · rintro (h | h | ⟨-, v1, z1, z2⟩)
      · exact Or.inl (Or.inl h)
      · exact Or.inl (Or.inr h)
      · exact Or.inr ⟨v1, pr k, z1, rfl, z2⟩
  · rw [if_neg (fun w => q w.2)]
    refine isMn_iff hy (fun v => ?_)
    rw [step v]
    constructor
    · rintro (h | h)
      · exact Or.inl h
      · exact Or.inr (Or.inl h)
    · rintro (h | h | h)
      · exact Or.inl h
      · exact Or.inr h
      · exact absurd h.1 q
theorem PF_z (l : Nat → Nat) (n : Nat) (rs pr lo : Nat → Nat) {t k v : Nat} (hl : ∀ j, j < n → 1 ≤ l j) : PF l n rs pr lo t 0 (k + 1) v ↔ PF l n rs pr lo t 0 k v := by
  by_cases h : lo k = t
  · rw [PF_s l n rs pr lo h (Nat.two_pow_pos n) hl]
    constructor
    · rintro (h | ⟨P, p1, p2, -⟩)
      · exact h
      · have := zero_sub p2; omega
    · exact Or.inl
  · exact PF_n l n rs pr lo h
section
variable (N F S T C : hyB) (W : hyW) (l m L lo : Nat → Nat) (R c : Nat)
theorem fpr_bd (hL : ∀ r, L r ≤ 1000) (π : List Nat) (r : Nat) : fpr l L π r ≤ 1000 := by
  have : fpr l L π r = if 0 < uL l π r then 0 else L r := rfl
  rw [this]
  split
  · omega
  · exact hL r
theorem l_t_prIn (Q : hyQ) (pk : Nat → Int32) (π : List Nat) (t s k : Nat) (x4 : Option hyV) (hT : iTc T l m L lo R c) (hln : ∀ s, s < 2 ^ c → T.1 5 s = nI (lnS l c s)) (hπ : π.length ≤ c) (hk : k < R) (hlo : lo k = t) (hs : s < 2 ^ (c - π.length))
    (hpk : ∀ s', s' ≤ s → ∃ x, pk s' = nI x ∧ isMn (Pp l L lo c π t s' k) x)
    (K : ∀ y x7 x8, isMn (Pp l L lo c π t s (k + 1)) y → hy_X none 4 mX1_packRoll Q 0 0 (77, [some (hy_r 20), some (.inl (nI (frs l L π k))), some (.inl (nI (fpr l L π k))), some (.inl (nI π.length)), x4, some (.inl (nI s)), some (.inl (nI y)), x7, x8], [], wW N F S (sa T 6 pk) C W)) :
    ∀ (j p y : Nat) (x8 : Option hyV), p ≤ j → sub p s → isMn (fun v => Pp l L lo c π t s k v ∨ ∃ P, p < P ∧ sub P s ∧ lnS (fl l π.length) (c - π.length) P ≤ frs l L π k ∧ ∃ v', PF (fl l π.length) (c - π.length) (frs l L π) (fpr l L π) lo t (s ^^^ P) k v' ∧ v = v' + fpr l L π k) y → hy_X none 4 mX1_packRoll Q 0 0 (22, [some (hy_r 20), some (.inl (nI (frs l L π k))), some (.inl (nI (fpr l L π k))), some (.inl (nI π.length)), x4, some (.inl (nI s)), some (.inl (nI y)), some (.inl (nI p)), x8], [], wW N F S (sa T 6 pk) C W) := by
  obtain ⟨⟨t0, t1, t2, t3, t4, t5⟩, d1, d2⟩ := id hT
  have hl : ∀ j, j < c - π.length → 1 ≤ fl l π.length j := fun j hj => t4 _ (by omega)
  have hpw : 2 ^ (c - π.length) ≤ 256 := (Nat.pow_le_pow_right (n := 2) (by omega) (by omega) : 2 ^ (c - π.length) ≤ 2 ^ 8)
  have hpc : 2 ^ (c - π.length) * 2 ^ π.length = 2 ^ c := by rw [← Nat.pow_add]; congr 1; omega
  have hpc2 : 2 ^ c ≤ 256 := (Nat.pow_le_pow_right (n := 2) (by omega) t3 : 2 ^ c ≤ 2 ^ 8)
  have hfp := fpr_bd l L (fun r => (t0 r).2.2.1) π k
  have hrs : frs l L π k ≤ 1000 := by
    have := (t0 k).2.2.1
    have e : frs l L π k = L k - uL l π k := rfl
    omega
  intro j
  induction j with
  | zero =>
    intro p y x8 hp hsub hy
    have hp0 : p = 0 := by omega
    subst hp0
    refine hy_go hy_pfA oX1_packRoll [22, 77] 60 0 0 _ ?_
    refine And.intro (fun q => K y _ x8 (isMn_iff hy (fun v => ?_))) (fun q => absurd (Int32.le_refl _) q)
    exact (PF_s (fl l π.length) (c - π.length) (frs l L π) (fpr l L π) lo hlo hs hl).symm
  | succ j ih =>
    intro p y x8 hp hsub hy
    by_cases hp0 : p = 0
    · subst hp0
      refine hy_go hy_pfA oX1_packRoll [22, 77] 60 0 0 _ ?_
      refine And.intro (fun q => K y _ x8 (isMn_iff hy (fun v => ?_))) (fun q => absurd (Int32.le_refl _) q)
      exact (PF_s (fl l π.length) (c - π.length) (frs l L π) (fpr l L π) lo hlo hs hl).symm
    · have hps := sub_le hsub
      have hxl := xor_lt hsub (by omega)
      obtain ⟨a, ha1, ha2⟩ := hpk (s ^^^ p) (by omega)
      have hal := isMn_le ha2
      have hyl := isMn_le hy
      have hst := pk_step (fl l π.length) (c - π.length) (frs l L π) (fpr l L π) lo hs hsub (by omega) (fpr_bd l L (fun r => (t0 r).2.2.1) π) (by omega) hy ha2
      have hnl : ((p - 1) &&& s) ≤ j := by
        have := and_lt (t := p) (S := s) (by omega)
        omega
      have hxcl : (nI s ^^^ nI p).toNatClampNeg = s ^^^ p := by rw [nI_xor]; exact cl_nI (by omega)
      have hxin : vp_in (nI s ^^^ nI p) 256 := by rw [nI_xor]; exact vn_in (by omega) (by decide)
      have hm : p * 2 ^ π.length < 2 ^ c := by
        rw [← hpc]
        exact Nat.mul_lt_mul_of_pos_right (by omega) (Nat.two_pow_pos _)
      have hsh : nI p <<< (nI π.length &&& 31) = nI (p * 2 ^ π.length) := shl_I (by omega) (by omega)
      have hshin : vp_in (nI p <<< (nI π.length &&& 31)) 256 := by rw [hsh]; exact vn_in (by omega) (by decide)
      have hlen : T.1 5 (nI p <<< (nI π.length &&& 31)).toNatClampNeg = nI (lnS (fl l π.length) (c - π.length) p) := by
        rw [hsh, cl_nI (by omega), hln _ hm, lnS_sh l hπ]
      have hlb : lnS (fl l π.length) (c - π.length) p ≤ 4000 := by
        have := sumf_bd (f := fun j => if p.testBit j = true then fl l π.length j else 0) (b := 500) (n := c - π.length) (fun k _ => by split; exact (t1 _).2.2.1; omega)
        unfold lnS
        omega
      have e1 : pk (nI s ^^^ nI p).toNatClampNeg + nI (fpr l L π k) = nI (a + fpr l L π k) := by rw [hxcl, ha1, nI_add]
      have hsub2 : sub ((p - 1) &&& s) s := sub_and _ _
      have e2 : nI ((p - 1) &&& s) = (nI p - 1) &&& nI s := by
        rw [← nI_and]
        have := nI_pred (p - 1)
        rw [show p - 1 + 1 = p by omega] at this
        rw [this]
      have nx := ih ((p - 1) &&& s) _ (some (.inl (pk (nI s ^^^ nI p).toNatClampNeg + nI (fpr l L π k)))) hnl hsub2 hst
      rw [e2] at nx
      have hno : ¬ (a + fpr l L π k < y ∧ lnS (fl l π.length) (c - π.length) p ≤ frs l L π k) → hy_X none 4 mX1_packRoll Q 0 0 (22, [some (hy_r 20), some (.inl (nI (frs l L π k))), some (.inl (nI (fpr l L π k))), some (.inl (nI π.length)), x4, some (.inl (nI s)), some (.inl (nI y)), some (.inl ((nI p - 1) &&& nI s)), (some (.inl (pk (nI s ^^^ nI p).toNatClampNeg + nI (fpr l L π k))))], [], wW N F S (sa T 6 pk) C W) := fun hc => by
        rw [if_neg hc] at nx
        exact nx
      refine hy_go hy_pfA oX1_packRoll [22, 77] 60 0 0 _ ?_
      refine And.intro (fun q => ?_) (fun q => ?_)
      · have q := zi_le.mp q
        rw [zi_nI (by omega), zi_lit0] at q; omega
      · refine And.intro hxin ?_
        refine And.intro (fun q2 => ?_) (fun q2 => ?_)
        · have q2 : nI y ≤ pk (nI s ^^^ nI p).toNatClampNeg + nI (fpr l L π k) := q2
          rw [e1, nI_le24 (by omega) (by omega)] at q2
          exact hno (by omega)
        · have q2 : ¬ nI y ≤ pk (nI s ^^^ nI p).toNatClampNeg + nI (fpr l L π k) := q2
          rw [e1, nI_le24 (by omega) (by omega)] at q2
          refine And.intro hshin ?_
          refine And.intro (fun q3 => ?_) (fun q3 => ?_)
          · have q3 : nI (frs l L π k) < T.1 5 (nI p <<< (nI π.length &&& 31)).toNatClampNeg := q3
            rw [hlen, zi_lt, zi_nI (by omega), zi_nI (by omega)] at q3
            exact hno (by omega)
          · have q3 : ¬ nI (frs l L π k) < T.1 5 (nI p <<< (nI π.length &&& 31)).toNatClampNeg := q3
            rw [hlen, zi_lt, zi_nI (by omega), zi_nI (by omega)] at q3
            rw [if_pos ⟨by omega, by omega⟩, ← e1] at nx
            exact nx
def pkI (pk : Nat → Int32) (π : List Nat) (t k : Nat) : Prop := ∀ s, s < 2 ^ (c - π.length) → ∃ x, pk s = nI x ∧ isMn (Pp l L lo c π t s k) x
theorem l_t_pr (Q : hyQ) (π : List Nat) (t k : Nat) (x4 : Option hyV) (hT : iTc T l m L lo R c) (hln : ∀ s, s < 2 ^ c → T.1 5 s = nI (lnS l c s)) (hπ : π.length ≤ c) (hk : k < R) (hlo : lo k = t)
    (K : ∀ pk, pkI l L lo c pk π t (k + 1) → Q none (wW N F S (sa T 6 pk) C W)) :
    ∀ (s : Nat) (pk : Nat → Int32) (x6 x7 x8 : Option hyV), s < 2 ^ (c - π.length) → (∀ s', s' ≤ s → ∃ x, pk s' = nI x ∧ isMn (Pp l L lo c π t s' k) x) → (∀ s', s < s' → s' < 2 ^ (c - π.length) → ∃ x, pk s' = nI x ∧ isMn (Pp l L lo c π t s' (k + 1)) x) →
      hy_X none 4 mX1_packRoll Q 0 0 (4, [some (hy_r 20), some (.inl (nI (frs l L π k))), some (.inl (nI (fpr l L π k))), some (.inl (nI π.length)), x4, some (.inl (nI s)), x6, x7, x8], [], wW N F S (sa T 6 pk) C W) := by
  obtain ⟨⟨t0, t1, t2, t3, t4, t5⟩, d1, d2⟩ := id hT
  have hl : ∀ j, j < c - π.length → 1 ≤ fl l π.length j := fun j hj => t4 _ (by omega)
  have hpw : 2 ^ (c - π.length) ≤ 256 := (Nat.pow_le_pow_right (n := 2) (by omega) (by omega) : 2 ^ (c - π.length) ≤ 2 ^ 8)
  intro s
  induction s with
  | zero =>
    intro pk x6 x7 x8 hs h1 h2
    refine hy_go hy_pfA oX1_packRoll [4] 60 0 0 _ ?_
    refine And.intro (fun q => K pk (fun s' hs' => ?_)) (fun q => absurd (Int32.le_refl _) q)
    by_cases e : s' = 0
    · obtain ⟨x, hx1, hx2⟩ := h1 0 (Nat.le_refl _)
      rw [e]
      exact ⟨x, hx1, isMn_iff hx2 (fun v => (PF_z (fl l π.length) (c - π.length) (frs l L π) (fpr l L π) lo hl).symm)⟩
    · exact h2 s' (by omega) hs'
  | succ s ih =>
    intro pk x6 x7 x8 hs h1 h2
    have hcl : (nI (s + 1)).toNatClampNeg = s + 1 := cl_nI (by omega)
    have hin : vp_in (nI (s + 1)) 256 := vn_in (by omega) (by decide)
    obtain ⟨y, hy1, hy2⟩ := h1 (s + 1) (Nat.le_refl _)
    refine hy_go hy_pfA oX1_packRoll [4, 22] 60 0 0 _ ?_
    refine And.intro (fun q => ?_) (fun q => ?_)
    · have q := zi_le.mp q
      rw [zi_nI (by omega), zi_lit0] at q; omega
    · refine And.intro hin ?_
      have inn := l_t_prIn N F S T C W l m L lo R c Q pk π t (s + 1) k x4 hT hln hπ hk hlo hs h1 (fun y' x7' x8' hy' => by
        refine hy_go hy_pfA oX1_packRoll [4] 60 0 0 _ ?_
        refine And.intro hin ?_
        have nx := ih (upd pk (nI (s + 1)).toNatClampNeg (nI y')) (some (.inl (nI y'))) x7' x8' (by omega) (fun s' hs' => by
          rw [hcl]; unfold upd; rw [if_neg (by omega)]
          exact h1 s' (by omega)) (fun s' h3 h4 => by
          rw [hcl]; unfold upd
          by_cases e : s' = s + 1
          · rw [if_pos e, e]; exact ⟨y', rfl, hy'⟩
          · rw [if_neg e]; exact h2 s' (by omega) h4)
        have e : nI s = nI (s + 1) + (-1) := by rw [← Int32.sub_eq_add_neg, nI_pred]
        rw [e] at nx
        exact nx) (s + 1) (s + 1) y x8 (Nat.le_refl _) (fun i h => h) (isMn_iff hy2 (fun v => ⟨Or.inl, fun h => by
          rcases h with h | ⟨P, p1, p2, -⟩
          · exact h
          · have := sub_le p2; omega⟩))
      have e : pk (nI (s + 1)).toNatClampNeg = nI y := by rw [hcl]; exact hy1
      rw [← e] at inn
      exact inn
theorem r_t_pr (pk : Nat → Int32) (π : List Nat) (t k : Nat) (hT : iTc T l m L lo R c) (hln : ∀ s, s < 2 ^ c → T.1 5 s = nI (lnS l c s)) (hπ : π.length ≤ c) (hk : k < R) (hlo : lo k = t) (hpk : pkI l L lo c pk π t k) :
    hy_R 4 mX1_packRoll 0 0 [hy_r 20, .inl (nI (frs l L π k)), .inl (nI (fpr l L π k)), .inl (nI π.length), .inl (nI (2 ^ (c - π.length) - 1))] (wW N F S (sa T 6 pk) C W) (fun o w1 => o = none ∧ ∃ pk', pkI l L lo c pk' π t (k + 1) ∧ w1 = wW N F S (sa T 6 pk') C W) := by
  refine hy_Rv (L := [some (hy_r 20), some (.inl (nI (frs l L π k))), some (.inl (nI (fpr l L π k))), some (.inl (nI π.length)), some (.inl (nI (2 ^ (c - π.length) - 1))), none, none, none, none]) rfl (by decide) (hy_ple rfl) rfl ?_
  refine hy_go hy_pfA oX1_packRoll [4] 60 0 0 _ ?_
  have hp := Nat.two_pow_pos (c - π.length)
  exact l_t_pr N F S T C W l m L lo R c (fun o w1 => o = none ∧ ∃ pk', pkI l L lo c pk' π t (k + 1) ∧ w1 = wW N F S (sa T 6 pk') C W) π t k _ hT hln hπ hk hlo (fun pk' h => ⟨rfl, pk', h, rfl⟩) (2 ^ (c - π.length) - 1) pk none none none (by omega) (fun s' hs' => hpk s' (by omega)) (fun s' h1 h2 => by omega)
end
end
section
/-! ===== packing a lot, the cuts of mats ===== -/
theorem nI_subI {a b : Nat} (h : b ≤ a) (ha : a < 1073741824) : nI a - nI b = nI (a - b) := by
  rw [zi_eq, pk_sub_toInt (by omega) (by omega), zi_nI (by omega)]
  omega
section
variable (N F S T C : hyB) (W : hyW) (l m L lo : Nat → Nat) (R c : Nat)
theorem l_t_pl0 (Q : hyQ) (n : Nat) (x1 x2 x5 x6 : Option hyV) (hn : n ≤ 8) (K : ∀ pk x4, (∀ s, s < 2 ^ n → pk s = if s = 0 then 0 else nI 1000000) → hy_X none 5 mX1_packLot Q 0 0 (45, [some (hy_r 20), x1, x2, some (.inl (nI (2 ^ n - 1))), some (.inl x4), x5, x6], [], wW N F S (sa T 6 pk) C W) ∨ ¬ x4 = 0) :
    ∀ (j i : Nat) (pk : Nat → Int32), 2 ^ n - i = j → 1 ≤ i → i ≤ 2 ^ n → (∀ s, 1 ≤ s → s < i → pk s = nI 1000000) → hy_X none 5 mX1_packLot Q 0 0 (14, [some (hy_r 20), x1, x2, some (.inl (nI (2 ^ n - 1))), some (.inl (nI i)), x5, x6], [], wW N F S (sa T 6 pk) C W) := by
  have hp := Nat.two_pow_pos n
  have hpw : 2 ^ n ≤ 256 := (Nat.pow_le_pow_right (n := 2) (by omega) hn : 2 ^ n ≤ 2 ^ 8)
  intro j
  induction j with
  | zero =>
    intro i pk hj h1 hi hk
    have : i = 2 ^ n := by omega
    refine hy_go hy_pfA oX1_packLot [14, 45] 60 0 0 _ ?_
    refine And.intro (fun q => ?_) (fun q => absurd ?_ q)
    · refine And.intro (vn_in (k := 0) (by omega) (by decide)) ?_
      have k := K (upd pk 0 0) 0 (fun s hs => by
        unfold upd
        by_cases e : s = 0
        · rw [if_pos e, if_pos e]
        · rw [if_neg e, if_neg e]; exact hk s (by omega) (by omega))
      rcases k with k | k
      · exact k
      · exact absurd rfl k
    · rw [zi_lt, zi_nI (by omega), zi_nI (by omega)]; omega
  | succ j ih =>
    intro i pk hj h1 hi hk
    have hcl : (nI i).toNatClampNeg = i := cl_nI (by omega)
    have hin : vp_in (nI i) 256 := vn_in (by omega) (by decide)
    refine hy_go hy_pfA oX1_packLot [14, 45] 60 0 0 _ ?_
    refine And.intro (fun q => ?_) (fun q => ?_)
    · rw [zi_lt, zi_nI (by omega), zi_nI (by omega)] at q; omega
    · refine And.intro hin ?_
      have nx := ih (i + 1) (upd pk (nI i).toNatClampNeg (nI 1000000)) (by omega) (by omega) (by omega) (fun s h3 h4 => by
        rw [hcl]; unfold upd
        by_cases e : s = i
        · rw [if_pos e]
        · rw [if_neg e]; exact hk s h3 (by omega))
      rw [← nI_s] at nx
      exact nx
theorem l_t_pl (Q : hyQ) (π : List Nat) (t : Nat) (hT : iTc T l m L lo R c) (hln : ∀ s, s < 2 ^ c → T.1 5 s = nI (lnS l c s)) (hr : rowIs (T.1 4) π) (hπ : π.length ≤ c) (h1 : ∀ i, i < π.length → π.getD i 9 < R) (h2 : ∀ r, r < R → uL l π r ≤ L r) (ht : t < 3)
    (K : ∀ pk, pkI l L lo c pk π t R → Q none (wW N F S (sa T 6 pk) C W)) :
    ∀ (j k : Nat) (pk : Nat → Int32) (x5 x6 : Option hyV), R - k = j → k ≤ R → pkI l L lo c pk π t k → hy_X none 5 mX1_packLot Q 0 0 (45, [some (hy_r 20), some (.inl (nI t)), some (.inl (nI π.length)), some (.inl (nI (2 ^ (c - π.length) - 1))), some (.inl (nI k)), x5, x6], [], wW N F S (sa T 6 pk) C W) := by
  obtain ⟨⟨t0, t1, t2, t3, t4, t5⟩, d1, d2⟩ := id hT
  intro j
  induction j with
  | zero =>
    intro k pk x5 x6 hj hk hp
    have : k = R := by omega
    subst this
    refine hy_go hy_pfA oX1_packLot [45] 60 0 0 _ ?_
    refine And.intro (fun q => K pk hp) (fun q => absurd ?_ q)
    show T.2 8 ≤ nI k
    rw [d1]; exact Int32.le_refl _
  | succ j ih =>
    intro k pk x5 x6 hj hk hp
    have hcl : (nI k).toNatClampNeg = k := cl_nI (by omega)
    have hin : vp_in (nI k) 6 := vn_in (by omega) (by decide)
    have e1 : T.1 1 (nI k).toNatClampNeg = nI (lo k) := by rw [hcl]; exact (t0 k).2.1
    have e0 : T.1 0 (nI k).toNatClampNeg = nI (L k) := by rw [hcl]; exact (t0 k).1
    have hlk := (t0 k).2.2.2
    have hLk := (t0 k).2.2.1
    have huk := h2 k (by omega)
    refine hy_go hy_pfA oX1_packLot [45, 92] 60 0 0 _ ?_
    refine And.intro (fun q => ?_) (fun q => ?_)
    · have q : T.2 8 ≤ nI k := q
      rw [d1, nI_le24 (by omega) (by omega)] at q; omega
    · refine And.intro hin ?_
      refine And.intro (fun q2 => ?_) (fun q2 => ?_)
      · have q2 : T.1 1 (nI k).toNatClampNeg = nI t := q2
        rw [e1, nI_eqI (by omega) (by omega)] at q2
        refine hy_cl (r_t_used N F S (sa T 6 pk) C W l m L lo R c π k hT hr (by omega) (fun i hi => by have := h1 i hi; omega) (by omega)) rfl ?_
        rintro o w1 ⟨x, rfl, rfl, rfl⟩
        have fin : hy_X none 5 mX1_packLot Q 0 0 (92, [some (hy_r 20), some (.inl (nI t)), some (.inl (nI π.length)), some (.inl (nI (2 ^ (c - π.length) - 1))), some (.inl (nI k)), some (.inl (nI (uL l π k))), some (.inl (nI (fpr l L π k)))], [], wW N F S (sa T 6 pk) C W) := by
          refine hy_go hy_pfA oX1_packLot [45] 60 0 0 _ ?_
          refine And.intro hin ?_
          have e3 : T.1 0 (nI k).toNatClampNeg - nI (uL l π k) = nI (frs l L π k) := by
            rw [e0, nI_subI huk (by omega)]; rfl
          have cl := r_t_pr N F S T C W l m L lo R c pk π t k hT hln hπ (by omega) q2 hp
          rw [← e3] at cl
          refine hy_cl cl rfl ?_
          rintro o w1 ⟨rfl, pk', hp', rfl⟩
          have nx := ih (k + 1) pk' (some (.inl (nI (uL l π k)))) (some (.inl (nI (fpr l L π k)))) (by omega) (by omega) hp'
          rw [← nI_s] at nx
          exact nx
        have e4 : fpr l L π k = if 0 < uL l π k then 0 else L k := rfl
        refine And.intro (fun q3 => ?_) (fun q3 => ?_)
        · have q3 := zi_le.mp q3
          rw [zi_nI (by omega), zi_lit0] at q3
          refine And.intro hin ?_
          rw [e4, if_neg (by omega), ← e0] at fin
          exact fin
        · have q3 : ¬ (nI (uL l π k)).toInt ≤ (0 : Int32).toInt := fun h => q3 (zi_le.mpr h)
          rw [zi_nI (by omega), zi_lit0] at q3
          rw [e4, if_pos (by omega)] at fin
          exact fin
      · have q2 : ¬ T.1 1 (nI k).toNatClampNeg = nI t := q2
        rw [e1, nI_eqI (by omega) (by omega)] at q2
        have nx := ih (k + 1) pk x5 x6 (by omega) (by omega) (fun s hs => by
          obtain ⟨x, hx1, hx2⟩ := hp s hs
          exact ⟨x, hx1, isMn_iff hx2 (fun v => (PF_n (fl l π.length) (c - π.length) (frs l L π) (fpr l L π) lo q2).symm)⟩)
        rw [← nI_s] at nx
        exact nx
theorem r_t_pl (π : List Nat) (t : Nat) (hT : iTc T l m L lo R c) (hln : ∀ s, s < 2 ^ c → T.1 5 s = nI (lnS l c s)) (hr : rowIs (T.1 4) π) (hπ : π.length ≤ c) (h1 : ∀ i, i < π.length → π.getD i 9 < R) (h2 : ∀ r, r < R → uL l π r ≤ L r) (ht : t < 3) :
    hy_R 5 mX1_packLot 0 0 [hy_r 20, .inl (nI t), .inl (nI π.length)] (wW N F S T C W) (fun o w1 => o = none ∧ ∃ pk, pkI l L lo c pk π t R ∧ w1 = wW N F S (sa T 6 pk) C W) := by
  obtain ⟨⟨t0, t1, t2, t3, t4, t5⟩, d1, d2⟩ := id hT
  have hp := Nat.two_pow_pos (c - π.length)
  refine hy_Rv (L := [some (hy_r 20), some (.inl (nI t)), some (.inl (nI π.length)), none, none, none, none]) rfl (by decide) (hy_ple rfl) rfl ?_
  refine hy_go hy_pfA oX1_packLot [14] 60 0 0 _ ?_
  have h := l_t_pl0 N F S T C W (fun o w1 => o = none ∧ ∃ pk, pkI l L lo c pk π t R ∧ w1 = wW N F S (sa T 6 pk) C W) (c - π.length) (some (.inl (nI t))) (some (.inl (nI π.length))) none none (by omega) (fun pk x4 hk => by
    by_cases e : x4 = 0
    · refine Or.inl ?_
      rw [e]
      refine l_t_pl N F S T C W l m L lo R c (fun o w1 => o = none ∧ ∃ pk, pkI l L lo c pk π t R ∧ w1 = wW N F S (sa T 6 pk) C W) π t hT hln hr hπ h1 h2 ht (fun pk' hp' => ⟨rfl, pk', hp', rfl⟩) R 0 pk none none (by omega) (by omega) (fun s hs => ?_)
      have := hk s hs
      by_cases e : s = 0
      · rw [if_pos e] at this
        refine ⟨0, this, isMn_iff (isMn_pt 0 (by omega)) (fun v => ?_)⟩
        unfold Pp
        rw [PF_0, e]
        exact ⟨fun h => ⟨rfl, h⟩, fun h => h.2⟩
      · rw [if_neg e] at this
        refine ⟨1000000, this, Or.inr ⟨rfl, fun v hv => ?_⟩⟩
        unfold Pp at hv
        rw [PF_0] at hv
        exact e hv.1
    · exact Or.inr e) (2 ^ (c - π.length) - 1) 1 (T.1 6) rfl (by omega) (by omega) (fun s h1 h2 => by omega)
  have e : nI (2 ^ (c - π.length) - 1) = ((1 : Int32) <<< ((T.2 9 - nI π.length) &&& 31)) - 1 := by
    rw [d2, nI_subI hπ (by omega), shl_1 (by omega)]
    exact (nI_subI (b := 1) (by omega) (by have : 2 ^ (c - π.length) ≤ 2 ^ 8 := Nat.pow_le_pow_right (by omega) (by omega); omega)).symm
  rw [e] at h
  exact h
/-- the cuts of mats that are still to lay -/
def ctl (π : List Nat) (P t : Nat) (x : Int32) : Prop := (okL m (fg lo π) π.length P t ∧ x = nI (cs (fmm m π.length) (c - π.length) P)) ∨ (¬ okL m (fg lo π) π.length P t ∧ x = -1)
theorem l_t_ct (Q : hyQ) (π : List Nat) (P t : Nat) (hT : iTc T l m L lo R c) (hr : rowIs (T.1 4) π) (hπ : π.length ≤ c) (h1 : ∀ i, i < π.length → π.getD i 9 < R) (ht : t < 3) (hP : P < 16) (K : ∀ x, ctl m lo c π P t x → Q (some x) (wW N F S T C W)) :
    ∀ (j i : Nat), c - i = j → i ≤ c → (∀ k, k < i → k < π.length → P.testBit (m k) = true → fg lo π k = t) → hy_X none 4 mX1_cutsToLay Q 0 0 (6, [some (hy_r 20), some (.inl (nI P)), some (.inl (nI t)), some (.inl (nI π.length)), some (.inl (nI (bitf (fun j => P.testBit (fmm m π.length j) = true) (i - π.length)))), some (.inl (nI i))], [], wW N F S T C W) := by
  obtain ⟨⟨t0, t1, t2, t3, t4, t5⟩, d1, d2⟩ := id hT
  intro j
  induction j with
  | zero =>
    intro i hj hi hok
    have : i = c := by omega
    subst this
    refine hy_go hy_pfA oX1_cutsToLay [6] 60 0 0 _ ?_
    refine And.intro (fun q => K _ (Or.inl ⟨fun k hk => hok k (by omega) hk, rfl⟩)) (fun q => absurd ?_ q)
    show T.2 9 ≤ nI i
    rw [d2]; exact Int32.le_refl _
  | succ j ih =>
    intro i hj hi hok
    have hcl : (nI i).toNatClampNeg = i := cl_nI (by omega)
    have hin : vp_in (nI i) 8 := vn_in (by omega) (by decide)
    have e3 : T.1 3 (nI i).toNatClampNeg = nI (m i) := by rw [hcl]; exact (t1 i).2.1
    have hmi := (t1 i).2.2.2
    have split : ∀ k, k < i + 1 → k < i ∨ k = i := fun k hk => by omega
    refine hy_go hy_pfA oX1_cutsToLay [6] 60 0 0 _ ?_
    refine And.intro (fun q => ?_) (fun q => ?_)
    · have q : T.2 9 ≤ nI i := q
      rw [d2, nI_le24 (by omega) (by omega)] at q; omega
    · refine And.intro hin ?_
      refine And.intro (fun q2 => ?_) (fun q2 => ?_)
      · have q2 : (nI P >>> (T.1 3 (nI i).toNatClampNeg &&& 31)) &&& 1 = 0 := q2
        rw [e3, bit_0 (by omega) (by omega)] at q2
        have nx := ih (i + 1) (by omega) (by omega) (fun k hk hk2 hb => by
          rcases split k hk with h | h
          · exact hok k h hk2 hb
          · rw [h, q2] at hb; cases hb)
        have eb : bitf (fun j => P.testBit (fmm m π.length j) = true) (i + 1 - π.length) = bitf (fun j => P.testBit (fmm m π.length j) = true) (i - π.length) := by
          by_cases e : i < π.length
          · rw [show i + 1 - π.length = 0 by omega, show i - π.length = 0 by omega]
          · rw [show i + 1 - π.length = (i - π.length) + 1 by omega, bitf]
            have : fmm m π.length (i - π.length) = m i := by unfold fmm; congr 1; omega
            rw [this, q2]
            simp
        rw [eb, ← nI_s] at nx
        exact nx
      · have q2 : ¬ (nI P >>> (T.1 3 (nI i).toNatClampNeg &&& 31)) &&& 1 = 0 := q2
        rw [e3, bit_0 (by omega) (by omega)] at q2
        have q2 : P.testBit (m i) = true := by simpa using q2
        refine And.intro (fun q3 => ?_) (fun q3 => ?_)
        · have q3 : nI i < nI π.length := q3
          rw [zi_lt, zi_nI (by omega), zi_nI (by omega)] at q3
          have hfi := row_gd hr (i := i) (by omega)
          have hxi := h1 i (by omega)
          have e4 : T.1 4 (nI i).toNatClampNeg = nI (π.getD i 9) := by rw [hcl]; exact hfi
          have e5 : T.1 1 (T.1 4 (nI i).toNatClampNeg).toNatClampNeg = nI (lo (π.getD i 9)) := by rw [e4, cl_nI (by omega)]; exact (t0 _).2.1
          have hlx := (t0 (π.getD i 9)).2.2.2
          refine And.intro hin (And.intro ?_ ?_)
          · have hv : vp_in (T.1 4 (nI i).toNatClampNeg) 6 := by rw [e4]; exact vn_in (by omega) (by decide)
            exact hv
          · refine And.intro (fun q4 => ?_) (fun q4 => ?_)
            · have q4 : T.1 1 (T.1 4 (nI i).toNatClampNeg).toNatClampNeg = nI t := q4
              rw [e5, nI_eqI (by omega) (by omega)] at q4
              have nx := ih (i + 1) (by omega) (by omega) (fun k hk hk2 hb => by
                rcases split k hk with h | h
                · exact hok k h hk2 hb
                · rw [h]; exact q4)
              rw [show i + 1 - π.length = i - π.length by omega, ← nI_s] at nx
              exact nx
            · have q4 : ¬ T.1 1 (T.1 4 (nI i).toNatClampNeg).toNatClampNeg = nI t := q4
              rw [e5, nI_eqI (by omega) (by omega)] at q4
              exact K _ (Or.inr ⟨fun h => q4 (h i (by omega) q2), rfl⟩)
        · have q3 : ¬ nI i < nI π.length := q3
          rw [zi_lt, zi_nI (by omega), zi_nI (by omega)] at q3
          have nx := ih (i + 1) (by omega) (by omega) (fun k hk hk2 hb => hok k (by omega) hk2 hb)
          have eb : nI (bitf (fun j => P.testBit (fmm m π.length j) = true) (i - π.length)) ||| ((1 : Int32) <<< ((nI i - nI π.length) &&& 31)) = nI (bitf (fun j => P.testBit (fmm m π.length j) = true) (i + 1 - π.length)) := by
            rw [nI_subI (by omega) (by omega), shl_1 (by omega), or_2 (bitf_lt _ _) (by omega), show i + 1 - π.length = (i - π.length) + 1 by omega, bitf]
            have : fmm m π.length (i - π.length) = m i := by unfold fmm; congr 1; omega
            rw [this, if_pos q2]
          rw [← eb, ← nI_s] at nx
          exact nx
theorem r_t_ct (π : List Nat) (P t : Nat) (hT : iTc T l m L lo R c) (hr : rowIs (T.1 4) π) (hπ : π.length ≤ c) (h1 : ∀ i, i < π.length → π.getD i 9 < R) (ht : t < 3) (hP : P < 16) :
    hy_R 4 mX1_cutsToLay 0 0 [hy_r 20, .inl (nI P), .inl (nI t), .inl (nI π.length)] (wW N F S T C W) (fun o w1 => ∃ x, o = some x ∧ ctl m lo c π P t x ∧ w1 = wW N F S T C W) := by
  refine hy_Ri (L := [some (hy_r 20), some (.inl (nI P)), some (.inl (nI t)), some (.inl (nI π.length)), none, none]) rfl (by decide) (hy_ple rfl) rfl ?_
  refine hy_go hy_pfA oX1_cutsToLay [6] 60 0 0 _ ?_
  have h := l_t_ct N F S T C W l m L lo R c (fun o w1 => ∃ x, o = some x ∧ ctl m lo c π P t x ∧ w1 = wW N F S T C W) π P t hT hr hπ h1 ht hP (fun x hx => ⟨x, rfl, hx, rfl⟩) c 0 (by omega) (by omega) (fun k hk => by omega)
  rw [Nat.zero_sub] at h
  exact h
end
end
section
/-! ===== joining a lot; the least with some fixed ===== -/
theorem js_step (l : Nat → Nat) (n : Nat) (rs pr lo mm fm g : Nat → Nat) (F R : Nat) {A : Nat → Prop} {t Y p y a b : Nat} (hY : Y < 2 ^ 4) (hp : sub p Y) (h1 : 1 ≤ p) (hpr : ∀ r, pr r ≤ 1000) (hR : R ≤ 6)
    (hy : isMn (fun v => A v ∨ ∃ P, p < P ∧ sub P Y ∧ okL fm g F P t ∧ ∃ v1 v2, JF l n rs pr lo mm fm g F R (Y ^^^ P) t v1 ∧ PF l n rs pr lo t (cs mm n P) R v2 ∧ v = v1 + v2) y)
    (hok : okL fm g F p t) (ha : isMn (JF l n rs pr lo mm fm g F R (Y ^^^ p) t) a) (hb : isMn (PF l n rs pr lo t (cs mm n p) R) b) :
    isMn (fun v => A v ∨ ∃ P, ((p - 1) &&& Y) < P ∧ sub P Y ∧ okL fm g F P t ∧ ∃ v1 v2, JF l n rs pr lo mm fm g F R (Y ^^^ P) t v1 ∧ PF l n rs pr lo t (cs mm n P) R v2 ∧ v = v1 + v2) (if a + b < y then a + b else y) := by
  refine isMn_iff (isMn_add hy ha hb (fun v1 v2 z1 z2 => by
    have := PF_bd l n rs pr lo hpr z2
    have := JF_bd l n rs pr lo mm fm g F R hpr z1
    omega)) (fun v => ?_)
  rw [sub_step hY hp h1 (fun P => okL fm g F P t ∧ ∃ v1 v2, JF l n rs pr lo mm fm g F R (Y ^^^ P) t v1 ∧ PF l n rs pr lo t (cs mm n P) R v2 ∧ v = v1 + v2)]
  constructor
  · rintro ((h | h) | h)
    · exact Or.inl h
    · exact Or.inr (Or.inl h)
    · exact Or.inr (Or.inr ⟨hok, h⟩)
  · rintro (h | h | h)
    · exact Or.inl (Or.inl h)
    · exact Or.inl (Or.inr h)
    · exact Or.inr h.2
theorem js_skip (l : Nat → Nat) (n : Nat) (rs pr lo mm fm g : Nat → Nat) (F R : Nat) {A : Nat → Prop} {t Y p y : Nat} (hY : Y < 2 ^ 4) (hp : sub p Y) (h1 : 1 ≤ p)
    (hy : isMn (fun v => A v ∨ ∃ P, p < P ∧ sub P Y ∧ okL fm g F P t ∧ ∃ v1 v2, JF l n rs pr lo mm fm g F R (Y ^^^ P) t v1 ∧ PF l n rs pr lo t (cs mm n P) R v2 ∧ v = v1 + v2) y)
    (hok : ¬ okL fm g F p t) :
    isMn (fun v => A v ∨ ∃ P, ((p - 1) &&& Y) < P ∧ sub P Y ∧ okL fm g F P t ∧ ∃ v1 v2, JF l n rs pr lo mm fm g F R (Y ^^^ P) t v1 ∧ PF l n rs pr lo t (cs mm n P) R v2 ∧ v = v1 + v2) y := by
  refine isMn_iff hy (fun v => ?_)
  rw [sub_step hY hp h1 (fun P => okL fm g F P t ∧ ∃ v1 v2, JF l n rs pr lo mm fm g F R (Y ^^^ P) t v1 ∧ PF l n rs pr lo t (cs mm n P) R v2 ∧ v = v1 + v2)]
  constructor
  · rintro (h | h)
    · exact Or.inl h
    · exact Or.inr (Or.inl h)
  · rintro (h | h | h)
    · exact Or.inl h
    · exact Or.inr h
    · exact absurd h.1 hok
theorem JF_z (l : Nat → Nat) (n : Nat) (rs pr lo mm fm g : Nat → Nat) (F R : Nat) {t v : Nat} : JF l n rs pr lo mm fm g F R 0 (t + 1) v ↔ JF l n rs pr lo mm fm g F R 0 t v := by
  rw [JF_s]
  constructor
  · rintro (h | ⟨P, p1, p2, -⟩)
    · exact h
    · have := zero_sub p2; omega
  · exact Or.inl
section
variable (N F S T C : hyB) (W : hyW) (l m L lo : Nat → Nat) (R c : Nat)
theorem l_t_jlIn (Q : hyQ) (jn : Nat → Int32) (π : List Nat) (t Y : Nat) (hT : iTc T l m L lo R c) (hr : rowIs (T.1 4) π) (hπ : π.length ≤ c) (h1 : ∀ i, i < π.length → π.getD i 9 < R) (ht : t < 3) (hY : Y < 16) (hpk : pkI l L lo c (T.1 6) π t R)
    (hjn : ∀ Y', Y' ≤ Y → ∃ x, jn Y' = nI x ∧ isMn (Jp l m L lo R c π Y' t) x)
    (K : ∀ y x5 x6, isMn (Jp l m L lo R c π Y (t + 1)) y → hy_X none 5 mX1_joinLot Q 0 0 (74, [some (hy_r 20), some (.inl (nI t)), some (.inl (nI π.length)), some (.inl (nI Y)), some (.inl (nI y)), x5, x6], [], wW N F S (sa T 7 jn) C W)) :
    ∀ (j p y : Nat) (x6 : Option hyV), p ≤ j → sub p Y → isMn (fun v => Jp l m L lo R c π Y t v ∨ ∃ P, p < P ∧ sub P Y ∧ okL m (fg lo π) π.length P t ∧ ∃ v1 v2, JF (fl l π.length) (c - π.length) (frs l L π) (fpr l L π) lo (fmm m π.length) m (fg lo π) π.length R (Y ^^^ P) t v1 ∧ PF (fl l π.length) (c - π.length) (frs l L π) (fpr l L π) lo t (cs (fmm m π.length) (c - π.length) P) R v2 ∧ v = v1 + v2) y → hy_X none 5 mX1_joinLot Q 0 0 (18, [some (hy_r 20), some (.inl (nI t)), some (.inl (nI π.length)), some (.inl (nI Y)), some (.inl (nI y)), some (.inl (nI p)), x6], [], wW N F S (sa T 7 jn) C W) := by
  obtain ⟨⟨t0, t1, t2, t3, t4, t5⟩, d1, d2⟩ := id hT
  have hpw : 2 ^ (c - π.length) ≤ 256 := (Nat.pow_le_pow_right (n := 2) (by omega) (by omega) : 2 ^ (c - π.length) ≤ 2 ^ 8)
  have last : ∀ y x6, isMn (fun v => Jp l m L lo R c π Y t v ∨ ∃ P, 0 < P ∧ sub P Y ∧ okL m (fg lo π) π.length P t ∧ ∃ v1 v2, JF (fl l π.length) (c - π.length) (frs l L π) (fpr l L π) lo (fmm m π.length) m (fg lo π) π.length R (Y ^^^ P) t v1 ∧ PF (fl l π.length) (c - π.length) (frs l L π) (fpr l L π) lo t (cs (fmm m π.length) (c - π.length) P) R v2 ∧ v = v1 + v2) y → hy_X none 5 mX1_joinLot Q 0 0 (18, [some (hy_r 20), some (.inl (nI t)), some (.inl (nI π.length)), some (.inl (nI Y)), some (.inl (nI y)), some (.inl (nI 0)), x6], [], wW N F S (sa T 7 jn) C W) := fun y x6 hy => by
    refine hy_go hy_pfA oX1_joinLot [18, 74] 60 0 0 _ ?_
    refine And.intro (fun q => K y _ x6 (isMn_iff hy (fun v => ?_))) (fun q => absurd (Int32.le_refl _) q)
    exact (JF_s (fl l π.length) (c - π.length) (frs l L π) (fpr l L π) lo (fmm m π.length) m (fg lo π) π.length R).symm
  intro j
  induction j with
  | zero =>
    intro p y x6 hp hsub hy
    have hp0 : p = 0 := by omega
    subst hp0
    exact last y x6 hy
  | succ j ih =>
    intro p y x6 hp hsub hy
    by_cases hp0 : p = 0
    · subst hp0
      exact last y x6 hy
    · have hps := sub_le hsub
      have hxl := xor_lt hsub (by omega)
      obtain ⟨a, ha1, ha2⟩ := hjn (Y ^^^ p) (by omega)
      obtain ⟨b, hb1, hb2⟩ := hpk (cs (fmm m π.length) (c - π.length) p) (cs_lt _ _ _)
      have hcs := cs_lt (fmm m π.length) (c - π.length) p
      have hal := isMn_le ha2
      have hbl := isMn_le hb2
      have hyl := isMn_le hy
      have hnl : ((p - 1) &&& Y) ≤ j := by
        have := and_lt (t := p) (S := Y) (by omega)
        omega
      have hxcl : (nI Y ^^^ nI p).toNatClampNeg = Y ^^^ p := by rw [nI_xor]; exact cl_nI (by omega)
      have hxin : vp_in (nI Y ^^^ nI p) 16 := by rw [nI_xor]; exact vn_in (by omega) (by decide)
      have hsub2 : sub ((p - 1) &&& Y) Y := sub_and _ _
      have e2 : nI ((p - 1) &&& Y) = (nI p - 1) &&& nI Y := by
        rw [← nI_and]
        have := nI_pred (p - 1)
        rw [show p - 1 + 1 = p by omega] at this
        rw [this]
      refine hy_go hy_pfA oX1_joinLot [18, 74] 60 0 0 _ ?_
      refine And.intro (fun q => ?_) (fun q => ?_)
      · have q := zi_le.mp q
        rw [zi_nI (by omega), zi_lit0] at q; omega
      · refine hy_cl (r_t_ct N F S (sa T 7 jn) C W l m L lo R c π p t hT hr hπ h1 ht (by omega)) rfl ?_
        rintro o w1 ⟨x, rfl, hx, rfl⟩
        rcases hx with ⟨hok, rfl⟩ | ⟨hok, rfl⟩
        · refine And.intro (fun q2 => ?_) (fun q2 => ?_)
          · have q2 := zi_eq.mp q2
            rw [zi_nI (by omega), zi_m1] at q2; omega
          · have hccl : (nI (cs (fmm m π.length) (c - π.length) p)).toNatClampNeg = cs (fmm m π.length) (c - π.length) p := cl_nI (by omega)
            refine And.intro hxin (And.intro (vn_in (by omega) (by decide)) ?_)
            have hst := js_step (fl l π.length) (c - π.length) (frs l L π) (fpr l L π) lo (fmm m π.length) m (fg lo π) π.length R hY hsub (by omega) (fpr_bd l L (fun r => (t0 r).2.2.1) π) t2 hy hok ha2 hb2
            have nx := ih ((p - 1) &&& Y) _ (some (.inl (nI (cs (fmm m π.length) (c - π.length) p)))) hnl hsub2 hst
            have e1 : jn (nI Y ^^^ nI p).toNatClampNeg + T.1 6 (nI (cs (fmm m π.length) (c - π.length) p)).toNatClampNeg = nI (a + b) := by rw [hxcl, hccl, ha1, hb1, nI_add]
            have e3 : nI (if a + b < y then a + b else y) = if jn (nI Y ^^^ nI p).toNatClampNeg + T.1 6 (nI (cs (fmm m π.length) (c - π.length) p)).toNatClampNeg < nI y then jn (nI Y ^^^ nI p).toNatClampNeg + T.1 6 (nI (cs (fmm m π.length) (c - π.length) p)).toNatClampNeg else nI y := by
              rw [e1]
              by_cases z : a + b < y
              · rw [if_pos z, if_pos (by rw [zi_lt, zi_nI (by omega), zi_nI (by omega)]; omega)]
              · rw [if_neg z, if_neg (by rw [zi_lt, zi_nI (by omega), zi_nI (by omega)]; omega)]
            rw [e2, e3] at nx
            exact nx
        · refine And.intro (fun q2 => ?_) (fun q2 => absurd rfl q2)
          have hst := js_skip (fl l π.length) (c - π.length) (frs l L π) (fpr l L π) lo (fmm m π.length) m (fg lo π) π.length R hY hsub (by omega) hy hok
          have nx := ih ((p - 1) &&& Y) _ (some (.inl (-1))) hnl hsub2 hst
          rw [e2] at nx
          exact nx
def jnI (jn : Nat → Int32) (π : List Nat) (t : Nat) : Prop := ∀ Y, Y < 16 → ∃ x, jn Y = nI x ∧ isMn (Jp l m L lo R c π Y t) x
theorem l_t_jl (Q : hyQ) (π : List Nat) (t : Nat) (hT : iTc T l m L lo R c) (hr : rowIs (T.1 4) π) (hπ : π.length ≤ c) (h1 : ∀ i, i < π.length → π.getD i 9 < R) (ht : t < 3) (hpk : pkI l L lo c (T.1 6) π t R)
    (K : ∀ jn, jnI l m L lo R c jn π (t + 1) → Q none (wW N F S (sa T 7 jn) C W)) :
    ∀ (Y : Nat) (jn : Nat → Int32) (x4 x5 x6 : Option hyV), Y < 16 → (∀ Y', Y' ≤ Y → ∃ x, jn Y' = nI x ∧ isMn (Jp l m L lo R c π Y' t) x) → (∀ Y', Y < Y' → Y' < 16 → ∃ x, jn Y' = nI x ∧ isMn (Jp l m L lo R c π Y' (t + 1)) x) →
      hy_X none 5 mX1_joinLot Q 0 0 (3, [some (hy_r 20), some (.inl (nI t)), some (.inl (nI π.length)), some (.inl (nI Y)), x4, x5, x6], [], wW N F S (sa T 7 jn) C W) := by
  intro Y
  induction Y with
  | zero =>
    intro jn x4 x5 x6 hY g1 g2
    refine hy_go hy_pfA oX1_joinLot [3] 60 0 0 _ ?_
    refine And.intro (fun q => K jn (fun Y' hY' => ?_)) (fun q => absurd (Int32.le_refl _) q)
    by_cases e : Y' = 0
    · obtain ⟨x, hx1, hx2⟩ := g1 0 (Nat.le_refl _)
      rw [e]
      exact ⟨x, hx1, isMn_iff hx2 (fun v => (JF_z (fl l π.length) (c - π.length) (frs l L π) (fpr l L π) lo (fmm m π.length) m (fg lo π) π.length R).symm)⟩
    · exact g2 Y' (by omega) hY'
  | succ Y ih =>
    intro jn x4 x5 x6 hY g1 g2
    have hcl : (nI (Y + 1)).toNatClampNeg = Y + 1 := cl_nI (by omega)
    have hin : vp_in (nI (Y + 1)) 16 := vn_in (by omega) (by decide)
    obtain ⟨y, hy1, hy2⟩ := g1 (Y + 1) (Nat.le_refl _)
    refine hy_go hy_pfA oX1_joinLot [3, 18] 60 0 0 _ ?_
    refine And.intro (fun q => ?_) (fun q => ?_)
    · have q := zi_le.mp q
      rw [zi_nI (by omega), zi_lit0] at q; omega
    · refine And.intro hin ?_
      have inn := l_t_jlIn N F S T C W l m L lo R c Q jn π t (Y + 1) hT hr hπ h1 ht hY hpk g1 (fun y' x5' x6' hy' => by
        refine hy_go hy_pfA oX1_joinLot [3] 60 0 0 _ ?_
        refine And.intro hin ?_
        have nx := ih (upd jn (nI (Y + 1)).toNatClampNeg (nI y')) (some (.inl (nI y'))) x5' x6' (by omega) (fun Y' hY' => by
          rw [hcl]; unfold upd; rw [if_neg (by omega)]
          exact g1 Y' (by omega)) (fun Y' h3 h4 => by
          rw [hcl]; unfold upd
          by_cases e : Y' = Y + 1
          · rw [if_pos e, e]; exact ⟨y', rfl, hy'⟩
          · rw [if_neg e]; exact g2 Y' (by omega) h4)
        have e : nI Y = nI (Y + 1) + (-1) := by rw [← Int32.sub_eq_add_neg, nI_pred]
        rw [e] at nx
        exact nx) (Y + 1) (Y + 1) y x6 (Nat.le_refl _) (fun i h => h) (isMn_iff hy2 (fun v => ⟨Or.inl, fun h => by
          rcases h with h | ⟨P, p1, p2, -⟩
          · exact h
          · have := sub_le p2; omega⟩))
      have e : jn (nI (Y + 1)).toNatClampNeg = nI y := by rw [hcl]; exact hy1
      rw [← e] at inn
      exact inn
theorem r_t_jl (jn : Nat → Int32) (π : List Nat) (t : Nat) (hT : iTc T l m L lo R c) (hr : rowIs (T.1 4) π) (hπ : π.length ≤ c) (h1 : ∀ i, i < π.length → π.getD i 9 < R) (ht : t < 3) (hpk : pkI l L lo c (T.1 6) π t R) (hjn : jnI l m L lo R c jn π t) :
    hy_R 5 mX1_joinLot 0 0 [hy_r 20, .inl (nI t), .inl (nI π.length)] (wW N F S (sa T 7 jn) C W) (fun o w1 => o = none ∧ ∃ jn', jnI l m L lo R c jn' π (t + 1) ∧ w1 = wW N F S (sa T 7 jn') C W) := by
  refine hy_Rv (L := [some (hy_r 20), some (.inl (nI t)), some (.inl (nI π.length)), none, none, none, none]) rfl (by decide) (hy_ple rfl) rfl ?_
  refine hy_go hy_pfA oX1_joinLot [3] 60 0 0 _ ?_
  exact l_t_jl N F S T C W l m L lo R c (fun o w1 => o = none ∧ ∃ jn', jnI l m L lo R c jn' π (t + 1) ∧ w1 = wW N F S (sa T 7 jn') C W) π t hT hr hπ h1 ht hpk (fun jn' h => ⟨rfl, jn', h, rfl⟩) 15 jn none none none (by omega) (fun Y' hY' => hjn Y' (by omega)) (fun Y' h1 h2 => by omega)
end
end
