section
-- ===== PART A: goes FIRST, ahead of the names: the tables' words, and 'selects' of the private methods out of them =====
/-- a private method of a class that the tables say can be made, by its rows of tables_1 -/
def lw_okq (q : MethodName × Nat) : Prop := (q.1.cls ≠ "java/lang/invoke/MethodHandle" ∧ q.1.cls ≠ "java/lang/invoke/VarHandle") ∧ Cond.instantiable q.1.cls q.2 ∈ tables_1 ∧ Cond.privateMethod q.1 ∈ tables_1 ∧ Cond.instanceMethod q.1 ∈ tables_1
theorem lw_p0 : lw_okq (⟨"HuskYard$Nets", "rateAt", "(I)I"⟩, 11) := ⟨⟨by decide +kernel, by decide +kernel⟩, List.mem_of_getElem? (i := 19) (by decide +kernel), List.mem_of_getElem? (i := 230) (by decide +kernel), List.mem_of_getElem? (i := 231) (by decide +kernel)⟩
theorem lw_p1 : lw_okq (⟨"HuskYard$Nets", "isNet", "(I)Z"⟩, 11) := ⟨⟨by decide +kernel, by decide +kernel⟩, List.mem_of_getElem? (i := 19) (by decide +kernel), List.mem_of_getElem? (i := 242) (by decide +kernel), List.mem_of_getElem? (i := 243) (by decide +kernel)⟩
theorem lw_p2 : lw_okq (⟨"HuskYard$Nets", "isRipe", "(I)Z"⟩, 11) := ⟨⟨by decide +kernel, by decide +kernel⟩, List.mem_of_getElem? (i := 19) (by decide +kernel), List.mem_of_getElem? (i := 246) (by decide +kernel), List.mem_of_getElem? (i := 247) (by decide +kernel)⟩
theorem lw_p3 : lw_okq (⟨"HuskYard$Finds", "hasWay", "(I)Z"⟩, 3) := ⟨⟨by decide +kernel, by decide +kernel⟩, List.mem_of_getElem? (i := 60) (by decide +kernel), List.mem_of_getElem? (i := 271) (by decide +kernel), List.mem_of_getElem? (i := 272) (by decide +kernel)⟩
theorem lw_p4 : lw_okq (⟨"HuskYard$Finds", "fittedBy", "(I)I"⟩, 3) := ⟨⟨by decide +kernel, by decide +kernel⟩, List.mem_of_getElem? (i := 60) (by decide +kernel), List.mem_of_getElem? (i := 275) (by decide +kernel), List.mem_of_getElem? (i := 276) (by decide +kernel)⟩
theorem lw_p5 : lw_okq (⟨"HuskYard$Finds", "reachable", "(I)I"⟩, 3) := ⟨⟨by decide +kernel, by decide +kernel⟩, List.mem_of_getElem? (i := 60) (by decide +kernel), List.mem_of_getElem? (i := 285) (by decide +kernel), List.mem_of_getElem? (i := 286) (by decide +kernel)⟩
theorem lw_p6 : lw_okq (⟨"HuskYard", "bringBackTheSure", "()V"⟩, 5) := ⟨⟨by decide +kernel, by decide +kernel⟩, List.mem_of_getElem? (i := 11) (by decide +kernel), List.mem_of_getElem? (i := 296) (by decide +kernel), List.mem_of_getElem? (i := 297) (by decide +kernel)⟩
theorem lw_p7 : lw_okq (⟨"HuskYard$Finds", "isFind", "(I)Z"⟩, 3) := ⟨⟨by decide +kernel, by decide +kernel⟩, List.mem_of_getElem? (i := 60) (by decide +kernel), List.mem_of_getElem? (i := 308) (by decide +kernel), List.mem_of_getElem? (i := 309) (by decide +kernel)⟩
theorem lw_p8 : lw_okq (⟨"HuskYard$Nets", "weeksToRipe", "(I)I"⟩, 11) := ⟨⟨by decide +kernel, by decide +kernel⟩, List.mem_of_getElem? (i := 19) (by decide +kernel), List.mem_of_getElem? (i := 337) (by decide +kernel), List.mem_of_getElem? (i := 338) (by decide +kernel)⟩
theorem lw_p9 : lw_okq (⟨"HuskYard$SpinYard", "plan", "()V"⟩, 10) := ⟨⟨by decide +kernel, by decide +kernel⟩, List.mem_of_getElem? (i := 76) (by decide +kernel), List.mem_of_getElem? (i := 366) (by decide +kernel), List.mem_of_getElem? (i := 367) (by decide +kernel)⟩
theorem lw_p10 : lw_okq (⟨"HuskYard$SpinYard", "tryPlace", "(IIIII)V"⟩, 10) := ⟨⟨by decide +kernel, by decide +kernel⟩, List.mem_of_getElem? (i := 76) (by decide +kernel), List.mem_of_getElem? (i := 371) (by decide +kernel), List.mem_of_getElem? (i := 372) (by decide +kernel)⟩
theorem lw_p11 : lw_okq (⟨"HuskYard$SpinYard", "keepRow", "(I)V"⟩, 10) := ⟨⟨by decide +kernel, by decide +kernel⟩, List.mem_of_getElem? (i := 76) (by decide +kernel), List.mem_of_getElem? (i := 375) (by decide +kernel), List.mem_of_getElem? (i := 376) (by decide +kernel)⟩
theorem lw_p12 : lw_okq (⟨"HuskYard$SpinYard", "tryRest", "(IIIII)V"⟩, 10) := ⟨⟨by decide +kernel, by decide +kernel⟩, List.mem_of_getElem? (i := 76) (by decide +kernel), List.mem_of_getElem? (i := 379) (by decide +kernel), List.mem_of_getElem? (i := 380) (by decide +kernel)⟩
theorem lw_p13 : lw_okq (⟨"HuskYard$SpinYard", "endOf", "(III)I"⟩, 10) := ⟨⟨by decide +kernel, by decide +kernel⟩, List.mem_of_getElem? (i := 76) (by decide +kernel), List.mem_of_getElem? (i := 383) (by decide +kernel), List.mem_of_getElem? (i := 384) (by decide +kernel)⟩
theorem lw_p14 : lw_okq (⟨"HuskYard$MatRoom", "lay", "()V"⟩, 12) := ⟨⟨by decide +kernel, by decide +kernel⟩, List.mem_of_getElem? (i := 113) (by decide +kernel), List.mem_of_getElem? (i := 435) (by decide +kernel), List.mem_of_getElem? (i := 436) (by decide +kernel)⟩
theorem lw_p15 : lw_okq (⟨"HuskYard$MatRoom", "measureSets", "()V"⟩, 12) := ⟨⟨by decide +kernel, by decide +kernel⟩, List.mem_of_getElem? (i := 113) (by decide +kernel), List.mem_of_getElem? (i := 439) (by decide +kernel), List.mem_of_getElem? (i := 440) (by decide +kernel)⟩
def lw_privs_1 : List (MethodName × Nat) := [(⟨"HuskYard$Nets", "rateAt", "(I)I"⟩, 11), (⟨"HuskYard$Nets", "isNet", "(I)Z"⟩, 11), (⟨"HuskYard$Nets", "isRipe", "(I)Z"⟩, 11), (⟨"HuskYard$Finds", "hasWay", "(I)Z"⟩, 3), (⟨"HuskYard$Finds", "fittedBy", "(I)I"⟩, 3), (⟨"HuskYard$Finds", "reachable", "(I)I"⟩, 3), (⟨"HuskYard", "bringBackTheSure", "()V"⟩, 5), (⟨"HuskYard$Finds", "isFind", "(I)Z"⟩, 3), (⟨"HuskYard$Nets", "weeksToRipe", "(I)I"⟩, 11), (⟨"HuskYard$SpinYard", "plan", "()V"⟩, 10), (⟨"HuskYard$SpinYard", "tryPlace", "(IIIII)V"⟩, 10), (⟨"HuskYard$SpinYard", "keepRow", "(I)V"⟩, 10), (⟨"HuskYard$SpinYard", "tryRest", "(IIIII)V"⟩, 10), (⟨"HuskYard$SpinYard", "endOf", "(III)I"⟩, 10), (⟨"HuskYard$MatRoom", "lay", "()V"⟩, 12), (⟨"HuskYard$MatRoom", "measureSets", "()V"⟩, 12)]
theorem lw_r1 : ∀ q ∈ lw_privs_1, lw_okq q := List.forall_mem_cons.mpr ⟨lw_p0, List.forall_mem_cons.mpr ⟨lw_p1, List.forall_mem_cons.mpr ⟨lw_p2, List.forall_mem_cons.mpr ⟨lw_p3, List.forall_mem_cons.mpr ⟨lw_p4, List.forall_mem_cons.mpr ⟨lw_p5, List.forall_mem_cons.mpr ⟨lw_p6, List.forall_mem_cons.mpr ⟨lw_p7, List.forall_mem_cons.mpr ⟨lw_p8, List.forall_mem_cons.mpr ⟨lw_p9, List.forall_mem_cons.mpr ⟨lw_p10, List.forall_mem_cons.mpr ⟨lw_p11, List.forall_mem_cons.mpr ⟨lw_p12, List.forall_mem_cons.mpr ⟨lw_p13, List.forall_mem_cons.mpr ⟨lw_p14, List.forall_mem_cons.mpr ⟨lw_p15, fun _ h => absurd h List.not_mem_nil⟩⟩⟩⟩⟩⟩⟩⟩⟩⟩⟩⟩⟩⟩⟩⟩
theorem lw_p16 : lw_okq (⟨"HuskYard$MatRoom", "leastWith", "(I)I"⟩, 12) := ⟨⟨by decide +kernel, by decide +kernel⟩, List.mem_of_getElem? (i := 113) (by decide +kernel), List.mem_of_getElem? (i := 443) (by decide +kernel), List.mem_of_getElem? (i := 444) (by decide +kernel)⟩
theorem lw_p17 : lw_okq (⟨"HuskYard$MatRoom", "usedOf", "(II)I"⟩, 12) := ⟨⟨by decide +kernel, by decide +kernel⟩, List.mem_of_getElem? (i := 113) (by decide +kernel), List.mem_of_getElem? (i := 447) (by decide +kernel), List.mem_of_getElem? (i := 448) (by decide +kernel)⟩
theorem lw_p18 : lw_okq (⟨"HuskYard$MatRoom", "packLot", "(II)V"⟩, 12) := ⟨⟨by decide +kernel, by decide +kernel⟩, List.mem_of_getElem? (i := 113) (by decide +kernel), List.mem_of_getElem? (i := 452) (by decide +kernel), List.mem_of_getElem? (i := 453) (by decide +kernel)⟩
theorem lw_p19 : lw_okq (⟨"HuskYard$MatRoom", "packRoll", "(IIII)V"⟩, 12) := ⟨⟨by decide +kernel, by decide +kernel⟩, List.mem_of_getElem? (i := 113) (by decide +kernel), List.mem_of_getElem? (i := 456) (by decide +kernel), List.mem_of_getElem? (i := 457) (by decide +kernel)⟩
theorem lw_p20 : lw_okq (⟨"HuskYard$MatRoom", "joinLot", "(II)V"⟩, 12) := ⟨⟨by decide +kernel, by decide +kernel⟩, List.mem_of_getElem? (i := 113) (by decide +kernel), List.mem_of_getElem? (i := 460) (by decide +kernel), List.mem_of_getElem? (i := 461) (by decide +kernel)⟩
theorem lw_p21 : lw_okq (⟨"HuskYard$MatRoom", "cutsToLay", "(III)I"⟩, 12) := ⟨⟨by decide +kernel, by decide +kernel⟩, List.mem_of_getElem? (i := 113) (by decide +kernel), List.mem_of_getElem? (i := 464) (by decide +kernel), List.mem_of_getElem? (i := 465) (by decide +kernel)⟩
theorem lw_p22 : lw_okq (⟨"HuskYard$MatRoom", "layOnLowestRoll", "(I)V"⟩, 12) := ⟨⟨by decide +kernel, by decide +kernel⟩, List.mem_of_getElem? (i := 113) (by decide +kernel), List.mem_of_getElem? (i := 471) (by decide +kernel), List.mem_of_getElem? (i := 472) (by decide +kernel)⟩
theorem lw_p23 : lw_okq (⟨"HuskYard$Scale", "greatestWeight", "(I)I"⟩, 3) := ⟨⟨by decide +kernel, by decide +kernel⟩, List.mem_of_getElem? (i := 156) (by decide +kernel), List.mem_of_getElem? (i := 519) (by decide +kernel), List.mem_of_getElem? (i := 520) (by decide +kernel)⟩
theorem lw_p24 : lw_okq (⟨"HuskYard$Scale", "leastWeight", "(I)I"⟩, 3) := ⟨⟨by decide +kernel, by decide +kernel⟩, List.mem_of_getElem? (i := 156) (by decide +kernel), List.mem_of_getElem? (i := 530) (by decide +kernel), List.mem_of_getElem? (i := 531) (by decide +kernel)⟩
theorem lw_p25 : lw_okq (⟨"HuskYardModel", "isNet", "(I)Z"⟩, 36) := ⟨⟨by decide +kernel, by decide +kernel⟩, List.mem_of_getElem? (i := 570) (by decide +kernel), List.mem_of_getElem? (i := 709) (by decide +kernel), List.mem_of_getElem? (i := 710) (by decide +kernel)⟩
theorem lw_p26 : lw_okq (⟨"HuskYardModel", "stateOf", "(I)I"⟩, 36) := ⟨⟨by decide +kernel, by decide +kernel⟩, List.mem_of_getElem? (i := 570) (by decide +kernel), List.mem_of_getElem? (i := 713) (by decide +kernel), List.mem_of_getElem? (i := 714) (by decide +kernel)⟩
theorem lw_p27 : lw_okq (⟨"HuskYardModel", "findOf", "(I)I"⟩, 36) := ⟨⟨by decide +kernel, by decide +kernel⟩, List.mem_of_getElem? (i := 570) (by decide +kernel), List.mem_of_getElem? (i := 717) (by decide +kernel), List.mem_of_getElem? (i := 718) (by decide +kernel)⟩
theorem lw_p28 : lw_okq (⟨"HuskYardModel", "knows", "()V"⟩, 36) := ⟨⟨by decide +kernel, by decide +kernel⟩, List.mem_of_getElem? (i := 570) (by decide +kernel), List.mem_of_getElem? (i := 721) (by decide +kernel), List.mem_of_getElem? (i := 722) (by decide +kernel)⟩
theorem lw_p29 : lw_okq (⟨"HuskYardModel", "fits", "(II)Z"⟩, 36) := ⟨⟨by decide +kernel, by decide +kernel⟩, List.mem_of_getElem? (i := 570) (by decide +kernel), List.mem_of_getElem? (i := 725) (by decide +kernel), List.mem_of_getElem? (i := 726) (by decide +kernel)⟩
theorem lw_p30 : lw_okq (⟨"HuskYardModel", "isWay", "(II)Z"⟩, 36) := ⟨⟨by decide +kernel, by decide +kernel⟩, List.mem_of_getElem? (i := 570) (by decide +kernel), List.mem_of_getElem? (i := 729) (by decide +kernel), List.mem_of_getElem? (i := 730) (by decide +kernel)⟩
theorem lw_p31 : lw_okq (⟨"HuskYardModel", "isRipe", "(I)Z"⟩, 36) := ⟨⟨by decide +kernel, by decide +kernel⟩, List.mem_of_getElem? (i := 570) (by decide +kernel), List.mem_of_getElem? (i := 733) (by decide +kernel), List.mem_of_getElem? (i := 734) (by decide +kernel)⟩
def lw_privs_2 : List (MethodName × Nat) := [(⟨"HuskYard$MatRoom", "leastWith", "(I)I"⟩, 12), (⟨"HuskYard$MatRoom", "usedOf", "(II)I"⟩, 12), (⟨"HuskYard$MatRoom", "packLot", "(II)V"⟩, 12), (⟨"HuskYard$MatRoom", "packRoll", "(IIII)V"⟩, 12), (⟨"HuskYard$MatRoom", "joinLot", "(II)V"⟩, 12), (⟨"HuskYard$MatRoom", "cutsToLay", "(III)I"⟩, 12), (⟨"HuskYard$MatRoom", "layOnLowestRoll", "(I)V"⟩, 12), (⟨"HuskYard$Scale", "greatestWeight", "(I)I"⟩, 3), (⟨"HuskYard$Scale", "leastWeight", "(I)I"⟩, 3), (⟨"HuskYardModel", "isNet", "(I)Z"⟩, 36), (⟨"HuskYardModel", "stateOf", "(I)I"⟩, 36), (⟨"HuskYardModel", "findOf", "(I)I"⟩, 36), (⟨"HuskYardModel", "knows", "()V"⟩, 36), (⟨"HuskYardModel", "fits", "(II)Z"⟩, 36), (⟨"HuskYardModel", "isWay", "(II)Z"⟩, 36), (⟨"HuskYardModel", "isRipe", "(I)Z"⟩, 36)]
theorem lw_r2 : ∀ q ∈ lw_privs_2, lw_okq q := List.forall_mem_cons.mpr ⟨lw_p16, List.forall_mem_cons.mpr ⟨lw_p17, List.forall_mem_cons.mpr ⟨lw_p18, List.forall_mem_cons.mpr ⟨lw_p19, List.forall_mem_cons.mpr ⟨lw_p20, List.forall_mem_cons.mpr ⟨lw_p21, List.forall_mem_cons.mpr ⟨lw_p22, List.forall_mem_cons.mpr ⟨lw_p23, List.forall_mem_cons.mpr ⟨lw_p24, List.forall_mem_cons.mpr ⟨lw_p25, List.forall_mem_cons.mpr ⟨lw_p26, List.forall_mem_cons.mpr ⟨lw_p27, List.forall_mem_cons.mpr ⟨lw_p28, List.forall_mem_cons.mpr ⟨lw_p29, List.forall_mem_cons.mpr ⟨lw_p30, List.forall_mem_cons.mpr ⟨lw_p31, fun _ h => absurd h List.not_mem_nil⟩⟩⟩⟩⟩⟩⟩⟩⟩⟩⟩⟩⟩⟩⟩⟩
theorem lw_p32 : lw_okq (⟨"HuskYardModel", "weeksLeft", "(I)I"⟩, 36) := ⟨⟨by decide +kernel, by decide +kernel⟩, List.mem_of_getElem? (i := 570) (by decide +kernel), List.mem_of_getElem? (i := 753) (by decide +kernel), List.mem_of_getElem? (i := 754) (by decide +kernel)⟩
theorem lw_p33 : lw_okq (⟨"HuskYardModel", "spins", "()I"⟩, 36) := ⟨⟨by decide +kernel, by decide +kernel⟩, List.mem_of_getElem? (i := 570) (by decide +kernel), List.mem_of_getElem? (i := 769) (by decide +kernel), List.mem_of_getElem? (i := 770) (by decide +kernel)⟩
theorem lw_p34 : lw_okq (⟨"HuskYardModel", "endOf", "(IZ)I"⟩, 36) := ⟨⟨by decide +kernel, by decide +kernel⟩, List.mem_of_getElem? (i := 570) (by decide +kernel), List.mem_of_getElem? (i := 774) (by decide +kernel), List.mem_of_getElem? (i := 775) (by decide +kernel)⟩
theorem lw_p35 : lw_okq (⟨"HuskYardModel", "nextRow", "()Z"⟩, 36) := ⟨⟨by decide +kernel, by decide +kernel⟩, List.mem_of_getElem? (i := 570) (by decide +kernel), List.mem_of_getElem? (i := 778) (by decide +kernel), List.mem_of_getElem? (i := 779) (by decide +kernel)⟩
theorem lw_p36 : lw_okq (⟨"HuskYardModel", "swaps", "(II)V"⟩, 36) := ⟨⟨by decide +kernel, by decide +kernel⟩, List.mem_of_getElem? (i := 570) (by decide +kernel), List.mem_of_getElem? (i := 782) (by decide +kernel), List.mem_of_getElem? (i := 783) (by decide +kernel)⟩
theorem lw_p37 : lw_okq (⟨"HuskYardModel", "lays", "()I"⟩, 36) := ⟨⟨by decide +kernel, by decide +kernel⟩, List.mem_of_getElem? (i := 570) (by decide +kernel), List.mem_of_getElem? (i := 806) (by decide +kernel), List.mem_of_getElem? (i := 807) (by decide +kernel)⟩
theorem lw_p38 : lw_okq (⟨"HuskYardModel", "openedBy", "(I)I"⟩, 36) := ⟨⟨by decide +kernel, by decide +kernel⟩, List.mem_of_getElem? (i := 570) (by decide +kernel), List.mem_of_getElem? (i := 810) (by decide +kernel), List.mem_of_getElem? (i := 811) (by decide +kernel)⟩
theorem lw_p39 : lw_okq (⟨"HuskYardModel", "cutOf", "(II)I"⟩, 36) := ⟨⟨by decide +kernel, by decide +kernel⟩, List.mem_of_getElem? (i := 570) (by decide +kernel), List.mem_of_getElem? (i := 814) (by decide +kernel), List.mem_of_getElem? (i := 815) (by decide +kernel)⟩
theorem lw_p40 : lw_okq (⟨"HuskYardModel", "mayLie", "(I)Z"⟩, 36) := ⟨⟨by decide +kernel, by decide +kernel⟩, List.mem_of_getElem? (i := 570) (by decide +kernel), List.mem_of_getElem? (i := 818) (by decide +kernel), List.mem_of_getElem? (i := 819) (by decide +kernel)⟩
def lw_privs_3 : List (MethodName × Nat) := [(⟨"HuskYardModel", "weeksLeft", "(I)I"⟩, 36), (⟨"HuskYardModel", "spins", "()I"⟩, 36), (⟨"HuskYardModel", "endOf", "(IZ)I"⟩, 36), (⟨"HuskYardModel", "nextRow", "()Z"⟩, 36), (⟨"HuskYardModel", "swaps", "(II)V"⟩, 36), (⟨"HuskYardModel", "lays", "()I"⟩, 36), (⟨"HuskYardModel", "openedBy", "(I)I"⟩, 36), (⟨"HuskYardModel", "cutOf", "(II)I"⟩, 36), (⟨"HuskYardModel", "mayLie", "(I)Z"⟩, 36)]
theorem lw_r3 : ∀ q ∈ lw_privs_3, lw_okq q := List.forall_mem_cons.mpr ⟨lw_p32, List.forall_mem_cons.mpr ⟨lw_p33, List.forall_mem_cons.mpr ⟨lw_p34, List.forall_mem_cons.mpr ⟨lw_p35, List.forall_mem_cons.mpr ⟨lw_p36, List.forall_mem_cons.mpr ⟨lw_p37, List.forall_mem_cons.mpr ⟨lw_p38, List.forall_mem_cons.mpr ⟨lw_p39, List.forall_mem_cons.mpr ⟨lw_p40, fun _ h => absurd h List.not_mem_nil⟩⟩⟩⟩⟩⟩⟩⟩⟩
def lw_privs : List (MethodName × Nat) := lw_privs_1 ++ (lw_privs_2 ++ (lw_privs_3))
def lw_tbl : List Cond := k2_sels lw_privs ++ tables_1
theorem lw_privs_ok : ∀ q ∈ lw_privs, lw_okq q := by
  show ∀ q ∈ lw_privs_1 ++ (lw_privs_2 ++ (lw_privs_3)), lw_okq q
  exact List.forall_mem_append.mpr ⟨lw_r1, List.forall_mem_append.mpr ⟨lw_r2, lw_r3⟩⟩
-- ===== end of PART A; then your names; then what follows =====
end
section
/-! ===== BEGIN words of one list among another's, by their places ===== -/
theorem goodIn_r {big : List Cond} (ws : List Cond) (ps : List Nat) (hp : ws = ps.filterMap (fun i => big[i]?)) (h : ws.all goodWord = true) : GoodIn big ws := by
  intro w hw
  have h1 := List.all_eq_true.mp h w hw
  rw [hp] at hw
  obtain ⟨i, -, hi⟩ := List.mem_filterMap.mp hw
  have hm : w ∈ big := by first | exact List.mem_of_getElem? hi | exact List.getElem?_mem hi
  exact ⟨hm, good_of_word h1⟩
theorem goodIn_app {big a b : List Cond} (ha : GoodIn big a) (hb : GoodIn big b) : GoodIn big (a ++ b) := fun w h => (List.mem_append.mp h).elim (ha w) (hb w)
theorem goodIn_ca {big a b : List Cond} {c : Cond} (ha : GoodIn big (c :: a)) (hb : GoodIn big b) : GoodIn big (c :: (a ++ b)) := fun w h => (List.mem_cons.mp h).elim (fun e => ha w (List.mem_cons.mpr (Or.inl e))) (fun h => (List.mem_append.mp h).elim (fun h => ha w (List.mem_cons.mpr (Or.inr h))) (hb w))
theorem goodIn_sub {big ws : List Cond} (hm : ∀ w ∈ ws, w ∈ big) (h : ws.all goodWord = true) : GoodIn big ws := fun w hw => ⟨hm w hw, good_of_word (List.all_eq_true.mp h w hw)⟩
/-! ===== END ===== -/

/-! ===== BEGIN printed: names, fields, word lists, decode rows ===== -/
def RX0 : String := "HuskYard$Finds"
def TX0 : u_T := fun k => match k with
  | 0 => ("HuskYard$Finds", "fits", "[I", true)
  | 1 => ("HuskYard$Finds", "sureNets", "[I", true)
  | _ => ("HuskYard$Finds", "count", "I", false)
def tyX0 : Nat → FieldType := fun k => match k with
  | 0 => .array .int
  | 1 => .array .int
  | _ => .int
abbrev wsX00 : List Cond := u_ws RX0 TX0 3
theorem nmX0 : ∀ a, a < 3 → ∀ b, b < 3 → a ≠ b → (TX0 a).2.1 ≠ (TX0 b).2.1 := by decide +kernel
theorem tyX0_ok : ∀ k, k < 3 → parseFieldDescriptor (TX0 k).2.2.1 = some (tyX0 k) := by decide +kernel
abbrev cX0_init : ByteArray := prog_2_method_1_code
def yX0_init : MethodName := ⟨RX0, "<init>", "()V"⟩
abbrev cX0_count : ByteArray := prog_2_method_2_code
def yX0_count : MethodName := ⟨RX0, "count", "()I"⟩
abbrev cX0_tell : ByteArray := prog_2_method_3_code
def yX0_tell : MethodName := ⟨RX0, "tell", "(I)I"⟩
abbrev cX0_howManyFit : ByteArray := prog_2_method_4_code
def yX0_howManyFit : MethodName := ⟨RX0, "howManyFit", "(I)I"⟩
abbrev cX0_sureNet : ByteArray := prog_2_method_5_code
def yX0_sureNet : MethodName := ⟨RX0, "sureNet", "(I)I"⟩
abbrev cX0_sureFind : ByteArray := prog_2_method_6_code
def yX0_sureFind : MethodName := ⟨RX0, "sureFind", "(I)I"⟩
abbrev cX0_hasWay : ByteArray := prog_2_method_7_code
def yX0_hasWay : MethodName := ⟨RX0, "hasWay", "(I)Z"⟩
abbrev cX0_reachable : ByteArray := prog_2_method_8_code
def yX0_reachable : MethodName := ⟨RX0, "reachable", "(I)I"⟩
abbrev cX0_fittedBy : ByteArray := prog_2_method_9_code
def yX0_fittedBy : MethodName := ⟨RX0, "fittedBy", "(I)I"⟩
abbrev cX0_onlyOne : ByteArray := prog_2_method_10_code
def yX0_onlyOne : MethodName := ⟨RX0, "onlyOne", "(I)I"⟩
abbrev cX0_isFind : ByteArray := prog_2_method_11_code
def yX0_isFind : MethodName := ⟨RX0, "isFind", "(I)Z"⟩
def RX1 : String := "HuskYard$MatRoom"
def TX1 : u_T := fun k => match k with
  | 0 => ("HuskYard$MatRoom", "rollLengths", "[I", true)
  | 1 => ("HuskYard$MatRoom", "rollLots", "[I", true)
  | 2 => ("HuskYard$MatRoom", "cutLengths", "[I", true)
  | 3 => ("HuskYard$MatRoom", "cutMats", "[I", true)
  | 4 => ("HuskYard$MatRoom", "rollOf", "[I", true)
  | 5 => ("HuskYard$MatRoom", "lengthOfSet", "[I", true)
  | 6 => ("HuskYard$MatRoom", "packed", "[I", true)
  | 7 => ("HuskYard$MatRoom", "joined", "[I", true)
  | 8 => ("HuskYard$MatRoom", "rolls", "I", false)
  | 9 => ("HuskYard$MatRoom", "cuts", "I", false)
  | 10 => ("HuskYard$MatRoom", "least", "I", false)
  | _ => ("HuskYard$MatRoom", "laid", "Z", false)
def tyX1 : Nat → FieldType := fun k => match k with
  | 0 => .array .int
  | 1 => .array .int
  | 2 => .array .int
  | 3 => .array .int
  | 4 => .array .int
  | 5 => .array .int
  | 6 => .array .int
  | 7 => .array .int
  | 8 => .int
  | 9 => .int
  | 10 => .int
  | _ => .boolean
abbrev wsX10 : List Cond := u_ws RX1 TX1 12
theorem nmX1 : ∀ a, a < 12 → ∀ b, b < 12 → a ≠ b → (TX1 a).2.1 ≠ (TX1 b).2.1 := by decide +kernel
theorem tyX1_ok : ∀ k, k < 12 → parseFieldDescriptor (TX1 k).2.2.1 = some (tyX1 k) := by decide +kernel
abbrev cX1_init : ByteArray := prog_3_method_1_code
def yX1_init : MethodName := ⟨RX1, "<init>", "()V"⟩
abbrev cX1_rollCount : ByteArray := prog_3_method_2_code
def yX1_rollCount : MethodName := ⟨RX1, "rollCount", "()I"⟩
abbrev cX1_cutCount : ByteArray := prog_3_method_3_code
def yX1_cutCount : MethodName := ⟨RX1, "cutCount", "()I"⟩
abbrev cX1_addRoll : ByteArray := prog_3_method_4_code
def yX1_addRoll : MethodName := ⟨RX1, "addRoll", "(II)I"⟩
abbrev cX1_addCut : ByteArray := prog_3_method_5_code
def yX1_addCut : MethodName := ⟨RX1, "addCut", "(II)I"⟩
abbrev cX1_dropAll : ByteArray := prog_3_method_6_code
def yX1_dropAll : MethodName := ⟨RX1, "dropAll", "()I"⟩
abbrev cX1_leastOpened : ByteArray := prog_3_method_7_code
def yX1_leastOpened : MethodName := ⟨RX1, "leastOpened", "()I"⟩
abbrev cX1_rollUnder : ByteArray := prog_3_method_8_code
def yX1_rollUnder : MethodName := ⟨RX1, "rollUnder", "(I)I"⟩
abbrev cX1_lay : ByteArray := prog_3_method_9_code
def yX1_lay : MethodName := ⟨RX1, "lay", "()V"⟩
abbrev cX1_measureSets : ByteArray := prog_3_method_10_code
def yX1_measureSets : MethodName := ⟨RX1, "measureSets", "()V"⟩
abbrev cX1_layOnLowestRoll : ByteArray := prog_3_method_11_code
def yX1_layOnLowestRoll : MethodName := ⟨RX1, "layOnLowestRoll", "(I)V"⟩
abbrev cX1_leastWith : ByteArray := prog_3_method_12_code
def yX1_leastWith : MethodName := ⟨RX1, "leastWith", "(I)I"⟩
abbrev cX1_usedOf : ByteArray := prog_3_method_13_code
def yX1_usedOf : MethodName := ⟨RX1, "usedOf", "(II)I"⟩
abbrev cX1_packLot : ByteArray := prog_3_method_14_code
def yX1_packLot : MethodName := ⟨RX1, "packLot", "(II)V"⟩
abbrev cX1_packRoll : ByteArray := prog_3_method_15_code
def yX1_packRoll : MethodName := ⟨RX1, "packRoll", "(IIII)V"⟩
abbrev cX1_joinLot : ByteArray := prog_3_method_16_code
def yX1_joinLot : MethodName := ⟨RX1, "joinLot", "(II)V"⟩
abbrev cX1_cutsToLay : ByteArray := prog_3_method_17_code
def yX1_cutsToLay : MethodName := ⟨RX1, "cutsToLay", "(III)I"⟩
def RX2 : String := "HuskYard$Nets"
def TX2 : u_T := fun k => match k with
  | 0 => ("HuskYard$Nets", "salts", "[I", true)
  | 1 => ("HuskYard$Nets", "rates", "[I", true)
  | 2 => ("HuskYard$Nets", "pits", "[I", true)
  | 3 => ("HuskYard$Nets", "marks", "[I", true)
  | 4 => ("HuskYard$Nets", "husks", "[I", true)
  | 5 => ("HuskYard$Nets", "ages", "[I", true)
  | 6 => ("HuskYard$Nets", "points", "[I", true)
  | 7 => ("HuskYard$Nets", "states", "[I", true)
  | 8 => ("HuskYard$Nets", "count", "I", false)
  | 9 => ("HuskYard$Nets", "week", "I", false)
  | _ => ("HuskYard$Nets", "ripeHusks", "I", false)
def tyX2 : Nat → FieldType := fun k => match k with
  | 0 => .array .int
  | 1 => .array .int
  | 2 => .array .int
  | 3 => .array .int
  | 4 => .array .int
  | 5 => .array .int
  | 6 => .array .int
  | 7 => .array .int
  | 8 => .int
  | 9 => .int
  | _ => .int
abbrev wsX20 : List Cond := u_ws RX2 TX2 11
theorem nmX2 : ∀ a, a < 11 → ∀ b, b < 11 → a ≠ b → (TX2 a).2.1 ≠ (TX2 b).2.1 := by decide +kernel
theorem tyX2_ok : ∀ k, k < 11 → parseFieldDescriptor (TX2 k).2.2.1 = some (tyX2 k) := by decide +kernel
abbrev cX2_init : ByteArray := prog_4_method_1_code
def yX2_init : MethodName := ⟨RX2, "<init>", "()V"⟩
abbrev cX2_count : ByteArray := prog_4_method_2_code
def yX2_count : MethodName := ⟨RX2, "count", "()I"⟩
abbrev cX2_clock : ByteArray := prog_4_method_3_code
def yX2_clock : MethodName := ⟨RX2, "clock", "()I"⟩
abbrev cX2_huskTotal : ByteArray := prog_4_method_4_code
def yX2_huskTotal : MethodName := ⟨RX2, "huskTotal", "()I"⟩
abbrev cX2_setSalt : ByteArray := prog_4_method_5_code
def yX2_setSalt : MethodName := ⟨RX2, "setSalt", "(II)Z"⟩
abbrev cX2_setRipens : ByteArray := prog_4_method_6_code
def yX2_setRipens : MethodName := ⟨RX2, "setRipens", "(II)Z"⟩
abbrev cX2_putIn : ByteArray := prog_4_method_7_code
def yX2_putIn : MethodName := ⟨RX2, "putIn", "(IIII)I"⟩
abbrev cX2_goBy : ByteArray := prog_4_method_8_code
def yX2_goBy : MethodName := ⟨RX2, "goBy", "(I)I"⟩
abbrev cX2_takeOut : ByteArray := prog_4_method_9_code
def yX2_takeOut : MethodName := ⟨RX2, "takeOut", "(I)I"⟩
abbrev cX2_floatOff : ByteArray := prog_4_method_10_code
def yX2_floatOff : MethodName := ⟨RX2, "floatOff", "(I)I"⟩
abbrev cX2_afloatWith : ByteArray := prog_4_method_11_code
def yX2_afloatWith : MethodName := ⟨RX2, "afloatWith", "(II)I"⟩
abbrev cX2_comeBack : ByteArray := prog_4_method_12_code
def yX2_comeBack : MethodName := ⟨RX2, "comeBack", "(I)V"⟩
abbrev cX2_countIn : ByteArray := prog_4_method_13_code
def yX2_countIn : MethodName := ⟨RX2, "countIn", "(I)I"⟩
abbrev cX2_tellOf : ByteArray := prog_4_method_14_code
def yX2_tellOf : MethodName := ⟨RX2, "tellOf", "(II)I"⟩
abbrev cX2_weeksToRipe : ByteArray := prog_4_method_15_code
def yX2_weeksToRipe : MethodName := ⟨RX2, "weeksToRipe", "(I)I"⟩
abbrev cX2_rateAt : ByteArray := prog_4_method_16_code
def yX2_rateAt : MethodName := ⟨RX2, "rateAt", "(I)I"⟩
abbrev cX2_isRipe : ByteArray := prog_4_method_17_code
def yX2_isRipe : MethodName := ⟨RX2, "isRipe", "(I)Z"⟩
abbrev cX2_isNet : ByteArray := prog_4_method_18_code
def yX2_isNet : MethodName := ⟨RX2, "isNet", "(I)Z"⟩
abbrev cX2_isPit : ByteArray := prog_4_method_19_code
def yX2_isPit : MethodName := ⟨RX2, "isPit", "(I)Z"⟩
def RX3 : String := "HuskYard$Scale"
def TX3 : u_T := fun k => match k with
  | 0 => ("HuskYard$Scale", "low", "I", false)
  | 1 => ("HuskYard$Scale", "high", "I", false)
  | _ => ("HuskYard$Scale", "count", "I", false)
def tyX3 : Nat → FieldType := fun k => match k with
  | 0 => .int
  | 1 => .int
  | _ => .int
abbrev wsX30 : List Cond := u_ws RX3 TX3 3
theorem nmX3 : ∀ a, a < 3 → ∀ b, b < 3 → a ≠ b → (TX3 a).2.1 ≠ (TX3 b).2.1 := by decide +kernel
theorem tyX3_ok : ∀ k, k < 3 → parseFieldDescriptor (TX3 k).2.2.1 = some (tyX3 k) := by decide +kernel
abbrev cX3_init : ByteArray := prog_5_method_1_code
def yX3_init : MethodName := ⟨RX3, "<init>", "()V"⟩
abbrev cX3_count : ByteArray := prog_5_method_2_code
def yX3_count : MethodName := ⟨RX3, "count", "()I"⟩
abbrev cX3_bound : ByteArray := prog_5_method_3_code
def yX3_bound : MethodName := ⟨RX3, "bound", "(Z)I"⟩
abbrev cX3_tell : ByteArray := prog_5_method_4_code
def yX3_tell : MethodName := ⟨RX3, "tell", "(II)I"⟩
abbrev cX3_weightFor : ByteArray := prog_5_method_5_code
def yX3_weightFor : MethodName := ⟨RX3, "weightFor", "(IZ)I"⟩
abbrev cX3_leastWeight : ByteArray := prog_5_method_6_code
def yX3_leastWeight : MethodName := ⟨RX3, "leastWeight", "(I)I"⟩
abbrev cX3_greatestWeight : ByteArray := prog_5_method_7_code
def yX3_greatestWeight : MethodName := ⟨RX3, "greatestWeight", "(I)I"⟩
abbrev cX3_readBy : ByteArray := prog_5_method_8_code
def yX3_readBy : MethodName := ⟨RX3, "readBy", "(II)I"⟩
abbrev cX3_isReadSo : ByteArray := prog_5_method_9_code
def yX3_isReadSo : MethodName := ⟨RX3, "isReadSo", "(III)Z"⟩
abbrev cX3_weightsBelow : ByteArray := prog_5_method_10_code
def yX3_weightsBelow : MethodName := ⟨RX3, "weightsBelow", "(II)I"⟩
def RX4 : String := "HuskYard$SpinYard"
def TX4 : u_T := fun k => match k with
  | 0 => ("HuskYard$SpinYard", "sorts", "[I", true)
  | 1 => ("HuskYard$SpinYard", "hours", "[I", true)
  | 2 => ("HuskYard$SpinYard", "dues", "[I", true)
  | 3 => ("HuskYard$SpinYard", "worths", "[I", true)
  | 4 => ("HuskYard$SpinYard", "row", "[I", true)
  | 5 => ("HuskYard$SpinYard", "best", "[I", true)
  | 6 => ("HuskYard$SpinYard", "count", "I", false)
  | 7 => ("HuskYard$SpinYard", "changeHours", "I", false)
  | 8 => ("HuskYard$SpinYard", "bestLate", "I", false)
  | _ => ("HuskYard$SpinYard", "planned", "Z", false)
def tyX4 : Nat → FieldType := fun k => match k with
  | 0 => .array .int
  | 1 => .array .int
  | 2 => .array .int
  | 3 => .array .int
  | 4 => .array .int
  | 5 => .array .int
  | 6 => .int
  | 7 => .int
  | 8 => .int
  | _ => .boolean
abbrev wsX40 : List Cond := u_ws RX4 TX4 10
theorem nmX4 : ∀ a, a < 10 → ∀ b, b < 10 → a ≠ b → (TX4 a).2.1 ≠ (TX4 b).2.1 := by decide +kernel
theorem tyX4_ok : ∀ k, k < 10 → parseFieldDescriptor (TX4 k).2.2.1 = some (tyX4 k) := by decide +kernel
abbrev cX4_init : ByteArray := prog_6_method_1_code
def yX4_init : MethodName := ⟨RX4, "<init>", "()V"⟩
abbrev cX4_count : ByteArray := prog_6_method_2_code
def yX4_count : MethodName := ⟨RX4, "count", "()I"⟩
abbrev cX4_take : ByteArray := prog_6_method_3_code
def yX4_take : MethodName := ⟨RX4, "take", "(IIII)I"⟩
abbrev cX4_setChange : ByteArray := prog_6_method_4_code
def yX4_setChange : MethodName := ⟨RX4, "setChange", "(I)Z"⟩
abbrev cX4_dropOrders : ByteArray := prog_6_method_5_code
def yX4_dropOrders : MethodName := ⟨RX4, "dropOrders", "()I"⟩
abbrev cX4_leastLate : ByteArray := prog_6_method_6_code
def yX4_leastLate : MethodName := ⟨RX4, "leastLate", "()I"⟩
abbrev cX4_orderAt : ByteArray := prog_6_method_7_code
def yX4_orderAt : MethodName := ⟨RX4, "orderAt", "(I)I"⟩
abbrev cX4_endAt : ByteArray := prog_6_method_8_code
def yX4_endAt : MethodName := ⟨RX4, "endAt", "(I)I"⟩
abbrev cX4_plan : ByteArray := prog_6_method_9_code
def yX4_plan : MethodName := ⟨RX4, "plan", "()V"⟩
abbrev cX4_tryPlace : ByteArray := prog_6_method_10_code
def yX4_tryPlace : MethodName := ⟨RX4, "tryPlace", "(IIIII)V"⟩
abbrev cX4_tryRest : ByteArray := prog_6_method_11_code
def yX4_tryRest : MethodName := ⟨RX4, "tryRest", "(IIIII)V"⟩
abbrev cX4_keepRow : ByteArray := prog_6_method_12_code
def yX4_keepRow : MethodName := ⟨RX4, "keepRow", "(I)V"⟩
abbrev cX4_endOf : ByteArray := prog_6_method_13_code
def yX4_endOf : MethodName := ⟨RX4, "endOf", "(III)I"⟩
def RX5 : String := "HuskYard"
def TX5 : u_T := fun k => match k with
  | 0 => ("HuskYard", "nets", "LHuskYard$Nets;", true)
  | 1 => ("HuskYard", "finds", "LHuskYard$Finds;", true)
  | 2 => ("HuskYard", "spinYard", "LHuskYard$SpinYard;", true)
  | 3 => ("HuskYard", "matRoom", "LHuskYard$MatRoom;", true)
  | _ => ("HuskYard", "scale", "LHuskYard$Scale;", true)
def tyX5 : Nat → FieldType := fun k => match k with
  | 0 => .object "HuskYard$Nets"
  | 1 => .object "HuskYard$Finds"
  | 2 => .object "HuskYard$SpinYard"
  | 3 => .object "HuskYard$MatRoom"
  | _ => .object "HuskYard$Scale"
abbrev wsX50 : List Cond := u_ws RX5 TX5 5
theorem nmX5 : ∀ a, a < 5 → ∀ b, b < 5 → a ≠ b → (TX5 a).2.1 ≠ (TX5 b).2.1 := by decide +kernel
theorem tyX5_ok : ∀ k, k < 5 → parseFieldDescriptor (TX5 k).2.2.1 = some (tyX5 k) := by decide +kernel
abbrev cX5_init : ByteArray := prog_1_method_1_code
def yX5_init : MethodName := ⟨RX5, "<init>", "()V"⟩
abbrev cX5_salt : ByteArray := prog_1_method_2_code
def yX5_salt : MethodName := ⟨RX5, "salt", "(II)Z"⟩
abbrev cX5_ripens : ByteArray := prog_1_method_3_code
def yX5_ripens : MethodName := ⟨RX5, "ripens", "(II)Z"⟩
abbrev cX5_net : ByteArray := prog_1_method_4_code
def yX5_net : MethodName := ⟨RX5, "net", "(IIII)I"⟩
abbrev cX5_weeks : ByteArray := prog_1_method_5_code
def yX5_weeks : MethodName := ⟨RX5, "weeks", "(I)I"⟩
abbrev cX5_pull : ByteArray := prog_1_method_6_code
def yX5_pull : MethodName := ⟨RX5, "pull", "(I)I"⟩
abbrev cX5_flood : ByteArray := prog_1_method_7_code
def yX5_flood : MethodName := ⟨RX5, "flood", "(I)I"⟩
abbrev cX5_find : ByteArray := prog_1_method_8_code
def yX5_find : MethodName := ⟨RX5, "find", "(II)I"⟩
abbrev cX5_found : ByteArray := prog_1_method_9_code
def yX5_found : MethodName := ⟨RX5, "found", "(II)I"⟩
abbrev cX5_netOf : ByteArray := prog_1_method_10_code
def yX5_netOf : MethodName := ⟨RX5, "netOf", "(II)I"⟩
abbrev cX5_order : ByteArray := prog_1_method_11_code
def yX5_order : MethodName := ⟨RX5, "order", "(IIII)I"⟩
abbrev cX5_change : ByteArray := prog_1_method_12_code
def yX5_change : MethodName := ⟨RX5, "change", "(I)Z"⟩
abbrev cX5_late : ByteArray := prog_1_method_13_code
def yX5_late : MethodName := ⟨RX5, "late", "()I"⟩
abbrev cX5_spun : ByteArray := prog_1_method_14_code
def yX5_spun : MethodName := ⟨RX5, "spun", "(II)I"⟩
abbrev cX5_clear : ByteArray := prog_1_method_15_code
def yX5_clear : MethodName := ⟨RX5, "clear", "()I"⟩
abbrev cX5_roll : ByteArray := prog_1_method_16_code
def yX5_roll : MethodName := ⟨RX5, "roll", "(II)I"⟩
abbrev cX5_cut : ByteArray := prog_1_method_17_code
def yX5_cut : MethodName := ⟨RX5, "cut", "(II)I"⟩
abbrev cX5_opened : ByteArray := prog_1_method_18_code
def yX5_opened : MethodName := ⟨RX5, "opened", "()I"⟩
abbrev cX5_from : ByteArray := prog_1_method_19_code
def yX5_from : MethodName := ⟨RX5, "from", "(I)I"⟩
abbrev cX5_away : ByteArray := prog_1_method_20_code
def yX5_away : MethodName := ⟨RX5, "away", "()I"⟩
abbrev cX5_reading : ByteArray := prog_1_method_21_code
def yX5_reading : MethodName := ⟨RX5, "reading", "(II)I"⟩
abbrev cX5_errs : ByteArray := prog_1_method_22_code
def yX5_errs : MethodName := ⟨RX5, "errs", "(Z)I"⟩
abbrev cX5_back : ByteArray := prog_1_method_23_code
def yX5_back : MethodName := ⟨RX5, "back", "(IZ)I"⟩
abbrev cX5_about : ByteArray := prog_1_method_24_code
def yX5_about : MethodName := ⟨RX5, "about", "(I)I"⟩
abbrev cX5_bringBackTheSure : ByteArray := prog_1_method_25_code
def yX5_bringBackTheSure : MethodName := ⟨RX5, "bringBackTheSure", "()V"⟩
abbrev cX5_isMarks : ByteArray := prog_1_method_26_code
def yX5_isMarks : MethodName := ⟨RX5, "isMarks", "(I)Z"⟩
abbrev cX5_within : ByteArray := prog_1_method_27_code
def yX5_within : MethodName := ⟨RX5, "within", "(III)Z"⟩
def RX6 : String := "HuskYardModel"
def TX6 : u_T := fun k => match k with
  | 0 => ("HuskYardModel", "clock", "I", false)
  | 1 => ("HuskYardModel", "salt", "[I", true)
  | 2 => ("HuskYardModel", "ripens", "[I", true)
  | 3 => ("HuskYardModel", "nets", "I", false)
  | 4 => ("HuskYardModel", "pit", "[I", true)
  | 5 => ("HuskYardModel", "marks", "[I", true)
  | 6 => ("HuskYardModel", "husks", "[I", true)
  | 7 => ("HuskYardModel", "age", "[I", true)
  | 8 => ("HuskYardModel", "points", "[I", true)
  | 9 => ("HuskYardModel", "state", "[I", true)
  | 10 => ("HuskYardModel", "finds", "I", false)
  | 11 => ("HuskYardModel", "fitting", "[I", true)
  | 12 => ("HuskYardModel", "isKnown", "Z", false)
  | 13 => ("HuskYardModel", "sureOf", "[I", true)
  | 14 => ("HuskYardModel", "pulled", "I", false)
  | 15 => ("HuskYardModel", "orders", "I", false)
  | 16 => ("HuskYardModel", "sort", "[I", true)
  | 17 => ("HuskYardModel", "hours", "[I", true)
  | 18 => ("HuskYardModel", "due", "[I", true)
  | 19 => ("HuskYardModel", "worth", "[I", true)
  | 20 => ("HuskYardModel", "change", "I", false)
  | 21 => ("HuskYardModel", "rolls", "I", false)
  | 22 => ("HuskYardModel", "length", "[I", true)
  | 23 => ("HuskYardModel", "lot", "[I", true)
  | 24 => ("HuskYardModel", "cuts", "I", false)
  | 25 => ("HuskYardModel", "cutLength", "[I", true)
  | 26 => ("HuskYardModel", "mat", "[I", true)
  | 27 => ("HuskYardModel", "readings", "I", false)
  | 28 => ("HuskYardModel", "lowest", "I", false)
  | 29 => ("HuskYardModel", "highest", "I", false)
  | 30 => ("HuskYardModel", "can", "[Z", true)
  | 31 => ("HuskYardModel", "row", "[I", true)
  | 32 => ("HuskYardModel", "best", "[I", true)
  | 33 => ("HuskYardModel", "lateness", "I", false)
  | 34 => ("HuskYardModel", "from", "[I", true)
  | _ => ("HuskYardModel", "least", "[I", true)
def tyX6 : Nat → FieldType := fun k => match k with
  | 0 => .int
  | 1 => .array .int
  | 2 => .array .int
  | 3 => .int
  | 4 => .array .int
  | 5 => .array .int
  | 6 => .array .int
  | 7 => .array .int
  | 8 => .array .int
  | 9 => .array .int
  | 10 => .int
  | 11 => .array .int
  | 12 => .boolean
  | 13 => .array .int
  | 14 => .int
  | 15 => .int
  | 16 => .array .int
  | 17 => .array .int
  | 18 => .array .int
  | 19 => .array .int
  | 20 => .int
  | 21 => .int
  | 22 => .array .int
  | 23 => .array .int
  | 24 => .int
  | 25 => .array .int
  | 26 => .array .int
  | 27 => .int
  | 28 => .int
  | 29 => .int
  | 30 => .array .boolean
  | 31 => .array .int
  | 32 => .array .int
  | 33 => .int
  | 34 => .array .int
  | _ => .array .int
abbrev wsX60 : List Cond := u_ws RX6 TX6 36
theorem nmX6 : ∀ a, a < 36 → ∀ b, b < 36 → a ≠ b → (TX6 a).2.1 ≠ (TX6 b).2.1 := by decide +kernel
theorem tyX6_ok : ∀ k, k < 36 → parseFieldDescriptor (TX6 k).2.2.1 = some (tyX6 k) := by decide +kernel
abbrev cX6_init : ByteArray := prog_8_method_1_code
def yX6_init : MethodName := ⟨RX6, "<init>", "()V"⟩
abbrev cX6_in : ByteArray := prog_8_method_2_code
def yX6_in : MethodName := ⟨RX6, "in", "(III)Z"⟩
abbrev cX6_isNet : ByteArray := prog_8_method_3_code
def yX6_isNet : MethodName := ⟨RX6, "isNet", "(I)Z"⟩
abbrev cX6_salt : ByteArray := prog_8_method_4_code
def yX6_salt : MethodName := ⟨RX6, "salt", "(II)Z"⟩
abbrev cX6_ripens : ByteArray := prog_8_method_5_code
def yX6_ripens : MethodName := ⟨RX6, "ripens", "(II)Z"⟩
abbrev cX6_net : ByteArray := prog_8_method_6_code
def yX6_net : MethodName := ⟨RX6, "net", "(IIII)I"⟩
abbrev cX6_weeks : ByteArray := prog_8_method_7_code
def yX6_weeks : MethodName := ⟨RX6, "weeks", "(I)I"⟩
abbrev cX6_fits : ByteArray := prog_8_method_8_code
def yX6_fits : MethodName := ⟨RX6, "fits", "(II)Z"⟩
abbrev cX6_isWay : ByteArray := prog_8_method_9_code
def yX6_isWay : MethodName := ⟨RX6, "isWay", "(II)Z"⟩
abbrev cX6_knows : ByteArray := prog_8_method_10_code
def yX6_knows : MethodName := ⟨RX6, "knows", "()V"⟩
abbrev cX6_findOf : ByteArray := prog_8_method_11_code
def yX6_findOf : MethodName := ⟨RX6, "findOf", "(I)I"⟩
abbrev cX6_stateOf : ByteArray := prog_8_method_12_code
def yX6_stateOf : MethodName := ⟨RX6, "stateOf", "(I)I"⟩
abbrev cX6_isRipe : ByteArray := prog_8_method_13_code
def yX6_isRipe : MethodName := ⟨RX6, "isRipe", "(I)Z"⟩
abbrev cX6_pull : ByteArray := prog_8_method_14_code
def yX6_pull : MethodName := ⟨RX6, "pull", "(I)I"⟩
abbrev cX6_flood : ByteArray := prog_8_method_15_code
def yX6_flood : MethodName := ⟨RX6, "flood", "(I)I"⟩
abbrev cX6_find : ByteArray := prog_8_method_16_code
def yX6_find : MethodName := ⟨RX6, "find", "(II)I"⟩
abbrev cX6_found : ByteArray := prog_8_method_17_code
def yX6_found : MethodName := ⟨RX6, "found", "(II)I"⟩
abbrev cX6_weeksLeft : ByteArray := prog_8_method_18_code
def yX6_weeksLeft : MethodName := ⟨RX6, "weeksLeft", "(I)I"⟩
abbrev cX6_netOf : ByteArray := prog_8_method_19_code
def yX6_netOf : MethodName := ⟨RX6, "netOf", "(II)I"⟩
abbrev cX6_order : ByteArray := prog_8_method_20_code
def yX6_order : MethodName := ⟨RX6, "order", "(IIII)I"⟩
abbrev cX6_change : ByteArray := prog_8_method_21_code
def yX6_change : MethodName := ⟨RX6, "change", "(I)Z"⟩
abbrev cX6_endOf : ByteArray := prog_8_method_22_code
def yX6_endOf : MethodName := ⟨RX6, "endOf", "(IZ)I"⟩
abbrev cX6_nextRow : ByteArray := prog_8_method_23_code
def yX6_nextRow : MethodName := ⟨RX6, "nextRow", "()Z"⟩
abbrev cX6_swaps : ByteArray := prog_8_method_24_code
def yX6_swaps : MethodName := ⟨RX6, "swaps", "(II)V"⟩
abbrev cX6_spins : ByteArray := prog_8_method_25_code
def yX6_spins : MethodName := ⟨RX6, "spins", "()I"⟩
abbrev cX6_late : ByteArray := prog_8_method_26_code
def yX6_late : MethodName := ⟨RX6, "late", "()I"⟩
abbrev cX6_spun : ByteArray := prog_8_method_27_code
def yX6_spun : MethodName := ⟨RX6, "spun", "(II)I"⟩
abbrev cX6_clear : ByteArray := prog_8_method_28_code
def yX6_clear : MethodName := ⟨RX6, "clear", "()I"⟩
abbrev cX6_roll : ByteArray := prog_8_method_29_code
def yX6_roll : MethodName := ⟨RX6, "roll", "(II)I"⟩
abbrev cX6_cut : ByteArray := prog_8_method_30_code
def yX6_cut : MethodName := ⟨RX6, "cut", "(II)I"⟩
abbrev cX6_cutOf : ByteArray := prog_8_method_31_code
def yX6_cutOf : MethodName := ⟨RX6, "cutOf", "(II)I"⟩
abbrev cX6_openedBy : ByteArray := prog_8_method_32_code
def yX6_openedBy : MethodName := ⟨RX6, "openedBy", "(I)I"⟩
abbrev cX6_mayLie : ByteArray := prog_8_method_33_code
def yX6_mayLie : MethodName := ⟨RX6, "mayLie", "(I)Z"⟩
abbrev cX6_lays : ByteArray := prog_8_method_34_code
def yX6_lays : MethodName := ⟨RX6, "lays", "()I"⟩
abbrev cX6_opened : ByteArray := prog_8_method_35_code
def yX6_opened : MethodName := ⟨RX6, "opened", "()I"⟩
abbrev cX6_from : ByteArray := prog_8_method_36_code
def yX6_from : MethodName := ⟨RX6, "from", "(I)I"⟩
abbrev cX6_away : ByteArray := prog_8_method_37_code
def yX6_away : MethodName := ⟨RX6, "away", "()I"⟩
abbrev cX6_reads : ByteArray := prog_8_method_38_code
def yX6_reads : MethodName := ⟨RX6, "reads", "(II)I"⟩
abbrev cX6_reading : ByteArray := prog_8_method_39_code
def yX6_reading : MethodName := ⟨RX6, "reading", "(II)I"⟩
abbrev cX6_errs : ByteArray := prog_8_method_40_code
def yX6_errs : MethodName := ⟨RX6, "errs", "(Z)I"⟩
abbrev cX6_back : ByteArray := prog_8_method_41_code
def yX6_back : MethodName := ⟨RX6, "back", "(IZ)I"⟩
abbrev cX6_about : ByteArray := prog_8_method_42_code
def yX6_about : MethodName := ⟨RX6, "about", "(I)I"⟩
def RJ6 : String := "java/lang/Integer"
def TJ6 : u_T := fun k => match k with
  | _ => ("", "", "", false)
def tyJ6 : Nat → FieldType := fun k => match k with
  | _ => .int
abbrev wsJ60 : List Cond := u_ws RJ6 TJ6 0
theorem nmJ6 : ∀ a, a < 0 → ∀ b, b < 0 → a ≠ b → (TJ6 a).2.1 ≠ (TJ6 b).2.1 := by decide +kernel
theorem tyJ6_ok : ∀ k, k < 0 → parseFieldDescriptor (TJ6 k).2.2.1 = some (tyJ6 k) := by decide +kernel
abbrev cJ6_numberOfTrailingZeros_0f7a4 : ByteArray := prog_9_method_48_code
def yJ6_numberOfTrailingZeros_0f7a4 : MethodName := ⟨RJ6, "numberOfTrailingZeros", "(I)I"⟩
abbrev cJ6_bitCount_0f7a4 : ByteArray := prog_9_method_49_code
def yJ6_bitCount_0f7a4 : MethodName := ⟨RJ6, "bitCount", "(I)I"⟩
def RJ9 : String := "java/lang/Math"
def TJ9 : u_T := fun k => match k with
  | _ => ("", "", "", false)
def tyJ9 : Nat → FieldType := fun k => match k with
  | _ => .int
abbrev wsJ90 : List Cond := u_ws RJ9 TJ9 0
theorem nmJ9 : ∀ a, a < 0 → ∀ b, b < 0 → a ≠ b → (TJ9 a).2.1 ≠ (TJ9 b).2.1 := by decide +kernel
theorem tyJ9_ok : ∀ k, k < 0 → parseFieldDescriptor (TJ9 k).2.2.1 = some (tyJ9 k) := by decide +kernel
abbrev cJ9_max_7cf53 : ByteArray := prog_10_method_65_code
def yJ9_max_7cf53 : MethodName := ⟨RJ9, "max", "(II)I"⟩
abbrev cJ9_min_7cf53 : ByteArray := prog_10_method_69_code
def yJ9_min_7cf53 : MethodName := ⟨RJ9, "min", "(II)I"⟩
def RL : String := "HuskYardLaw"
abbrev cL_law : ByteArray := code
def yL_law : MethodName := ⟨RL, "law", "([I)Z"⟩
abbrev vwCl : List vw_C := [(RX0, TX0, 3), (RX1, TX1, 12), (RX2, TX2, 11), (RX3, TX3, 3), (RX4, TX4, 10), (RX5, TX5, 5), (RX6, TX6, 36)]
end
section
/-! A pure machine over worlds of cells that are known by their places: values, cells, worlds, frames, methods, linked instructions. -/
abbrev hyV : Type := Int32 ⊕ (Nat ⊕ Bool)
abbrev hyC : Type := (Bool × Nat × (Nat → Int32)) ⊕ (Nat × List hyV)
abbrev hyW : Type := List hyC
abbrev hyL : Type := List (Option hyV)
abbrev hyF : Type := Nat × hyL × List hyV × hyW
abbrev hyM : Type := MethodName × ByteArray × Nat × Option FieldType
abbrev hyE : Type := Instr × Nat × Nat × Nat × Nat × Nat × Int32 × Option hyM × List (Int × Nat)
abbrev hyT : Type := List (List (Nat × hyE))
abbrev hyQ : Type := Option Int32 → hyW → Prop
abbrev hyP : Type := Nat → Option (Nat × (List Int32 → Int32))
abbrev hyS : Type := Option (Nat × (Nat → Int32))
abbrev hy_i (x : Int32) : hyV := .inl x
abbrev hy_r (k : Nat) : hyV := .inr (.inl k)
def hy_tt : List Cond := lw_tbl.filter goodWord
def hy_isN : Cond → Bool
  | .methodLinkNest .. => true
  | _ => false
def hy_nw : List Cond := lw_tbl.filter hy_isN
def hy_ws (M : hyM) : List Cond := .code M.1 M.2.1 M.2.2.1 M.2.2.2 :: hy_tt
def hy_rm (d kc ks : Nat) : Room := { frames := d, cells := kc, slots := ks, locals := 40 * (d + 1) }
def hy_v (b : Nat) (ρ : Nat → Nat) : hyV → Value
  | .inl x => .int x
  | .inr (.inl k) => .ref (ρ k)
  | .inr (.inr false) => .null
  | .inr (.inr true) => .ref b
def hy_c (b : Nat) (ρ : Nat → Nat) (κ : Nat → ClassId) (k : Nat) : hyC → va_E
  | .inl (_, n, f) => .inl (κ k, n, .inl f)
  | .inr (ci, fs) => .inr (ci, fs.map (hy_v b ρ))
def hy_w (b : Nat) (ρ : Nat → Nat) (κ : Nat → ClassId) (w : hyW) : va_W := w.mapIdx (fun k c => (ρ k, hy_c b ρ κ k c))
def hy_ty (t : Bool) : FieldType := match t with
  | true => .boolean
  | false => .int
def hy_K (dC : Nat → ClassId) (dI : Nat → Nat → Nat) (κ : Nat → ClassId) (w : hyW) (U : State) : Prop :=
  va_K (dC, dI) vwCl [] U ∧ ∀ (k : Nat) (t : Bool) (n : Nat) (f : Nat → Int32), w[k]? = some (.inl (t, n, f)) → va_K (dC, dI) vwCl [(κ k, hy_ty t)] U
def hy_U (dC : Nat → ClassId) (dI : Nat → Nat → Nat) (b : Nat) (ρ : Nat → Nat) (κ : Nat → ClassId) (A : Nat → Prop) (w : hyW) (U : State) (H : Heap) : Prop :=
  va_P (dC, dI) vwCl (hy_w b ρ κ w) H ∧ va_D A (hy_w b ρ κ w) ∧ hy_K dC dI κ w U
def hy_ag (kc n n' : Nat) (ρ : Nat → Nat) (κ : Nat → ClassId) (ρ' : Nat → Nat) (κ' : Nat → ClassId) : Prop :=
  n ≤ n' ∧ (kc = 0 → ρ' = ρ ∧ κ' = κ) ∧ ∀ k, k < n → ρ' k = ρ k ∧ κ' k = κ k
abbrev hyG : Type := hyW × (Nat → Nat) × (Nat → ClassId)
def hy_Qc (ret : Option FieldType) (Q : hyQ) (kc : Nat) (w : hyW) (dC : Nat → ClassId) (dI : Nat → Nat → Nat) (b : Nat) (ρ : Nat → Nat) (κ : Nat → ClassId) (A : Nat → Prop) : Array Value → State → Outcome → State → Prop := match ret with
  | none => va_Qv (S := hyG) (fun u => Q none u.1 ∧ hy_ag kc w.length u.1.length ρ κ u.2.1 u.2.2) (fun u t => hy_U dC dI b u.2.1 u.2.2 A u.1 t t.heap) A
  | some _ => va_Qi (S := hyG) (fun r u => Q (some r) u.1 ∧ hy_ag kc w.length u.1.length ρ κ u.2.1 u.2.2) (fun u t => hy_U dC dI b u.2.1 u.2.2 A u.1 t t.heap) A
/-- a method, called with these values in this world, returns, and its answer and the world behind it are in Q -/
def hy_R (d : Nat) (M : hyM) (kc ks : Nat) (as : List hyV) (w : hyW) (Q : hyQ) : Prop :=
  ∀ (l : Launch) (dC : Nat → ClassId) (dI : Nat → Nat → Nat) (b : Nat) (ρ : Nat → Nat) (κ : Nat → ClassId) (sz : Nat),
    Met l M.1 (hy_ws M) (hy_rm d kc ks) (va_Pc (as.map (hy_v b ρ)) (fun U => U.heap.size = sz ∧ hy_U dC dI b ρ κ (fun _ => True) w U U.heap ∧ ∀ x ∈ hy_nw, va_Nw x U)) (hy_Qc M.2.2.2 Q kc w dC dI b ρ κ (va_A (hy_w b ρ κ w) sz)) kc ks (va_A (hy_w b ρ κ w) sz)
def hy_cx (M : hyM) (p : Program) (s : State) (m : MethodId) (args : Array Value) (meth : Method) (c : Code) (A : Nat → Prop) : Prop :=
  p.tables.exec = Jvm.exec ∧ c.code = M.2.1 ∧ c.maxLocals = M.2.2.1 ∧ s.vm.findClass M.1.cls = some m.cls ∧ (∀ x ∈ hy_tt, x.before args s = true) ∧ (∀ x ∈ hy_nw, va_Nw x s) ∧ (M.1.name = "<init>" → meth.name = "<init>") ∧ ∀ q, s.heap.size ≤ q → A q
def hy_sc (scr : hyS) (b : Nat) (s : State) (A : Nat → Prop) : Prop := ∀ (L : Nat) (xs : Nat → Int32), scr = some (L, xs) → va_X b L xs s s.heap ∧ b < s.heap.size ∧ ¬ A b
def hy_lr (b : Nat) (ρ : Nat → Nat) (nL : Nat) (L : hyL) (ls : Array Slot) : Prop := ls.size = nL ∧ L.length = nL ∧ lv_wf ls ∧ ∀ (i : Nat) (v : hyV), L[i]? = some (some v) → ls[i]? = some (.val (hy_v b ρ v))
def hy_ri (r : Option Int32) : Instr := match r with
  | some _ => .ireturn
  | none => .return_
def hy_rv (r : Option Int32) : List Value := match r with
  | some x => [.int x]
  | none => []
def hy_rt (p : Program) (l : Launch) (e : Env) (R : Room) (s : State) (m : MethodId) (args : Array Value) (below : List Frame) (meth : Method) (c : Code) (A : Nat → Prop) (dC : Nat → ClassId) (dI : Nat → Nat → Nat) (b : Nat) (Qf : State → Prop) (M : hyM) (Q : hyQ) (kc ks n : Nat) (ρ : Nat → Nat) (κ : Nat → ClassId) (cells slots : Nat) : Prop :=
  ∀ (r : Option Int32) (w' : hyW) (ρ' : Nat → Nat) (κ' : Nat → ClassId) (H' : Heap) (locs' : List Loc) (pc' : Nat) (ls' : Array Slot), Q r w' → hy_ag kc n w'.length ρ κ ρ' κ' → hy_U dC dI b ρ' κ' A w' s H' → va_S A s.heap H' locs' → decode M.2.1 pc' = .ok (hy_ri r, 1) → W p l e R s m args below meth c H' locs' (cells + kc) (slots + ks) Qf (F0 m pc' ls' (hy_rv r))
/-- the frame f of the method M comes to its end, and answer and world there are in Q -/
def hy_X (scr : hyS) (d : Nat) (M : hyM) (Q : hyQ) (kc ks : Nat) (f : hyF) : Prop :=
  ∀ (p : Program) (l : Launch) (e : Env) (R : Room) (s : State) (m : MethodId) (args : Array Value) (below : List Frame) (meth : Method) (c : Code) (A : Nat → Prop) (dC : Nat → ClassId) (dI : Nat → Nat → Nat) (b : Nat) (Qf : State → Prop) (ρ : Nat → Nat) (κ : Nat → ClassId) (H : Heap) (locs : List Loc) (cells slots : Nat) (ls : Array Slot),
    hy_cx M p s m args meth c A → hy_sc scr b s A → d ≤ R.frames → 40 * (d + 1) ≤ R.locals → cells + kc ≤ R.cells → slots + ks ≤ R.slots →
    hy_lr b ρ M.2.2.1 f.2.1 ls → hy_U dC dI b ρ κ A f.2.2.2 s H → va_S A s.heap H locs →
    hy_rt p l e R s m args below meth c A dC dI b Qf M Q kc ks f.2.2.2.length ρ κ cells slots →
    W p l e R s m args below meth c H locs cells slots Qf (F0 m f.1 ls (f.2.2.1.map (hy_v b ρ)))
/-! ===== the pure steps, in the style of what must hold before ===== -/
def hy_nth {α : Type} : List α → Nat → (α → Prop) → Prop
  | [], _, _ => False
  | a :: r, n, K => match n with
    | 0 => K a
    | n + 1 => hy_nth r n K
def hy_upd {α : Type} : List α → Nat → α → (List α → Prop) → Prop
  | [], _, _, _ => False
  | a :: r, n, v, K => match n with
    | 0 => K (v :: r)
    | n + 1 => hy_upd r n v (fun r' => K (a :: r'))
def hy_pop {α : Type} : Nat → List α → List α → (List α → List α → Prop) → Prop
  | 0, st, acc, K => K acc st
  | n + 1, st, acc, K => match st with
    | [] => False
    | x :: r => hy_pop n r (x :: acc) K
def hy_ints : List hyV → (List Int32 → Prop) → Prop
  | [], K => K []
  | a :: r, K => match a with
    | .inl x => hy_ints r (fun xs => K (x :: xs))
    | .inr _ => False
def hy_fnd : List (Nat × hyE) → Nat → Option hyE
  | [], _ => none
  | a :: r, n => match Nat.beq a.1 n with
    | true => some a.2
    | false => hy_fnd r n
def hy_ft (tb : hyT) (pc : Nat) : Option hyE := hy_fnd (tb.getD (pc / 16) []) pc
def hy_mem : List Nat → Nat → Bool
  | [], _ => false
  | a :: r, n => match Nat.beq a n with
    | true => true
    | false => hy_mem r n
def hy_vok (n : Nat) : hyV → Bool
  | .inl _ => true
  | .inr (.inl k) => Nat.blt k n
  | .inr (.inr _) => true
def hy_lok (n : Nat) (L : hyL) : Bool := L.all (fun o => match o with
  | some v => hy_vok n v
  | none => true)
def hy_wok (n : Nat) (w : hyW) : Bool := w.all (fun c => match c with
  | .inl _ => true
  | .inr o => o.2.all (hy_vok n))
def hy_fok (L : hyL) (st : List hyV) (w : hyW) : Bool := hy_lok w.length L && st.all (hy_vok w.length) && hy_wok w.length w
def hy_cmp (c : ClassFile.Cond) (x y : Int32) : Prop := match c with
  | .eq => x = y
  | .ne => ¬ x = y
  | .lt => x < y
  | .ge => y ≤ x
  | .gt => y < x
  | .le => x ≤ y
def hy_br (c : ClassFile.Cond) (x y : Int32) (A B : Prop) : Prop := match c with
  | .eq => (x = y → A) ∧ (¬ x = y → B)
  | .ne => (x = y → B) ∧ (¬ x = y → A)
  | .lt => (x < y → A) ∧ (¬ x < y → B)
  | .ge => (y ≤ x → A) ∧ (¬ y ≤ x → B)
  | .gt => (y < x → A) ∧ (¬ y < x → B)
  | .le => (x ≤ y → A) ∧ (¬ x ≤ y → B)
def hy_sw (x : Int32) (d : Prop) (K : Nat → Prop) : List (Int × Nat) → Prop
  | [] => d
  | a :: r => (x.toInt = a.1 → K a.2) ∧ (¬ x.toInt = a.1 → hy_sw x d K r)
def hy_ar (i : Int32) (n : Nat) (P : Prop) : Prop := vp_in i n ∧ P
def hy_cl0 (d d' : Nat) (M : hyM) (as : List hyV) (w : hyW) (P : Option Int32 → hyW → Prop) : Prop :=
  ∃ Q1 : hyQ, hy_R d' M 0 0 as w Q1 ∧ d' + 1 ≤ d ∧ ∀ r w1, Q1 r w1 → P r w1
def hy_call (d : Nat) (M : hyM) (as : List hyV) (w : hyW) (P : Option Int32 → hyW → Prop) : Prop := ∃ d' : Nat, hy_cl0 d d' M as w P
def hy_make (d kc ks : Nat) (M : hyM) (as : List hyV) (w : hyW) (P : Nat → Nat → hyW → Prop) : Prop :=
  ∃ (d' mc ms : Nat) (Q1 : hyQ), hy_R d' M mc ms as w Q1 ∧ d' + 1 ≤ d ∧ mc ≤ kc ∧ ms ≤ ks ∧ ∀ w1, Q1 none w1 → P (kc - mc) (ks - ms) w1
def hy_fits (c : Nat) (x : hyV) (P : Prop) : Prop := match c, x with
  | 0, .inl _ => P
  | 1, .inl z => (z = 0 ∨ z = 1) ∧ P
  | 2, .inr (.inl _) => P
  | 3, .inl _ => P
  | _, _ => False
def hy_dflt (ci : Nat) : List hyV := match ci with
  | 0 => [.inr (.inr false), .inr (.inr false), .inl 0]
  | 1 => [.inr (.inr false), .inr (.inr false), .inr (.inr false), .inr (.inr false), .inr (.inr false), .inr (.inr false), .inr (.inr false), .inr (.inr false), .inl 0, .inl 0, .inl 0, .inl 0]
  | 2 => [.inr (.inr false), .inr (.inr false), .inr (.inr false), .inr (.inr false), .inr (.inr false), .inr (.inr false), .inr (.inr false), .inr (.inr false), .inl 0, .inl 0, .inl 0]
  | 3 => [.inl 0, .inl 0, .inl 0]
  | 4 => [.inr (.inr false), .inr (.inr false), .inr (.inr false), .inr (.inr false), .inr (.inr false), .inr (.inr false), .inl 0, .inl 0, .inl 0, .inl 0]
  | 5 => [.inr (.inr false), .inr (.inr false), .inr (.inr false), .inr (.inr false), .inr (.inr false)]
  | 6 => [.inl 0, .inr (.inr false), .inr (.inr false), .inl 0, .inr (.inr false), .inr (.inr false), .inr (.inr false), .inr (.inr false), .inr (.inr false), .inr (.inr false), .inl 0, .inr (.inr false), .inl 0, .inr (.inr false), .inl 0, .inl 0, .inr (.inr false), .inr (.inr false), .inr (.inr false), .inr (.inr false), .inl 0, .inl 0, .inr (.inr false), .inr (.inr false), .inl 0, .inr (.inr false), .inr (.inr false), .inl 0, .inl 0, .inl 0, .inr (.inr false), .inr (.inr false), .inr (.inr false), .inl 0, .inr (.inr false), .inr (.inr false)]
  | _ => []
/-- one linked instruction: next pc, a, b, c, r, v, method, switch -/
def hy_st (pf : hyP) (scr : hyS) (d : Nat) (Q : hyQ) (e : hyE) (kc ks : Nat) (ls : hyL) (st : List hyV) (w : hyW) (K : Nat → Nat → hyF → Prop) : Prop :=
  match e with
  | (ins, nx, a, b, c, r, v, mo, sw) => match ins with
    | .iload_n _ | .iload _ => hy_nth ls a (fun o => match o with
      | some (.inl x) => K kc ks (nx, ls, .inl x :: st, w)
      | _ => False)
    | .aload_n _ | .aload _ => hy_nth ls a (fun o => match o with
      | some (.inr (.inl k)) => K kc ks (nx, ls, .inr (.inl k) :: st, w)
      | some (.inr (.inr true)) => K kc ks (nx, ls, .inr (.inr true) :: st, w)
      | _ => False)
    | .istore_n _ | .istore _ => match st with
      | .inl x :: st' => hy_upd ls a (some (.inl x)) (fun ls' => K kc ks (nx, ls', st', w))
      | _ => False
    | .astore_n _ | .astore _ => match st with
      | .inr (.inl k) :: st' => hy_upd ls a (some (.inr (.inl k))) (fun ls' => K kc ks (nx, ls', st', w))
      | _ => False
    | .iconst _ | .bipush _ | .sipush _ | .ldc _ | .ldc_w _ => K kc ks (nx, ls, .inl v :: st, w)
    | .iinc _ _ => hy_nth ls a (fun o => match o with
      | some (.inl x) => hy_upd ls a (some (.inl (x + v))) (fun ls' => K kc ks (nx, ls', st, w))
      | _ => False)
    | .iadd => match st with
      | .inl y :: .inl x :: st' => K kc ks (nx, ls, .inl (x + y) :: st', w)
      | _ => False
    | .isub => match st with
      | .inl y :: .inl x :: st' => K kc ks (nx, ls, .inl (x - y) :: st', w)
      | _ => False
    | .imul => match st with
      | .inl y :: .inl x :: st' => K kc ks (nx, ls, .inl (x * y) :: st', w)
      | _ => False
    | .iand => match st with
      | .inl y :: .inl x :: st' => K kc ks (nx, ls, .inl (x &&& y) :: st', w)
      | _ => False
    | .ior => match st with
      | .inl y :: .inl x :: st' => K kc ks (nx, ls, .inl (x ||| y) :: st', w)
      | _ => False
    | .ixor => match st with
      | .inl y :: .inl x :: st' => K kc ks (nx, ls, .inl (x ^^^ y) :: st', w)
      | _ => False
    | .ishl => match st with
      | .inl y :: .inl x :: st' => K kc ks (nx, ls, .inl (x <<< (y &&& 31)) :: st', w)
      | _ => False
    | .ishr => match st with
      | .inl y :: .inl x :: st' => K kc ks (nx, ls, .inl (x >>> (y &&& 31)) :: st', w)
      | _ => False
    | .iushr => match st with
      | .inl y :: .inl x :: st' => K kc ks (nx, ls, .inl ((x.toUInt32 >>> (y.toUInt32 &&& Int32.toUInt32 31)).toInt32) :: st', w)
      | _ => False
    | .idiv => match st with
      | .inl y :: .inl x :: st' => (¬ y = 0) ∧ K kc ks (nx, ls, .inl (x / y) :: st', w)
      | _ => False
    | .dup => match st with
      | x :: st' => K kc ks (nx, ls, x :: x :: st', w)
      | _ => False
    | .dup2 => match st with
      | x :: y :: st' => K kc ks (nx, ls, x :: y :: x :: y :: st', w)
      | _ => False
    | .goto _ => K kc ks (a, ls, st, w)
    | .if_icmp cd _ => match st with
      | .inl y :: .inl x :: st' => hy_br cd x y (K kc ks (a, ls, st', w)) (K kc ks (nx, ls, st', w))
      | _ => False
    | .ifCond cd _ => match st with
      | .inl x :: st' => hy_br cd x 0 (K kc ks (a, ls, st', w)) (K kc ks (nx, ls, st', w))
      | _ => False
    | .tableswitch _ _ _ _ | .lookupswitch _ _ => match st with
      | .inl x :: st' => hy_sw x (K kc ks (a, ls, st', w)) (fun t => K kc ks (t, ls, st', w)) sw
      | _ => False
    | .getfield _ => match st with
      | .inr (.inl k) :: st' => hy_nth w k (fun cl => match cl with
        | .inr (ci, fs) => match Nat.beq ci a with
          | true => hy_nth fs b (fun x => K kc ks (nx, ls, x :: st', w))
          | false => False
        | .inl _ => False)
      | _ => False
    | .putfield _ => match st with
      | x :: .inr (.inl k) :: st' => hy_nth w k (fun cl => match cl with
        | .inr (ci, fs) => match Nat.beq ci a with
          | true => hy_fits c x (hy_upd fs b x (fun fs' => hy_upd w k (.inr (ci, fs')) (fun w' => K kc ks (nx, ls, st', w'))))
          | false => False
        | .inl _ => False)
      | _ => False
    | .iaload => match st with
      | .inl i :: .inr (.inl k) :: st' => hy_nth w k (fun cl => match cl with
        | .inl (false, n, f) => hy_ar i n (K kc ks (nx, ls, .inl (f i.toNatClampNeg) :: st', w))
        | _ => False)
      | .inl i :: .inr (.inr true) :: st' => match scr with
        | some (L, xs) => hy_ar i L (K kc ks (nx, ls, .inl (xs i.toNatClampNeg) :: st', w))
        | none => False
      | _ => False
    | .baload => match st with
      | .inl i :: .inr (.inl k) :: st' => hy_nth w k (fun cl => match cl with
        | .inl (true, n, f) => hy_ar i n (K kc ks (nx, ls, .inl (f i.toNatClampNeg) :: st', w))
        | _ => False)
      | _ => False
    | .iastore => match st with
      | .inl x :: .inl i :: .inr (.inl k) :: st' => hy_nth w k (fun cl => match cl with
        | .inl (false, n, f) => hy_ar i n (hy_upd w k (.inl (false, n, upd f i.toNatClampNeg x)) (fun w' => K kc ks (nx, ls, st', w')))
        | _ => False)
      | _ => False
    | .bastore => match st with
      | .inl x :: .inl i :: .inr (.inl k) :: st' => hy_nth w k (fun cl => match cl with
        | .inl (true, n, f) => hy_ar i n (hy_upd w k (.inl (true, n, upd f i.toNatClampNeg (vp_nar .boolean x))) (fun w' => K kc ks (nx, ls, st', w')))
        | _ => False)
      | _ => False
    | .arraylength => match st with
      | .inr (.inr true) :: st' => match scr with
        | some (L, _) => K kc ks (nx, ls, .inl (Int32.ofNat L) :: st', w)
        | none => False
      | _ => False
    | .ireturn => match st with
      | .inl x :: [] => Q (some x) w
      | _ => False
    | .return_ => match st with
      | [] => Q none w
      | _ => False
    | .new _ => match Nat.ble 1 kc, Nat.ble b ks, hy_fok ls st w with
      | true, true, true => K (kc - 1) (ks - b) (nx, ls, .inr (.inl w.length) :: st, w ++ [.inr (a, hy_dflt a)])
      | _, _, _ => False
    | .newarray _ => match st with
      | .inl n :: st' => match Nat.ble 1 kc, Nat.ble n.toNatClampNeg ks, hy_fok ls st' w with
        | true, true, true => (¬ n < 0 ∧ n.toNatClampNeg ≤ 1024) ∧ K (kc - 1) (ks - n.toNatClampNeg) (nx, ls, .inr (.inl w.length) :: st', w ++ [.inl (Nat.beq a 1, n.toNatClampNeg, fun _ => 0)])
        | _, _, _ => False
      | _ => False
    | .invokestatic _ => match mo with
      | none => False
      | some M => match r with
       | 1 => match st with
         | .inl y :: .inl x :: st' => match Nat.ble st'.length 8, Nat.ble 1 d with
           | true, true => K kc ks (nx, ls, .inl (if x < y then y else x) :: st', w)
           | _, _ => False
         | _ => False
       | 2 => match st with
         | .inl y :: .inl x :: st' => match Nat.ble st'.length 8, Nat.ble 1 d with
           | true, true => K kc ks (nx, ls, .inl (if y < x then y else x) :: st', w)
           | _, _ => False
         | _ => False
       | _ => hy_pop b st [] (fun as st' => match Nat.ble st'.length 8 with
        | false => False
        | true => match pf a with
          | some (n, g) => match Nat.beq n b, Nat.ble 4 d with
            | true, true => hy_ints as (fun xs => K kc ks (nx, ls, .inl (g xs) :: st', w))
            | _, _ => False
          | none => hy_call d M as w (fun o w1 => match o with
            | some y => K kc ks (nx, ls, .inl y :: st', w1)
            | none => K kc ks (nx, ls, st', w1)))
    | .invokevirtual _ => match mo with
      | none => False
      | some M => hy_pop (b + 1) st [] (fun as st' => match Nat.ble st'.length 8 with
        | false => False
        | true => match as with
          | .inr (.inl k) :: _ => hy_nth w k (fun cl => match cl with
            | .inr (ci, _) => match Nat.beq ci r with
              | true => hy_call d M as w (fun o w1 => match o with
                | some y => K kc ks (nx, ls, .inl y :: st', w1)
                | none => K kc ks (nx, ls, st', w1))
              | false => False
            | .inl _ => False)
          | _ => False)
    | .invokespecial _ => match mo with
      | none => match st with
        | .inr (.inl _) :: st' => match Nat.ble st'.length 8, Nat.ble 1 d with
          | true, true => K kc ks (nx, ls, st', w)
          | _, _ => False
        | _ => False
      | some M => hy_pop (b + 1) st [] (fun as st' => match Nat.ble st'.length 8, hy_fok ls st' w with
        | true, true => match as with
          | .inr (.inl _) :: _ => hy_make d kc ks M as w (fun kc' ks' w1 => K kc' ks' (nx, ls, st', w1))
          | _ => False
        | _, _ => False)
    | _ => False
def hy_wp (pf : hyP) (tb : hyT) (S : List Nat) (scr : hyS) (d : Nat) (M : hyM) (Q : hyQ) : Nat → Nat → Nat → hyF → Prop
  | 0, kc, ks, f => hy_X scr d M Q kc ks f
  | n + 1, kc, ks, f => match f with
    | (pc, ls, st, w) => match hy_ft tb pc with
      | none => False
      | some e => hy_st pf scr d Q e kc ks ls st w (fun kc' ks' f' => match hy_mem S f'.1 with
        | true => hy_X scr d M Q kc' ks' f'
        | false => hy_wp pf tb S scr d M Q n kc' ks' f')
end
section
/-! ===== what a linked instruction must be: by program ===== -/
def hy_inT (w : Cond) : Bool := goodWord w && decide (w ∈ lw_tbl)
def hy_inN (w : Cond) : Bool := hy_isN w && decide (w ∈ lw_tbl)
theorem hy_inT_mem {w : Cond} (h : hy_inT w = true) : w ∈ hy_tt := by
  simp only [hy_inT, Bool.and_eq_true, decide_eq_true_eq] at h
  exact List.mem_filter.mpr ⟨h.2, h.1⟩
theorem hy_inN_mem {w : Cond} (h : hy_inN w = true) : w ∈ hy_nw := by
  simp only [hy_inN, Bool.and_eq_true, decide_eq_true_eq] at h
  exact List.mem_filter.mpr ⟨h.2, h.1⟩
def hy_plain (y : MethodName) (n : Nat) : Bool := decide (y.cls ≠ "java/lang/invoke/MethodHandle") && decide (y.cls ≠ "java/lang/invoke/VarHandle") && decide ((parseMethodDescriptor y.desc).map (fun d => d.parameters.length) = some n)
def hy_mok (M : hyM) (n : Nat) : Bool := hy_plain M.1 n && decide (M.2.2.1 ≤ 20) && hy_inT (.code M.1 M.2.1 M.2.2.1 M.2.2.2) && hy_inT (.initialized M.1.cls)
def hy_tsw (pc : Nat) : Int → List Int → List (Int × Nat) → Bool
  | _, [], [] => true
  | lo, o :: os, s :: ss => decide (s.1 = lo) && decide ((pc : Int) + o = (s.2 : Int)) && hy_tsw pc (lo + 1) os ss
  | _, _, _ => false
def hy_lsw (pc : Nat) : List (Int × Int) → List (Int × Nat) → Bool
  | [], [] => true
  | o :: os, s :: ss => decide (s.1 = o.1) && decide ((pc : Int) + o.2 = (s.2 : Int)) && hy_lsw pc os ss
  | _, _ => false
def hy_isR (t : Option FieldType) : Bool := match t with
  | some (.array _) => true
  | some (.object _) => true
  | _ => false
def hy_fk (c : Nat) (own : String) (nm : String) (q : String × String × String × Bool) : Bool := match c with
  | 0 => decide (q.2.2.1 = "I") && decide (q.2.2.2 = false)
  | 1 => decide (q.2.2.1 = "Z") && decide (q.2.2.2 = false)
  | 2 => hy_isR (parseFieldDescriptor q.2.2.1) && decide (q.2.2.2 = true) && decide (nm = "<init>") && decide (q.1 = own)
  | 3 => decide (q.2.2.1 = "I") && decide (q.2.2.2 = true) && decide (nm = "<init>") && decide (q.1 = own)
  | _ => false
/-- the pure static methods, by number -/
def hy_pm : Nat → hyM
  | 1 => (yX5_within, cX5_within, 3, some .boolean)
  | 2 => (yX6_in, cX6_in, 3, some .boolean)
  | 3 => (yJ9_max_7cf53, cJ9_max_7cf53, 2, some .int)
  | 4 => (yJ9_min_7cf53, cJ9_min_7cf53, 2, some .int)
  | 5 => (yJ6_bitCount_0f7a4, cJ6_bitCount_0f7a4, 1, some .int)
  | 6 => (yJ6_numberOfTrailingZeros_0f7a4, cJ6_numberOfTrailingZeros_0f7a4, 2, some .int)
  | 7 => (yX3_readBy, cX3_readBy, 2, some .int)
  | 8 => (yX6_reads, cX6_reads, 2, some .int)
  | 9 => (yX3_weightsBelow, cX3_weightsBelow, 3, some .int)
  | 10 => (yX5_isMarks, cX5_isMarks, 1, some .boolean)
  | 11 => (yX2_isPit, cX2_isPit, 1, some .boolean)
  | 12 => (yX3_isReadSo, cX3_isReadSo, 3, some .boolean)
  | _ => (yX0_onlyOne, cX0_onlyOne, 1, some .int)
def hy_lk (M : hyM) (pc : Nat) (e : hyE) : Bool :=
  match e with
  | (ins, nx, a, b, c, r, v, mo, sw) => match ins with
    | .iload_n k => decide (nx = pc + 1) && decide (k.val = a)
    | .iload i => decide (nx = pc + 2) && decide (i = a)
    | .aload_n k => decide (nx = pc + 1) && decide (k.val = a)
    | .aload i => decide (nx = pc + 2) && decide (i = a)
    | .istore_n k => decide (nx = pc + 1) && decide (k.val = a)
    | .istore i => decide (nx = pc + 2) && decide (i = a)
    | .astore_n k => decide (nx = pc + 1) && decide (k.val = a)
    | .astore i => decide (nx = pc + 2) && decide (i = a)
    | .iconst n => decide (nx = pc + 1) && decide (Int32.ofInt n = v)
    | .bipush n => decide (nx = pc + 2) && decide ((Int8.ofInt n).toInt32 = v)
    | .sipush n => decide (nx = pc + 3) && decide ((Int16.ofInt n).toInt32 = v)
    | .ldc i => decide (nx = pc + 2) && hy_inT (.constant M.1.cls i v)
    | .ldc_w i => decide (nx = pc + 3) && hy_inT (.constant M.1.cls i v)
    | .iinc i n => decide (nx = pc + 3) && decide (i = a) && decide (Int32.ofInt n = v)
    | .iadd | .isub | .imul | .iand | .ior | .ixor | .ishl | .ishr | .iushr | .idiv | .dup | .dup2 | .iaload | .baload | .iastore | .bastore | .arraylength => decide (nx = pc + 1)
    | .goto off => decide (nx = pc + 3) && decide ((pc : Int) + off = (a : Int))
    | .if_icmp _ off => decide (nx = pc + 3) && decide ((pc : Int) + off = (a : Int))
    | .ifCond _ off => decide (nx = pc + 3) && decide ((pc : Int) + off = (a : Int))
    | .tableswitch df lo hi offs => decide ((pc : Int) + df = (a : Int)) && decide (hi + 1 = lo + (offs.size : Int)) && hy_tsw pc lo offs.toList sw
    | .lookupswitch df ps => decide ((pc : Int) + df = (a : Int)) && (ps.toList.zip (ps.toList.drop 1)).all (fun (a, next) => decide (a.1 < next.1)) && hy_lsw pc ps.toList sw
    | .getfield i => match vwCl[a]? with
      | some (_, T, N) => decide (nx = pc + 3) && decide (b < N) && hy_inT (.fieldLink M.1.cls i (T b).1 (T b).2.1 (T b).2.2.1)
      | none => false
    | .putfield i => match vwCl[a]? with
      | some (_, T, N) => decide (nx = pc + 3) && decide (b < N) && hy_inT (.fieldLink M.1.cls i (T b).1 (T b).2.1 (T b).2.2.1) && hy_fk c M.1.cls M.1.name (T b)
      | none => false
    | .ireturn | .return_ => decide (nx = pc + 1)
    | .new i => match vwCl[a]? with
      | some (C, _, N) => decide (nx = pc + 3) && decide (b = N) && hy_inT (.classLink M.1.cls i C) && hy_inT (.instantiable C N) && hy_inT (.initialized C)
      | none => false
    | .newarray t => decide (nx = pc + 2) && hy_inT (.arrayClass (newarray.typeOf t)) && decide (newarray.typeOf t = hy_ty (Nat.beq a 1))
    | .invokestatic i => match mo with
      | some Mc => match r with
       | 1 => decide (nx = pc + 3) && hy_inT (.methodLink M.1.cls i Lib.Math.max.name) && hy_inT (.static Lib.Math.max.name) && hy_inT (.initialized "java/lang/Math") && hy_inT (.code Lib.Math.max.name Lib.Math.max.code 2 (some .int))
       | 2 => decide (nx = pc + 3) && hy_inT (.methodLink M.1.cls i Lib.Math.min.name) && hy_inT (.static Lib.Math.min.name) && hy_inT (.initialized "java/lang/Math") && hy_inT (.code Lib.Math.min.name Lib.Math.min.code 2 (some .int))
       | _ => decide (nx = pc + 3) && hy_mok Mc b && Mc.2.2.2.isSome && hy_inT (.static Mc.1) && (Nat.beq a 0 || decide (Mc = hy_pm a)) && (match c with
        | 0 => hy_inT (.methodLink M.1.cls i Mc.1)
        | _ => hy_inN (.methodLinkNest M.1.cls i Mc.1 "HuskYard"))
      | none => false
    | .invokevirtual i => match mo, vwCl[r]? with
      | some Mc, some (C, _, _) => decide (nx = pc + 3) && hy_mok Mc b && decide (C = Mc.1.cls) && hy_inT (.instanceMethod Mc.1) && hy_inT (.selects C Mc.1 Mc.1) && hy_inT (.methodLink M.1.cls i Mc.1)
      | _, _ => false
    | .invokespecial i => match mo with
      | none => decide (nx = pc + 3) && hy_inT (.methodLink M.1.cls i objectInit) && hy_inT (.instanceMethod objectInit) && hy_inT (.code objectInit ⟨#[0xb1]⟩ 1 none)
      | some Mc => decide (nx = pc + 3) && hy_mok Mc b && Mc.2.2.2.isNone && decide (Mc.1.name = "<init>") && hy_inT (.instanceMethod Mc.1) && (match c with
        | 0 => hy_inT (.methodLink M.1.cls i Mc.1)
        | _ => hy_inN (.methodLinkNest M.1.cls i Mc.1 "HuskYard"))
    | _ => false
def hy_len (M : hyM) (pc : Nat) : Nat := match decode M.2.1 pc with
  | .ok q => q.2
  | .error _ => 0
def hy_dec (M : hyM) (pc : Nat) (ins : Instr) (nx : Nat) : Bool := match decode M.2.1 pc with
  | .ok q => decide (q.1 = ins) && decide (pc + q.2 = nx)
  | .error _ => false
def hy_ok (M : hyM) (pc : Nat) (e : hyE) : Bool := hy_dec M pc e.1 e.2.1 && hy_lk M pc e
theorem hy_ok_dec {M : hyM} {pc : Nat} {e : hyE} (h : hy_ok M pc e = true) : ∃ k, decode M.2.1 pc = .ok (e.1, k) ∧ pc + k = e.2.1 := by
  simp only [hy_ok, hy_dec, Bool.and_eq_true] at h
  revert h
  cases hd : decode M.2.1 pc with
  | error x => intro h; exact absurd h.1 (by simp)
  | ok q =>
    intro h
    simp only [Bool.and_eq_true, decide_eq_true_eq] at h
    exact ⟨q.2, by rw [← h.1.1], h.1.2⟩
def hy_tok (M : hyM) (tb : hyT) : Prop := ∀ ch ∈ tb, ∀ q ∈ ch, hy_ok M q.1 q.2 = true
theorem hy_fnd_mem : ∀ {l : List (Nat × hyE)} {pc : Nat} {e : hyE}, hy_fnd l pc = some e → (pc, e) ∈ l
  | [], _, _, h => by cases h
  | a :: r, pc, e, h => by
    simp only [hy_fnd] at h
    cases hb : Nat.beq a.1 pc with
    | true =>
      rw [hb] at h
      cases h
      have : a.1 = pc := Nat.eq_of_beq_eq_true hb
      exact List.mem_cons.mpr (Or.inl (by rw [← this]))
    | false =>
      rw [hb] at h
      exact List.mem_cons_of_mem _ (hy_fnd_mem h)
theorem hy_tok_at {M : hyM} {tb : hyT} (h : hy_tok M tb) {pc : Nat} {e : hyE} (he : hy_ft tb pc = some e) : hy_ok M pc e = true := by
  have hm := hy_fnd_mem he
  rw [List.getD_eq_getElem?_getD] at hm
  cases hc : tb[pc / 16]? with
  | none => rw [hc] at hm; cases hm
  | some ch =>
    rw [hc] at hm
    have hm1 : (pc, e) ∈ ch := hm
    have h1 : ∀ q ∈ ch, hy_ok M q.1 q.2 = true := h ch (List.mem_of_getElem? hc)
    exact h1 (pc, e) hm1
theorem hy_clsX0 : ∀ w ∈ u_ws RX0 TX0 3, w ∈ hy_tt := by decide +kernel
theorem hy_clsX1 : ∀ w ∈ u_ws RX1 TX1 12, w ∈ hy_tt := by decide +kernel
theorem hy_clsX2 : ∀ w ∈ u_ws RX2 TX2 11, w ∈ hy_tt := by decide +kernel
theorem hy_clsX3 : ∀ w ∈ u_ws RX3 TX3 3, w ∈ hy_tt := by decide +kernel
theorem hy_clsX4 : ∀ w ∈ u_ws RX4 TX4 10, w ∈ hy_tt := by decide +kernel
theorem hy_clsX5 : ∀ w ∈ u_ws RX5 TX5 5, w ∈ hy_tt := by decide +kernel
theorem hy_clsX6 : ∀ w ∈ u_ws RX6 TX6 36, w ∈ hy_tt := by decide +kernel
theorem hy_dfX (b : Nat) (ρ : Nat → Nat) : (∀ j, j < 3 → defaultValue (tyX0 j) = vp_V ((hy_dflt 0).map (hy_v b ρ)) j) ∧ (∀ j, j < 12 → defaultValue (tyX1 j) = vp_V ((hy_dflt 1).map (hy_v b ρ)) j) ∧ (∀ j, j < 11 → defaultValue (tyX2 j) = vp_V ((hy_dflt 2).map (hy_v b ρ)) j) ∧ (∀ j, j < 3 → defaultValue (tyX3 j) = vp_V ((hy_dflt 3).map (hy_v b ρ)) j) ∧ (∀ j, j < 10 → defaultValue (tyX4 j) = vp_V ((hy_dflt 4).map (hy_v b ρ)) j) ∧ (∀ j, j < 5 → defaultValue (tyX5 j) = vp_V ((hy_dflt 5).map (hy_v b ρ)) j) ∧ (∀ j, j < 36 → defaultValue (tyX6 j) = vp_V ((hy_dflt 6).map (hy_v b ρ)) j) := by
  refine ⟨?_, ?_, ?_, ?_, ?_, ?_, ?_⟩
  · intro j hj; match j, hj with
    | 0, _ => rfl
    | 1, _ => rfl
    | 2, _ => rfl
    | j + 3, h => exact absurd h (by omega)
  · intro j hj; match j, hj with
    | 0, _ => rfl
    | 1, _ => rfl
    | 2, _ => rfl
    | 3, _ => rfl
    | 4, _ => rfl
    | 5, _ => rfl
    | 6, _ => rfl
    | 7, _ => rfl
    | 8, _ => rfl
    | 9, _ => rfl
    | 10, _ => rfl
    | 11, _ => rfl
    | j + 12, h => exact absurd h (by omega)
  · intro j hj; match j, hj with
    | 0, _ => rfl
    | 1, _ => rfl
    | 2, _ => rfl
    | 3, _ => rfl
    | 4, _ => rfl
    | 5, _ => rfl
    | 6, _ => rfl
    | 7, _ => rfl
    | 8, _ => rfl
    | 9, _ => rfl
    | 10, _ => rfl
    | j + 11, h => exact absurd h (by omega)
  · intro j hj; match j, hj with
    | 0, _ => rfl
    | 1, _ => rfl
    | 2, _ => rfl
    | j + 3, h => exact absurd h (by omega)
  · intro j hj; match j, hj with
    | 0, _ => rfl
    | 1, _ => rfl
    | 2, _ => rfl
    | 3, _ => rfl
    | 4, _ => rfl
    | 5, _ => rfl
    | 6, _ => rfl
    | 7, _ => rfl
    | 8, _ => rfl
    | 9, _ => rfl
    | j + 10, h => exact absurd h (by omega)
  · intro j hj; match j, hj with
    | 0, _ => rfl
    | 1, _ => rfl
    | 2, _ => rfl
    | 3, _ => rfl
    | 4, _ => rfl
    | j + 5, h => exact absurd h (by omega)
  · intro j hj
    have h : ∀ j : Fin 36, defaultValue (tyX6 j.val) = vp_V ((hy_dflt 6).map (hy_v b ρ)) j.val := by
      intro j
      match j with
      | ⟨0, _⟩ | ⟨1, _⟩ | ⟨2, _⟩ | ⟨3, _⟩ | ⟨4, _⟩ | ⟨5, _⟩ | ⟨6, _⟩ | ⟨7, _⟩ | ⟨8, _⟩ | ⟨9, _⟩ | ⟨10, _⟩ | ⟨11, _⟩ | ⟨12, _⟩ | ⟨13, _⟩ | ⟨14, _⟩ | ⟨15, _⟩ | ⟨16, _⟩ | ⟨17, _⟩ | ⟨18, _⟩ | ⟨19, _⟩ | ⟨20, _⟩ | ⟨21, _⟩ | ⟨22, _⟩ | ⟨23, _⟩ | ⟨24, _⟩ | ⟨25, _⟩ | ⟨26, _⟩ | ⟨27, _⟩ | ⟨28, _⟩ | ⟨29, _⟩ | ⟨30, _⟩ | ⟨31, _⟩ | ⟨32, _⟩ | ⟨33, _⟩ | ⟨34, _⟩ | ⟨35, _⟩ => rfl
      | ⟨j + 36, h⟩ => exact absurd h (by omega)
    exact h ⟨j, hj⟩
theorem hy_cls (b : Nat) (ρ : Nat → Nat) {a : Nat} {C : String} {T : u_T} {N : Nat} (h : vwCl[a]? = some (C, T, N)) : ∃ ty0 : Nat → FieldType, (∀ k, k < N → parseFieldDescriptor (T k).2.2.1 = some (ty0 k)) ∧ (∀ a, a < N → ∀ b, b < N → a ≠ b → (T a).2.1 ≠ (T b).2.1) ∧ (∀ w ∈ u_ws C T N, w ∈ hy_tt) ∧ ∀ j, j < N → defaultValue (ty0 j) = vp_V ((hy_dflt a).map (hy_v b ρ)) j := by
  obtain ⟨d0, d1, d2, d3, d4, d5, d6⟩ := hy_dfX b ρ
  match a, h with
  | 0, h => cases h; exact ⟨tyX0, tyX0_ok, nmX0, hy_clsX0, d0⟩
  | 1, h => cases h; exact ⟨tyX1, tyX1_ok, nmX1, hy_clsX1, d1⟩
  | 2, h => cases h; exact ⟨tyX2, tyX2_ok, nmX2, hy_clsX2, d2⟩
  | 3, h => cases h; exact ⟨tyX3, tyX3_ok, nmX3, hy_clsX3, d3⟩
  | 4, h => cases h; exact ⟨tyX4, tyX4_ok, nmX4, hy_clsX4, d4⟩
  | 5, h => cases h; exact ⟨tyX5, tyX5_ok, nmX5, hy_clsX5, d5⟩
  | 6, h => cases h; exact ⟨tyX6, tyX6_ok, nmX6, hy_clsX6, d6⟩
  | a + 7, h => simp at h
end
section
/-! ===== worlds under their steps ===== -/
theorem hy_w_get (b : Nat) (ρ : Nat → Nat) (κ : Nat → ClassId) (w : hyW) (k : Nat) : (hy_w b ρ κ w)[k]? = (w[k]?).map (fun c => (ρ k, hy_c b ρ κ k c)) := by
  simp [hy_w, List.getElem?_mapIdx]
theorem hy_w_at {b : Nat} {ρ : Nat → Nat} {κ : Nat → ClassId} {w : hyW} {k : Nat} {c : hyC} (h : w[k]? = some c) : (hy_w b ρ κ w)[k]? = some (ρ k, hy_c b ρ κ k c) := by
  rw [hy_w_get, h]; rfl
theorem hy_w_len (b : Nat) (ρ : Nat → Nat) (κ : Nat → ClassId) (w : hyW) : (hy_w b ρ κ w).length = w.length := by
  simp [hy_w]
theorem hy_w_set (b : Nat) (ρ : Nat → Nat) (κ : Nat → ClassId) (w : hyW) (k : Nat) (c : hyC) : (hy_w b ρ κ w).set k (ρ k, hy_c b ρ κ k c) = hy_w b ρ κ (w.set k c) := by
  apply List.ext_getElem?
  intro j
  rw [hy_w_get, List.getElem?_set, List.getElem?_set, hy_w_get, hy_w_len]
  by_cases h : k = j
  · subst h
    by_cases h2 : k < w.length
    · simp [h2]
    · simp [h2]
  · simp [h]
theorem hy_v_ag {b n : Nat} {ρ ρ' : Nat → Nat} (h : ∀ k, k < n → ρ' k = ρ k) {v : hyV} (hv : hy_vok n v = true) : hy_v b ρ' v = hy_v b ρ v := by
  match v, hv with
  | .inl x, _ => rfl
  | .inr (.inl k), hv => exact congrArg Value.ref (h k (Nat.lt_of_lt_of_le (Nat.lt_succ_self k) (Nat.le_of_ble_eq_true hv)))
  | .inr (.inr false), _ => rfl
  | .inr (.inr true), _ => rfl
theorem hy_vs_ag {b n : Nat} {ρ ρ' : Nat → Nat} (h : ∀ k, k < n → ρ' k = ρ k) {vs : List hyV} (hv : vs.all (hy_vok n) = true) : vs.map (hy_v b ρ') = vs.map (hy_v b ρ) :=
  List.map_congr_left (fun v hm => hy_v_ag h (List.all_eq_true.mp hv v hm))
theorem hy_w_ag {b n : Nat} {ρ ρ' : Nat → Nat} {κ κ' : Nat → ClassId} {w : hyW} (h : ∀ k, k < n → ρ' k = ρ k ∧ κ' k = κ k) (hl : w.length ≤ n) (hw : hy_wok n w = true) : hy_w b ρ' κ' w = hy_w b ρ κ w := by
  apply List.ext_getElem?
  intro j
  rw [hy_w_get, hy_w_get]
  cases hj : w[j]? with
  | none => rfl
  | some c =>
    have hlt : j < n := Nat.lt_of_lt_of_le (List.getElem?_eq_some_iff.mp hj).1 hl
    have hc := List.all_eq_true.mp hw c (List.mem_of_getElem? hj)
    obtain ⟨h1, h2⟩ := h j hlt
    cases c with
    | inl a =>
      obtain ⟨t, m, f⟩ := a
      simp only [Option.map_some, hy_c, h1, h2]
    | inr o =>
      obtain ⟨ci, fs⟩ := o
      simp only [Option.map_some, hy_c, h1]
      rw [hy_vs_ag (fun k hk => (h k hk).1) hc]
theorem hy_w_app {b : Nat} {ρ : Nat → Nat} {κ : Nat → ClassId} {w : hyW} {c : hyC} : hy_w b ρ κ (w ++ [c]) = hy_w b ρ κ w ++ [(ρ w.length, hy_c b ρ κ w.length c)] := by
  simp [hy_w, List.mapIdx_append]
theorem hy_nth_ok {α : Type} : ∀ {l : List α} {n : Nat} {K : α → Prop}, hy_nth l n K → ∃ a, l[n]? = some a ∧ K a
  | [], _, _, h => h.elim
  | a :: _, 0, _, h => ⟨a, rfl, h⟩
  | _ :: r, n + 1, K, h => by
    obtain ⟨x, h1, h2⟩ := hy_nth_ok (l := r) (n := n) (K := K) h
    exact ⟨x, by simpa using h1, h2⟩
theorem hy_upd_ok {α : Type} : ∀ {l : List α} {n : Nat} {v : α} {K : List α → Prop}, hy_upd l n v K → n < l.length ∧ K (l.set n v)
  | [], _, _, _, h => h.elim
  | _ :: _, 0, _, _, h => ⟨Nat.succ_pos _, h⟩
  | a :: r, n + 1, v, K, h => by
    obtain ⟨h1, h2⟩ := hy_upd_ok (l := r) (n := n) (v := v) (K := fun r' => K (a :: r')) h
    exact ⟨Nat.succ_lt_succ h1, h2⟩
theorem hy_pop_ok {α : Type} : ∀ {n : Nat} {st acc : List α} {K : List α → List α → Prop}, hy_pop n st acc K → ∃ as rest, as.length = n ∧ st = as.reverse ++ rest ∧ K (as ++ acc) rest
  | 0, st, acc, K, h => ⟨[], st, rfl, rfl, h⟩
  | n + 1, [], acc, K, h => h.elim
  | n + 1, x :: r, acc, K, h => by
    obtain ⟨as, rest, h1, h2, h3⟩ := hy_pop_ok (n := n) (st := r) (acc := x :: acc) (K := K) h
    exact ⟨as ++ [x], rest, by simp [h1], by simp [h2], by simpa using h3⟩
theorem hy_ints_ok : ∀ {as : List hyV} {K : List Int32 → Prop}, hy_ints as K → ∃ xs : List Int32, as = xs.map (fun x => Sum.inl x) ∧ K xs
  | [], K, h => ⟨[], rfl, h⟩
  | .inl x :: r, K, h => by
    obtain ⟨xs, h1, h2⟩ := hy_ints_ok (as := r) (K := fun xs => K (x :: xs)) h
    exact ⟨x :: xs, by rw [h1]; rfl, h2⟩
  | .inr _ :: _, _, h => h.elim
def hy_lv (b : Nat) (ρ : Nat → Nat) (L : hyL) : List (Nat × Value) := L.zipIdx.filterMap (fun q => q.1.map (fun v => (q.2, hy_v b ρ v)))
theorem hy_lv_mem {b : Nat} {ρ : Nat → Nat} {L : hyL} {i : Nat} {x : Value} : (i, x) ∈ hy_lv b ρ L ↔ ∃ v, L[i]? = some (some v) ∧ hy_v b ρ v = x := by
  unfold hy_lv
  rw [List.mem_filterMap]
  constructor
  · rintro ⟨⟨o, j⟩, h1, h2⟩
    rw [List.mem_zipIdx_iff_getElem?] at h1
    cases o with
    | none => cases h2
    | some v =>
      simp only [Option.map_some, Option.some.injEq, Prod.mk.injEq] at h2
      exact ⟨v, by rw [← h2.1]; exact h1, h2.2⟩
  · rintro ⟨v, h1, h2⟩
    exact ⟨(some v, i), by rw [List.mem_zipIdx_iff_getElem?]; exact h1, by simp [h2]⟩
theorem hy_lr_has {b : Nat} {ρ : Nat → Nat} {nL : Nat} {L : hyL} {ls : Array Slot} (h : hy_lr b ρ nL L ls) : lv_has ls nL (hy_lv b ρ L) := by
  refine ⟨h.1, h.2.2.1, fun q hq => ?_⟩
  obtain ⟨v, h1, h2⟩ := hy_lv_mem.mp (show (q.1, q.2) ∈ hy_lv b ρ L from hq)
  rw [← h2]
  exact h.2.2.2 q.1 v h1
theorem hy_v_cat (b : Nat) (ρ : Nat → Nat) (v : hyV) : (hy_v b ρ v).category = 1 := by
  match v with
  | .inl _ => rfl
  | .inr (.inl _) => rfl
  | .inr (.inr false) => rfl
  | .inr (.inr true) => rfl
theorem hy_lr_set {b : Nat} {ρ : Nat → Nat} {nL : Nat} {L : hyL} {ls : Array Slot} {a : Nat} {x : hyV} (hL : L.length = nL) (h : lv_has ls nL ((a, hy_v b ρ x) :: (hy_lv b ρ L).filter (fun q => !(q.1 == a) && !(q.1 + 1 == a && q.2.category == 2)))) : hy_lr b ρ nL (L.set a (some x)) ls := by
  refine ⟨h.1, by simp [hL], h.2.1, fun i v hi => ?_⟩
  rw [List.getElem?_set] at hi
  by_cases e : a = i
  · subst e
    rw [if_pos rfl] at hi
    split at hi
    · cases hi
      exact h.2.2 (a, hy_v b ρ x) List.mem_cons_self
    · cases hi
  · rw [if_neg e] at hi
    refine h.2.2 (i, hy_v b ρ v) (List.mem_cons_of_mem _ (List.mem_filter.mpr ⟨hy_lv_mem.mpr ⟨v, hi, rfl⟩, ?_⟩))
    have hc := hy_v_cat b ρ v
    simp [hc]
    exact fun h => e h.symm
theorem hy_lr_ag {b n : Nat} {ρ ρ' : Nat → Nat} {nL : Nat} {L : hyL} {ls : Array Slot} (h : ∀ k, k < n → ρ' k = ρ k) (hL : hy_lok n L = true) (hl : hy_lr b ρ nL L ls) : hy_lr b ρ' nL L ls := by
  refine ⟨hl.1, hl.2.1, hl.2.2.1, fun i v hi => ?_⟩
  rw [hy_v_ag h (List.all_eq_true.mp hL _ (List.mem_of_getElem? hi))]
  exact hl.2.2.2 i v hi
theorem hy_K_set {dC : Nat → ClassId} {dI : Nat → Nat → Nat} {κ : Nat → ClassId} {w : hyW} {U : State} {k : Nat} {c : hyC} (h : hy_K dC dI κ w U) (hc : ∀ t n f, c = .inl (t, n, f) → ∃ n' f', w[k]? = some (.inl (t, n', f'))) : hy_K dC dI κ (w.set k c) U := by
  refine ⟨h.1, fun j t n f hj => ?_⟩
  rw [List.getElem?_set] at hj
  by_cases e : k = j
  · subst e
    rw [if_pos rfl] at hj
    split at hj
    · obtain ⟨n', f', h1⟩ := hc t n f (Option.some.inj hj)
      exact h.2 k t n' f' h1
    · cases hj
  · rw [if_neg e] at hj
    exact h.2 j t n f hj
theorem hy_K_moved {dC : Nat → ClassId} {dI : Nat → Nat → Nat} {κ : Nat → ClassId} {w : hyW} {u U : State} (hvm : u.vm.Alike U.vm) (h : hy_K dC dI κ w u) : hy_K dC dI κ w U :=
  ⟨va_K.moved hvm h.1, fun k t n f hk => va_K.moved hvm (h.2 k t n f hk)⟩
theorem hy_nw_form {x : Cond} (h : x ∈ hy_nw) : ∃ a i y hh, x = .methodLinkNest a i y hh := by
  have h2 := (List.mem_filter.mp h).2
  revert h2
  cases x <;> intro h2 <;> first | exact ⟨_, _, _, _, rfl⟩ | cases h2
theorem hy_nw_warm {s U : State} (hW : s.WarmedH U.vm) (h : ∀ x ∈ hy_nw, va_Nw x s) : ∀ x ∈ hy_nw, va_Nw x U := by
  intro x hx
  obtain ⟨a, i, y, hh, rfl⟩ := hy_nw_form hx
  exact va_Nw.warmM hW (h _ hx)
theorem hy_nw_same {s U : State} (hW : s.vm = U.vm) (h : ∀ x ∈ hy_nw, va_Nw x s) : ∀ x ∈ hy_nw, va_Nw x U := by
  intro x hx
  obtain ⟨a, i, y, hh, rfl⟩ := hy_nw_form hx
  exact va_Nw.same rfl hW (h _ hx)
theorem hy_ag_refl (kc n : Nat) (ρ : Nat → Nat) (κ : Nat → ClassId) : hy_ag kc n n ρ κ ρ κ := ⟨Nat.le_refl n, fun _ => ⟨rfl, rfl⟩, fun _ _ => ⟨rfl, rfl⟩⟩
/-! ===== one step of a frame ===== -/
/-- a step that leaves locals and world alone -/
theorem hy_s0 {scr : hyS} {d : Nat} {M : hyM} {Q : hyQ} {kc ks pc pc' : Nat} {L : hyL} {st st' : List hyV} {w : hyW}
    (h : ∀ (p : Program) (l : Launch) (e : Env) (R : Room) (s : State) (m : MethodId) (args : Array Value) (below : List Frame) (meth : Method) (c : Code) (A : Nat → Prop) (dC : Nat → ClassId) (dI : Nat → Nat → Nat) (b : Nat) (Qf : State → Prop) (ρ : Nat → Nat) (κ : Nat → ClassId) (H : Heap) (locs : List Loc) (cells slots : Nat) (ls : Array Slot),
      hy_cx M p s m args meth c A → hy_sc scr b s A → d ≤ R.frames → 40 * (d + 1) ≤ R.locals → hy_lr b ρ M.2.2.1 L ls → hy_U dC dI b ρ κ A w s H → va_S A s.heap H locs →
      W p l e R s m args below meth c H locs cells slots Qf (F0 m pc' ls (st'.map (hy_v b ρ))) → W p l e R s m args below meth c H locs cells slots Qf (F0 m pc ls (st.map (hy_v b ρ))))
    (k : hy_X scr d M Q kc ks (pc', L, st', w)) : hy_X scr d M Q kc ks (pc, L, st, w) := by
  intro p l e R s m args below meth c A dC dI b Qf ρ κ H locs cells slots ls h1 h2 h3 h4 h5 h6 h7 h8 h9 h10
  exact h p l e R s m args below meth c A dC dI b Qf ρ κ H locs cells slots ls h1 h2 h3 h4 h7 h8 h9 (k p l e R s m args below meth c A dC dI b Qf ρ κ H locs cells slots ls h1 h2 h3 h4 h5 h6 h7 h8 h9 h10)
/-- a step that stores into a local -/
theorem hy_s1 {scr : hyS} {d : Nat} {M : hyM} {Q : hyQ} {kc ks pc pc' a : Nat} {L : hyL} {st st' : List hyV} {w : hyW} {x : hyV}
    (h : ∀ (p : Program) (l : Launch) (e : Env) (R : Room) (s : State) (m : MethodId) (args : Array Value) (below : List Frame) (meth : Method) (c : Code) (A : Nat → Prop) (b : Nat) (Qf : State → Prop) (ρ : Nat → Nat) (H : Heap) (locs : List Loc) (cells slots : Nat) (ls : Array Slot),
      hy_cx M p s m args meth c A → hy_lr b ρ M.2.2.1 L ls → lv_has ls M.2.2.1 (hy_lv b ρ L) →
      (∀ ls', lv_has ls' M.2.2.1 ((a, hy_v b ρ x) :: (hy_lv b ρ L).filter (fun q => !(q.1 == a) && !(q.1 + 1 == a && q.2.category == 2))) → W p l e R s m args below meth c H locs cells slots Qf (F0 m pc' ls' (st'.map (hy_v b ρ)))) → W p l e R s m args below meth c H locs cells slots Qf (F0 m pc ls (st.map (hy_v b ρ))))
    (k : hy_X scr d M Q kc ks (pc', L.set a (some x), st', w)) : hy_X scr d M Q kc ks (pc, L, st, w) := by
  intro p l e R s m args below meth c A dC dI b Qf ρ κ H locs cells slots ls h1 h2 h3 h4 h5 h6 h7 h8 h9 h10
  exact h p l e R s m args below meth c A b Qf ρ H locs cells slots ls h1 h7 (hy_lr_has h7) (fun ls' h' => k p l e R s m args below meth c A dC dI b Qf ρ κ H locs cells slots ls' h1 h2 h3 h4 h5 h6 (hy_lr_set h7.2.1 h') h8 h9 h10)
/-- a step that changes one cell -/
theorem hy_s2 {scr : hyS} {d : Nat} {M : hyM} {Q : hyQ} {kc ks pc pc' a : Nat} {L : hyL} {st st' : List hyV} {w : hyW} {x : hyC} (hx : ∀ t n f, x = .inl (t, n, f) → ∃ n' f', w[a]? = some (.inl (t, n', f')))
    (h : ∀ (p : Program) (l : Launch) (e : Env) (R : Room) (s : State) (m : MethodId) (args : Array Value) (below : List Frame) (meth : Method) (c : Code) (A : Nat → Prop) (dC : Nat → ClassId) (dI : Nat → Nat → Nat) (b : Nat) (Qf : State → Prop) (ρ : Nat → Nat) (κ : Nat → ClassId) (H : Heap) (locs : List Loc) (cells slots : Nat) (ls : Array Slot),
      hy_cx M p s m args meth c A → hy_U dC dI b ρ κ A w s H → va_S A s.heap H locs →
      (∀ H1 locs1, va_P (dC, dI) vwCl ((hy_w b ρ κ w).set a (ρ a, hy_c b ρ κ a x)) H1 → va_D A ((hy_w b ρ κ w).set a (ρ a, hy_c b ρ κ a x)) → va_S A s.heap H1 locs1 → W p l e R s m args below meth c H1 locs1 cells slots Qf (F0 m pc' ls (st'.map (hy_v b ρ)))) → W p l e R s m args below meth c H locs cells slots Qf (F0 m pc ls (st.map (hy_v b ρ))))
    (k : hy_X scr d M Q kc ks (pc', L, st', w.set a x)) : hy_X scr d M Q kc ks (pc, L, st, w) := by
  intro p l e R s m args below meth c A dC dI b Qf ρ κ H locs cells slots ls h1 h2 h3 h4 h5 h6 h7 h8 h9 h10
  refine h p l e R s m args below meth c A dC dI b Qf ρ κ H locs cells slots ls h1 h8 h9 (fun H1 locs1 a1 a2 a3 => ?_)
  rw [hy_w_set] at a1 a2
  exact k p l e R s m args below meth c A dC dI b Qf ρ κ H1 locs1 cells slots ls h1 h2 h3 h4 h5 h6 h7 ⟨a1, a2, hy_K_set h8.2.2 hx⟩ a3 (by
    show hy_rt p l e R s m args below meth c A dC dI b Qf M Q kc ks (w.set a x).length ρ κ cells slots
    rw [List.length_set]; exact h10)
theorem hy_br_ok {cd : ClassFile.Cond} {x y : Int32} {A B : Prop} (h : hy_br cd x y A B) : (hy_cmp cd x y → A) ∧ (¬ hy_cmp cd x y → B) := by
  cases cd with
  | ne => exact ⟨h.2, fun q => h.1 (Classical.not_not.mp q)⟩
  | _ => exact h
end
section
/-! ===== each instruction ===== -/
theorem hy_and1 {a b : Bool} (h : (a && b) = true) : a = true ∧ b = true := by simpa using h
theorem hy_x_iload_n {scr : hyS} {d : Nat} {M : hyM} {Q : hyQ} {kc ks pc : Nat} {L : hyL} {st : List hyV} {w : hyW} {k : Fin 4} {x : Int32} (hd : decode M.2.1 pc = .ok (.iload_n k, 1)) (hx : L[k.val]? = some (some (.inl x))) (K : hy_X scr d M Q kc ks (pc + 1, L, .inl x :: st, w)) : hy_X scr d M Q kc ks (pc, L, st, w) :=
  hy_s0 (fun p l e R s m args below meth c A dC dI b Qf ρ κ H locs cells slots ls h1 h2 h3 h4 h7 h8 h9 kk => lv_iload_n h1.1 h1.2.1 hd rfl (h7.2.2.2 _ _ hx) kk) K
theorem hy_x_iload {scr : hyS} {d : Nat} {M : hyM} {Q : hyQ} {kc ks pc : Nat} {L : hyL} {st : List hyV} {w : hyW} {i : Nat} {x : Int32} (hd : decode M.2.1 pc = .ok (.iload i, 2)) (hx : L[i]? = some (some (.inl x))) (K : hy_X scr d M Q kc ks (pc + 2, L, .inl x :: st, w)) : hy_X scr d M Q kc ks (pc, L, st, w) :=
  hy_s0 (fun p l e R s m args below meth c A dC dI b Qf ρ κ H locs cells slots ls h1 h2 h3 h4 h7 h8 h9 kk => lv_iload h1.1 h1.2.1 hd (h7.2.2.2 _ _ hx) kk) K
def hy_isref (v : hyV) : Prop := (∃ k, v = .inr (.inl k)) ∨ v = .inr (.inr true)
theorem hy_isref_v {v : hyV} (h : hy_isref v) (b : Nat) (ρ : Nat → Nat) : ∃ a, hy_v b ρ v = .ref a := by
  rcases h with ⟨k, rfl⟩ | rfl
  · exact ⟨_, rfl⟩
  · exact ⟨_, rfl⟩
theorem hy_x_aload_n {scr : hyS} {d : Nat} {M : hyM} {Q : hyQ} {kc ks pc : Nat} {L : hyL} {st : List hyV} {w : hyW} {k : Fin 4} {x : hyV} (hr : hy_isref x) (hd : decode M.2.1 pc = .ok (.aload_n k, 1)) (hx : L[k.val]? = some (some x)) (K : hy_X scr d M Q kc ks (pc + 1, L, x :: st, w)) : hy_X scr d M Q kc ks (pc, L, st, w) :=
  hy_s0 (fun p l e R s m args below meth c A dC dI b Qf ρ κ H locs cells slots ls h1 h2 h3 h4 h7 h8 h9 kk => by
    obtain ⟨a, ha⟩ := hy_isref_v hr b ρ
    have h := h7.2.2.2 _ _ hx
    rw [List.map_cons, ha] at kk
    rw [ha] at h
    exact lv_aload_n h1.1 h1.2.1 hd rfl h kk) K
theorem hy_x_aload {scr : hyS} {d : Nat} {M : hyM} {Q : hyQ} {kc ks pc : Nat} {L : hyL} {st : List hyV} {w : hyW} {i : Nat} {x : hyV} (hr : hy_isref x) (hd : decode M.2.1 pc = .ok (.aload i, 2)) (hx : L[i]? = some (some x)) (K : hy_X scr d M Q kc ks (pc + 2, L, x :: st, w)) : hy_X scr d M Q kc ks (pc, L, st, w) :=
  hy_s0 (fun p l e R s m args below meth c A dC dI b Qf ρ κ H locs cells slots ls h1 h2 h3 h4 h7 h8 h9 kk => by
    obtain ⟨a, ha⟩ := hy_isref_v hr b ρ
    have h := h7.2.2.2 _ _ hx
    rw [List.map_cons, ha] at kk
    rw [ha] at h
    exact lv_aload h1.1 h1.2.1 hd h kk) K
theorem hy_x_istore_n {scr : hyS} {d : Nat} {M : hyM} {Q : hyQ} {kc ks pc : Nat} {L : hyL} {st : List hyV} {w : hyW} {k : Fin 4} {x : Int32} (hd : decode M.2.1 pc = .ok (.istore_n k, 1)) (hn : k.val < L.length) (K : hy_X scr d M Q kc ks (pc + 1, L.set k.val (some (.inl x)), st, w)) : hy_X scr d M Q kc ks (pc, L, .inl x :: st, w) :=
  hy_s1 (fun p l e R s m args below meth c A b Qf ρ H locs cells slots ls h1 h7 h8 kk => lv_istore_n h1.1 h1.2.1 hd rfl h8 (h7.2.1 ▸ hn) rfl kk) K
theorem hy_x_istore {scr : hyS} {d : Nat} {M : hyM} {Q : hyQ} {kc ks pc : Nat} {L : hyL} {st : List hyV} {w : hyW} {i : Nat} {x : Int32} (hd : decode M.2.1 pc = .ok (.istore i, 2)) (hn : i < L.length) (K : hy_X scr d M Q kc ks (pc + 2, L.set i (some (.inl x)), st, w)) : hy_X scr d M Q kc ks (pc, L, .inl x :: st, w) :=
  hy_s1 (fun p l e R s m args below meth c A b Qf ρ H locs cells slots ls h1 h7 h8 kk => lv_istore h1.1 h1.2.1 hd h8 (h7.2.1 ▸ hn) rfl kk) K
theorem hy_x_astore_n {scr : hyS} {d : Nat} {M : hyM} {Q : hyQ} {kc ks pc : Nat} {L : hyL} {st : List hyV} {w : hyW} {k : Fin 4} {x : Nat} (hd : decode M.2.1 pc = .ok (.astore_n k, 1)) (hn : k.val < L.length) (K : hy_X scr d M Q kc ks (pc + 1, L.set k.val (some (.inr (.inl x))), st, w)) : hy_X scr d M Q kc ks (pc, L, .inr (.inl x) :: st, w) :=
  hy_s1 (fun p l e R s m args below meth c A b Qf ρ H locs cells slots ls h1 h7 h8 kk => lv_astore_n h1.1 h1.2.1 hd rfl h8 (h7.2.1 ▸ hn) rfl kk) K
theorem hy_x_astore {scr : hyS} {d : Nat} {M : hyM} {Q : hyQ} {kc ks pc : Nat} {L : hyL} {st : List hyV} {w : hyW} {i : Nat} {x : Nat} (hd : decode M.2.1 pc = .ok (.astore i, 2)) (hn : i < L.length) (K : hy_X scr d M Q kc ks (pc + 2, L.set i (some (.inr (.inl x))), st, w)) : hy_X scr d M Q kc ks (pc, L, .inr (.inl x) :: st, w) :=
  hy_s1 (fun p l e R s m args below meth c A b Qf ρ H locs cells slots ls h1 h7 h8 kk => lv_astore h1.1 h1.2.1 hd h8 (h7.2.1 ▸ hn) rfl kk) K
theorem hy_x_iinc {scr : hyS} {d : Nat} {M : hyM} {Q : hyQ} {kc ks pc : Nat} {L : hyL} {st : List hyV} {w : hyW} {i : Nat} {n : Int} {x v : Int32} (hd : decode M.2.1 pc = .ok (.iinc i n, 3)) (hv : Int32.ofInt n = v) (hx : L[i]? = some (some (.inl x))) (K : hy_X scr d M Q kc ks (pc + 3, L.set i (some (.inl (x + v))), st, w)) : hy_X scr d M Q kc ks (pc, L, st, w) :=
  hy_s1 (fun p l e R s m args below meth c A b Qf ρ H locs cells slots ls h1 h7 h8 kk => by
    obtain ⟨k, hk⟩ := List.getElem?_of_mem (hy_lv_mem.mpr ⟨_, hx, rfl⟩ : (i, hy_v b ρ (.inl x)) ∈ hy_lv b ρ L)
    subst hv
    exact lv_iinc h1.1 h1.2.1 hd h8 hk rfl (h7.2.1 ▸ (List.getElem?_eq_some_iff.mp hx).1) rfl kk) K
theorem hy_x_iconst {scr : hyS} {d : Nat} {M : hyM} {Q : hyQ} {kc ks pc : Nat} {L : hyL} {st : List hyV} {w : hyW} {n : Int} {v : Int32} (hd : decode M.2.1 pc = .ok (.iconst n, 1)) (hv : Int32.ofInt n = v) (K : hy_X scr d M Q kc ks (pc + 1, L, .inl v :: st, w)) : hy_X scr d M Q kc ks (pc, L, st, w) :=
  hy_s0 (fun p l e R s m args below meth c A dC dI b Qf ρ κ H locs cells slots ls h1 h2 h3 h4 h7 h8 h9 kk => lv_iconst h1.1 h1.2.1 hd hv kk) K
theorem hy_x_bipush {scr : hyS} {d : Nat} {M : hyM} {Q : hyQ} {kc ks pc : Nat} {L : hyL} {st : List hyV} {w : hyW} {n : Int} {v : Int32} (hd : decode M.2.1 pc = .ok (.bipush n, 2)) (hv : (Int8.ofInt n).toInt32 = v) (K : hy_X scr d M Q kc ks (pc + 2, L, .inl v :: st, w)) : hy_X scr d M Q kc ks (pc, L, st, w) :=
  hy_s0 (fun p l e R s m args below meth c A dC dI b Qf ρ κ H locs cells slots ls h1 h2 h3 h4 h7 h8 h9 kk => lv_bipush h1.1 h1.2.1 hd hv kk) K
theorem hy_x_sipush {scr : hyS} {d : Nat} {M : hyM} {Q : hyQ} {kc ks pc : Nat} {L : hyL} {st : List hyV} {w : hyW} {n : Int} {v : Int32} (hd : decode M.2.1 pc = .ok (.sipush n, 3)) (hv : (Int16.ofInt n).toInt32 = v) (K : hy_X scr d M Q kc ks (pc + 3, L, .inl v :: st, w)) : hy_X scr d M Q kc ks (pc, L, st, w) :=
  hy_s0 (fun p l e R s m args below meth c A dC dI b Qf ρ κ H locs cells slots ls h1 h2 h3 h4 h7 h8 h9 kk => lv_sipush h1.1 h1.2.1 hd hv kk) K
theorem hy_x_ldc {scr : hyS} {d : Nat} {M : hyM} {Q : hyQ} {kc ks pc : Nat} {L : hyL} {st : List hyV} {w : hyW} {i : Nat} {v : Int32} (hd : decode M.2.1 pc = .ok (.ldc i, 2)) (hv : Cond.constant M.1.cls i v ∈ hy_tt) (K : hy_X scr d M Q kc ks (pc + 2, L, .inl v :: st, w)) : hy_X scr d M Q kc ks (pc, L, st, w) :=
  hy_s0 (fun p l e R s m args below meth c A dC dI b Qf ρ κ H locs cells slots ls h1 h2 h3 h4 h7 h8 h9 kk => lv_ldc h1.1 h1.2.1 h1.2.2.2.1 (h1.2.2.2.2.1 _ hv) hd kk) K
theorem hy_x_ldcw {scr : hyS} {d : Nat} {M : hyM} {Q : hyQ} {kc ks pc : Nat} {L : hyL} {st : List hyV} {w : hyW} {i : Nat} {v : Int32} (hd : decode M.2.1 pc = .ok (.ldc_w i, 3)) (hv : Cond.constant M.1.cls i v ∈ hy_tt) (K : hy_X scr d M Q kc ks (pc + 3, L, .inl v :: st, w)) : hy_X scr d M Q kc ks (pc, L, st, w) :=
  hy_s0 (fun p l e R s m args below meth c A dC dI b Qf ρ κ H locs cells slots ls h1 h2 h3 h4 h7 h8 h9 kk => lv_ldcw h1.1 h1.2.1 h1.2.2.2.1 (h1.2.2.2.2.1 _ hv) hd kk) K
theorem hy_x_icmp {scr : hyS} {d : Nat} {M : hyM} {Q : hyQ} {kc ks pc a : Nat} {L : hyL} {st : List hyV} {w : hyW} {cd : ClassFile.Cond} {off : Int} {x y : Int32} (hd : decode M.2.1 pc = .ok (.if_icmp cd off, 3)) (ht : (pc : Int) + off = (a : Int)) (kt : hy_cmp cd x y → hy_X scr d M Q kc ks (a, L, st, w)) (kf : ¬ hy_cmp cd x y → hy_X scr d M Q kc ks (pc + 3, L, st, w)) : hy_X scr d M Q kc ks (pc, L, .inl y :: .inl x :: st, w) := by
  intro p l e R s m args below meth c A dC dI b Qf ρ κ H locs cells slots ls h1 h2 h3 h4 h5 h6 h7 h8 h9 h10
  have k1 := fun q => kt q p l e R s m args below meth c A dC dI b Qf ρ κ H locs cells slots ls h1 h2 h3 h4 h5 h6 h7 h8 h9 h10
  have k2 := fun q => kf q p l e R s m args below meth c A dC dI b Qf ρ κ H locs cells slots ls h1 h2 h3 h4 h5 h6 h7 h8 h9 h10
  cases cd with
  | eq => exact lv_icmp_eq h1.1 h1.2.1 hd ht k1 k2
  | ne => exact lv_icmp_ne h1.1 h1.2.1 hd ht k1 (fun q => k2 (fun h => h q))
  | lt => exact lv_icmp_lt h1.1 h1.2.1 hd ht k1 k2
  | ge => exact lv_icmp_ge h1.1 h1.2.1 hd ht k1 k2
  | gt => exact lv_icmp_gt h1.1 h1.2.1 hd ht k1 k2
  | le => exact lv_icmp_le h1.1 h1.2.1 hd ht k1 k2
theorem hy_x_if {scr : hyS} {d : Nat} {M : hyM} {Q : hyQ} {kc ks pc a : Nat} {L : hyL} {st : List hyV} {w : hyW} {cd : ClassFile.Cond} {off : Int} {x : Int32} (hd : decode M.2.1 pc = .ok (.ifCond cd off, 3)) (ht : (pc : Int) + off = (a : Int)) (kt : hy_cmp cd x 0 → hy_X scr d M Q kc ks (a, L, st, w)) (kf : ¬ hy_cmp cd x 0 → hy_X scr d M Q kc ks (pc + 3, L, st, w)) : hy_X scr d M Q kc ks (pc, L, .inl x :: st, w) := by
  intro p l e R s m args below meth c A dC dI b Qf ρ κ H locs cells slots ls h1 h2 h3 h4 h5 h6 h7 h8 h9 h10
  have k1 := fun q => kt q p l e R s m args below meth c A dC dI b Qf ρ κ H locs cells slots ls h1 h2 h3 h4 h5 h6 h7 h8 h9 h10
  have k2 := fun q => kf q p l e R s m args below meth c A dC dI b Qf ρ κ H locs cells slots ls h1 h2 h3 h4 h5 h6 h7 h8 h9 h10
  cases cd with
  | eq => exact lv_if_eq h1.1 h1.2.1 hd ht k1 k2
  | ne => exact lv_if_ne h1.1 h1.2.1 hd ht k1 (fun q => k2 (fun h => h q))
  | lt => exact lv_if_lt h1.1 h1.2.1 hd ht k1 k2
  | ge => exact lv_if_ge h1.1 h1.2.1 hd ht k1 k2
  | gt => exact lv_if_gt h1.1 h1.2.1 hd ht k1 k2
  | le => exact lv_if_le h1.1 h1.2.1 hd ht k1 k2
def hy_tg (x : Int) (a : Nat) : List (Int × Nat) → Nat
  | [] => a
  | s :: r => if x = s.1 then s.2 else hy_tg x a r
theorem hy_sw_ok {x : Int32} {a : Nat} {K : Nat → Prop} : ∀ {sw : List (Int × Nat)}, hy_sw x (K a) K sw → K (hy_tg x.toInt a sw)
  | [], h => h
  | s :: r, h => by
    by_cases e : x.toInt = s.1
    · rw [hy_tg, if_pos e]; exact h.1 e
    · rw [hy_tg, if_neg e]; exact hy_sw_ok (h.2 e)
theorem hy_tsw_in {pc a : Nat} {x : Int} : ∀ {lo : Int} {offs : List Int} {sw : List (Int × Nat)}, hy_tsw pc lo offs sw = true → lo ≤ x → x < lo + (offs.length : Int) → ∃ o, offs[(x - lo).toNat]? = some o ∧ (pc : Int) + o = (hy_tg x a sw : Nat)
  | lo, [], [], _, h1, h2 => absurd h2 (by simp; omega)
  | lo, o :: os, s :: ss, h, h1, h2 => by
    simp only [hy_tsw, Bool.and_eq_true, decide_eq_true_eq] at h
    by_cases e : x = s.1
    · rw [hy_tg, if_pos e]
      have : (x - lo).toNat = 0 := by omega
      exact ⟨o, by rw [this]; rfl, h.1.2⟩
    · rw [hy_tg, if_neg e]
      have hlt : lo + 1 ≤ x := by omega
      obtain ⟨o', a1, a2⟩ := hy_tsw_in (a := a) h.2 hlt (by simp at h2; omega)
      refine ⟨o', ?_, a2⟩
      have : (x - lo).toNat = (x - (lo + 1)).toNat + 1 := by omega
      rw [this]; simpa using a1
  | lo, [], _ :: _, h, _, _ => by cases h
  | lo, _ :: _, [], h, _, _ => by cases h
theorem hy_tsw_out {pc a : Nat} {x : Int} : ∀ {lo : Int} {offs : List Int} {sw : List (Int × Nat)}, hy_tsw pc lo offs sw = true → (x < lo ∨ lo + (offs.length : Int) ≤ x) → hy_tg x a sw = a
  | lo, [], [], _, _ => rfl
  | lo, o :: os, s :: ss, h, h2 => by
    simp only [hy_tsw, Bool.and_eq_true, decide_eq_true_eq] at h
    have hl : ((o :: os).length : Int) = (os.length : Int) + 1 := by simp
    rw [hl] at h2
    have e : ¬ x = s.1 := by omega
    rw [hy_tg, if_neg e]
    exact hy_tsw_out h.2 (by omega)
  | lo, [], _ :: _, h, _ => by cases h
  | lo, _ :: _, [], h, _ => by cases h
theorem hy_lsw_ok {pc : Nat} {dflt : Int} {a : Nat} (x : Int) (ha : (pc : Int) + dflt = (a : Int)) : ∀ {ps : List (Int × Int)} {sw : List (Int × Nat)}, hy_lsw pc ps sw = true → (pc : Int) + Op.lookupswitch.offset ps dflt x = (hy_tg x a sw : Nat)
  | [], [], _ => ha
  | o :: os, s :: ss, h => by
    simp only [hy_lsw, Bool.and_eq_true, decide_eq_true_eq] at h
    obtain ⟨o1, o2⟩ := o
    by_cases e : x = s.1
    · rw [hy_tg, if_pos e]
      have h2 : o1 = x := by rw [e]; exact h.1.1.symm
      have : Op.lookupswitch.offset ((o1, o2) :: os) dflt x = o2 := by simp [Op.lookupswitch.offset, h2]
      rw [this]; exact h.1.2
    · rw [hy_tg, if_neg e]
      have h2 : ¬ o1 = x := by intro q; apply e; rw [← q]; exact h.1.1.symm
      have : Op.lookupswitch.offset ((o1, o2) :: os) dflt x = Op.lookupswitch.offset os dflt x := by simp [Op.lookupswitch.offset, h2]
      rw [this]; exact hy_lsw_ok x ha h.2
  | [], _ :: _, h => by cases h
  | _ :: _, [], h => by cases h
end
section
/-! ===== fields, arrays, returns ===== -/
theorem hy_x_get {scr : hyS} {d : Nat} {M : hyM} {Q : hyQ} {kc ks pc : Nat} {L : hyL} {st : List hyV} {w : hyW} {i k a f : Nat} {C : String} {T : u_T} {N : Nat} {fs : List hyV} {x : hyV} (hd : decode M.2.1 pc = .ok (.getfield i, 3)) (hc : vwCl[a]? = some (C, T, N)) (hf : f < N) (hl : Cond.fieldLink M.1.cls i (T f).1 (T f).2.1 (T f).2.2.1 ∈ hy_tt) (hw : w[k]? = some (.inr (a, fs))) (hx : fs[f]? = some x) (K : hy_X scr d M Q kc ks (pc + 3, L, x :: st, w)) : hy_X scr d M Q kc ks (pc, L, .inr (.inl k) :: st, w) :=
  hy_s0 (fun p l e R s m args below meth c A dC dI b Qf ρ κ H locs cells slots ls h1 h2 h3 h4 h7 h8 h9 kk => by
    obtain ⟨ty0, -, -, hin, -⟩ := hy_cls 0 id hc
    have he : (hy_w b ρ κ w)[k]? = some (ρ k, .inr (a, fs.map (hy_v b ρ))) := hy_w_at hw
    have hv : (fs.map (hy_v b ρ))[f]? = some (hy_v b ρ x) := by rw [List.getElem?_map, hx]; rfl
    exact va_get (D := (dC, dI)) h1.1 h1.2.1 h1.2.2.2.2.1 hin h1.2.2.2.1 h8.2.2.1 h8.1 k he hc f hf (h1.2.2.2.2.1 _ hl) (fun _ h => h) hv hd kk) K
theorem hy_fits_ok {c : Nat} {x : hyV} {P : Prop} (h : hy_fits c x P) : P ∧ ((∃ z, (c = 0 ∨ c = 3) ∧ x = .inl z) ∨ (∃ z, c = 1 ∧ x = .inl z ∧ (z = 0 ∨ z = 1)) ∨ (∃ k, c = 2 ∧ x = .inr (.inl k))) := by
  unfold hy_fits at h
  split at h
  · exact ⟨h, Or.inl ⟨_, Or.inl rfl, rfl⟩⟩
  · exact ⟨h.2, Or.inr (Or.inl ⟨_, rfl, rfl, h.1⟩)⟩
  · exact ⟨h, Or.inr (Or.inr ⟨_, rfl, rfl⟩)⟩
  · exact ⟨h, Or.inl ⟨_, Or.inr rfl, rfl⟩⟩
  · exact h.elim
theorem hy_nar_ref {t : FieldType} (h : hy_isR (some t) = true) (a : Nat) : narrow t (.ref a) = .ref a ∧ fits t (.ref a) = true := by
  cases t <;> first | exact ⟨rfl, rfl⟩ | cases h
theorem hy_nar_bool {z : Int32} (h : z = 0 ∨ z = 1) : narrow .boolean (.int z) = .int z ∧ fits .boolean (.int z) = true := by
  rcases h with rfl | rfl
  · exact ⟨rfl, rfl⟩
  · exact ⟨rfl, rfl⟩
theorem hy_pI : parseFieldDescriptor "I" = some .int := by decide +kernel
theorem hy_pZ : parseFieldDescriptor "Z" = some .boolean := by decide +kernel
theorem hy_fk_ok {c : Nat} {own nm : String} {q : String × String × String × Bool} {x : hyV} {P : Prop} (hk : hy_fk c own nm q = true) (hx : hy_fits c x P) (b : Nat) (ρ : Nat → Nat) : ∃ ty, parseFieldDescriptor q.2.2.1 = some ty ∧ narrow ty (hy_v b ρ x) = hy_v b ρ x ∧ fits ty (hy_v b ρ x) = true ∧ (q.2.2.2 = false ∨ (q.2.2.2 = true ∧ nm = "<init>" ∧ q.1 = own)) := by
  obtain ⟨-, ⟨z, hc, rfl⟩ | ⟨z, rfl, rfl, hz⟩ | ⟨k, rfl, rfl⟩⟩ := hy_fits_ok hx
  · rcases hc with rfl | rfl
    · simp only [hy_fk, Bool.and_eq_true, decide_eq_true_eq] at hk
      exact ⟨.int, by rw [hk.1]; exact hy_pI, rfl, rfl, Or.inl hk.2⟩
    · simp only [hy_fk, Bool.and_eq_true, decide_eq_true_eq] at hk
      exact ⟨.int, by rw [hk.1.1.1]; exact hy_pI, rfl, rfl, Or.inr ⟨hk.1.1.2, hk.1.2, hk.2⟩⟩
  · simp only [hy_fk, Bool.and_eq_true, decide_eq_true_eq] at hk
    exact ⟨.boolean, by rw [hk.1]; exact hy_pZ, (hy_nar_bool hz).1, (hy_nar_bool hz).2, Or.inl hk.2⟩
  · simp only [hy_fk, Bool.and_eq_true, decide_eq_true_eq] at hk
    obtain ⟨⟨⟨h1, h2⟩, h3⟩, h4⟩ := hk
    cases ht : parseFieldDescriptor q.2.2.1 with
    | none => rw [ht] at h1; cases h1
    | some t =>
      rw [ht] at h1
      exact ⟨t, rfl, (hy_nar_ref h1 _).1, (hy_nar_ref h1 _).2, Or.inr ⟨h2, h3, h4⟩⟩
theorem hy_x_put {scr : hyS} {d : Nat} {M : hyM} {Q : hyQ} {kc ks pc : Nat} {L : hyL} {st : List hyV} {w : hyW} {i k a f cc : Nat} {C : String} {T : u_T} {N : Nat} {fs : List hyV} {x : hyV} {P : Prop} (hd : decode M.2.1 pc = .ok (.putfield i, 3)) (hc : vwCl[a]? = some (C, T, N)) (hf : f < N) (hl : Cond.fieldLink M.1.cls i (T f).1 (T f).2.1 (T f).2.2.1 ∈ hy_tt) (hk : hy_fk cc M.1.cls M.1.name (T f) = true) (hx : hy_fits cc x P) (hw : w[k]? = some (.inr (a, fs))) (hn : f < fs.length) (K : hy_X scr d M Q kc ks (pc + 3, L, st, w.set k (.inr (a, fs.set f x)))) : hy_X scr d M Q kc ks (pc, L, x :: .inr (.inl k) :: st, w) :=
  hy_s2 (fun t n f h => by cases h) (fun p l e R s m args below meth c A dC dI b Qf ρ κ H locs cells slots ls h1 h8 h9 kk => by
    obtain ⟨ty0, hty, hnm, hin, -⟩ := hy_cls 0 id hc
    obtain ⟨ty, t1, t2, t3, t4⟩ := hy_fk_ok hk hx b ρ
    have he : (hy_w b ρ κ w)[k]? = some (ρ k, .inr (a, fs.map (hy_v b ρ))) := hy_w_at hw
    have hs : hy_c b ρ κ k (.inr (a, fs.set f x)) = .inr (a, (fs.map (hy_v b ρ)).set f (hy_v b ρ x)) := by
      simp only [hy_c, List.map_set]
    rw [hs] at kk
    rcases t4 with t4 | ⟨t4, t5, t6⟩
    · exact va_put (D := (dC, dI)) h1.1 h1.2.1 h1.2.2.2.2.1 hin ty0 hty hnm h1.2.2.2.1 h8.2.2.1 h8.1 h8.2.1 h9 k he hc f hf (h1.2.2.2.2.1 _ hl) (fun _ h => h) t4 t1 t2 t3 (by rw [List.length_map]; exact hn) hd kk
    · exact va_putF (D := (dC, dI)) h1.1 h1.2.1 h1.2.2.2.2.1 hin ty0 hty hnm h1.2.2.2.1 h8.2.2.1 h8.1 h8.2.1 h9 k he hc f hf (h1.2.2.2.2.1 _ hl) (fun _ h => h) t4 (h1.2.2.2.2.2.2.1 t5) t6 t1 t2 t3 (by rw [List.length_map]; exact hn) hd kk) K
theorem hy_x_iald {scr : hyS} {d : Nat} {M : hyM} {Q : hyQ} {kc ks pc : Nat} {L : hyL} {st : List hyV} {w : hyW} {k n : Nat} {i : Int32} {f : Nat → Int32} (hd : decode M.2.1 pc = .ok (.iaload, 1)) (hw : w[k]? = some (.inl (false, n, f))) (hi : vp_in i n) (K : hy_X scr d M Q kc ks (pc + 1, L, .inl (f i.toNatClampNeg) :: st, w)) : hy_X scr d M Q kc ks (pc, L, .inl i :: .inr (.inl k) :: st, w) :=
  hy_s0 (fun p l e R s m args below meth c A dC dI b Qf ρ κ H locs cells slots ls h1 h2 h3 h4 h7 h8 h9 kk => va_iald (D := (dC, dI)) h1.1 h1.2.1 (h8.2.2.2 k _ _ _ hw) h8.1 k 0 (hy_w_at hw) rfl hi hd kk) K
theorem hy_x_zald {scr : hyS} {d : Nat} {M : hyM} {Q : hyQ} {kc ks pc : Nat} {L : hyL} {st : List hyV} {w : hyW} {k n : Nat} {i : Int32} {f : Nat → Int32} (hd : decode M.2.1 pc = .ok (.baload, 1)) (hw : w[k]? = some (.inl (true, n, f))) (hi : vp_in i n) (K : hy_X scr d M Q kc ks (pc + 1, L, .inl (f i.toNatClampNeg) :: st, w)) : hy_X scr d M Q kc ks (pc, L, .inl i :: .inr (.inl k) :: st, w) :=
  hy_s0 (fun p l e R s m args below meth c A dC dI b Qf ρ κ H locs cells slots ls h1 h2 h3 h4 h7 h8 h9 kk => va_zald (D := (dC, dI)) h1.1 h1.2.1 (h8.2.2.2 k _ _ _ hw) h8.1 k 0 (hy_w_at hw) rfl hi hd kk) K
theorem hy_x_sld {L1 : Nat} {xs : Nat → Int32} {d : Nat} {M : hyM} {Q : hyQ} {kc ks pc : Nat} {L : hyL} {st : List hyV} {w : hyW} {i : Int32} (hd : decode M.2.1 pc = .ok (.iaload, 1)) (hi : vp_in i L1) (K : hy_X (some (L1, xs)) d M Q kc ks (pc + 1, L, .inl (xs i.toNatClampNeg) :: st, w)) : hy_X (some (L1, xs)) d M Q kc ks (pc, L, .inl i :: .inr (.inr true) :: st, w) :=
  hy_s0 (fun p l e R s m args below meth c A dC dI b Qf ρ κ H locs cells slots ls h1 h2 h3 h4 h7 h8 h9 kk => va_sld h1.1 h1.2.1 (h2 _ _ rfl).1 (h2 _ _ rfl).2.1 (h2 _ _ rfl).2.2 h9 hi hd kk) K
theorem hy_x_slen {L1 : Nat} {xs : Nat → Int32} {d : Nat} {M : hyM} {Q : hyQ} {kc ks pc : Nat} {L : hyL} {st : List hyV} {w : hyW} (hd : decode M.2.1 pc = .ok (.arraylength, 1)) (K : hy_X (some (L1, xs)) d M Q kc ks (pc + 1, L, .inl (Int32.ofNat L1) :: st, w)) : hy_X (some (L1, xs)) d M Q kc ks (pc, L, .inr (.inr true) :: st, w) :=
  hy_s0 (fun p l e R s m args below meth c A dC dI b Qf ρ κ H locs cells slots ls h1 h2 h3 h4 h7 h8 h9 kk => va_slen h1.1 h1.2.1 (h2 _ _ rfl).1 (h2 _ _ rfl).2.1 (h2 _ _ rfl).2.2 h9 hd kk) K
theorem hy_x_iast {scr : hyS} {d : Nat} {M : hyM} {Q : hyQ} {kc ks pc : Nat} {L : hyL} {st : List hyV} {w : hyW} {k n : Nat} {i x : Int32} {f : Nat → Int32} (hd : decode M.2.1 pc = .ok (.iastore, 1)) (hw : w[k]? = some (.inl (false, n, f))) (hi : vp_in i n) (K : hy_X scr d M Q kc ks (pc + 1, L, st, w.set k (.inl (false, n, upd f i.toNatClampNeg x)))) : hy_X scr d M Q kc ks (pc, L, .inl x :: .inl i :: .inr (.inl k) :: st, w) :=
  hy_s2 (fun t n' f' h => by cases h; exact ⟨_, _, hw⟩) (fun p l e R s m args below meth c A dC dI b Qf ρ κ H locs cells slots ls h1 h8 h9 kk => va_iast (D := (dC, dI)) h1.1 h1.2.1 (h8.2.2.2 k _ _ _ hw) h8.1 h8.2.1 h9 k 0 (hy_w_at hw) rfl hi hd kk) K
theorem hy_x_zast {scr : hyS} {d : Nat} {M : hyM} {Q : hyQ} {kc ks pc : Nat} {L : hyL} {st : List hyV} {w : hyW} {k n : Nat} {i x : Int32} {f : Nat → Int32} (hd : decode M.2.1 pc = .ok (.bastore, 1)) (hw : w[k]? = some (.inl (true, n, f))) (hi : vp_in i n) (K : hy_X scr d M Q kc ks (pc + 1, L, st, w.set k (.inl (true, n, upd f i.toNatClampNeg (vp_nar .boolean x))))) : hy_X scr d M Q kc ks (pc, L, .inl x :: .inl i :: .inr (.inl k) :: st, w) :=
  hy_s2 (fun t n' f' h => by cases h; exact ⟨_, _, hw⟩) (fun p l e R s m args below meth c A dC dI b Qf ρ κ H locs cells slots ls h1 h8 h9 kk => va_zast (D := (dC, dI)) h1.1 h1.2.1 (h8.2.2.2 k _ _ _ hw) h8.1 h8.2.1 h9 k 0 (hy_w_at hw) rfl hi hd kk) K
theorem hy_x_ireturn {scr : hyS} {d : Nat} {M : hyM} {Q : hyQ} {kc ks pc : Nat} {L : hyL} {w : hyW} {x : Int32} (hd : decode M.2.1 pc = .ok (.ireturn, 1)) (h : Q (some x) w) : hy_X scr d M Q kc ks (pc, L, [.inl x], w) := by
  intro p l e R s m args below meth c A dC dI b Qf ρ κ H locs cells slots ls h1 h2 h3 h4 h5 h6 h7 h8 h9 h10
  exact W.widen (Nat.le_add_right _ _) (Nat.le_add_right _ _) (h10 (some x) w ρ κ H locs pc ls h (hy_ag_refl _ _ _ _) h8 h9 hd)
theorem hy_x_return {scr : hyS} {d : Nat} {M : hyM} {Q : hyQ} {kc ks pc : Nat} {L : hyL} {w : hyW} (hd : decode M.2.1 pc = .ok (.return_, 1)) (h : Q none w) : hy_X scr d M Q kc ks (pc, L, [], w) := by
  intro p l e R s m args below meth c A dC dI b Qf ρ κ H locs cells slots ls h1 h2 h3 h4 h5 h6 h7 h8 h9 h10
  exact W.widen (Nat.le_add_right _ _) (Nat.le_add_right _ _) (h10 none w ρ κ H locs pc ls h (hy_ag_refl _ _ _ _) h8 h9 hd)
/-! ===== new cells ===== -/
def hy_up {α : Type} (f : Nat → α) (k : Nat) (x : α) : Nat → α := fun j => if j = k then x else f j
theorem hy_up_same {α : Type} (f : Nat → α) (k : Nat) (x : α) : hy_up f k x k = x := by simp [hy_up]
theorem hy_up_lt {α : Type} (f : Nat → α) {k j : Nat} (x : α) (h : j < k) : hy_up f k x j = f j := by
  have : ¬ j = k := by omega
  simp [hy_up, this]
theorem hy_fok_ok {L : hyL} {st : List hyV} {w : hyW} (h : hy_fok L st w = true) : hy_lok w.length L = true ∧ st.all (hy_vok w.length) = true ∧ hy_wok w.length w = true := by
  simp only [hy_fok, Bool.and_eq_true] at h
  exact ⟨h.1.1, h.1.2, h.2⟩
theorem hy_dflt_vok (a n : Nat) : (hy_dflt a).all (hy_vok n) = true := by
  match a with
  | 0 => rfl
  | 1 => rfl
  | 2 => rfl
  | 3 => rfl
  | 4 => rfl
  | 5 => rfl
  | 6 => rfl
  | _ + 7 => rfl
theorem hy_rt_grow {p : Program} {l : Launch} {e : Env} {R : Room} {s : State} {m : MethodId} {args : Array Value} {below : List Frame} {meth : Method} {c : Code} {A : Nat → Prop} {dC : Nat → ClassId} {dI : Nat → Nat → Nat} {b : Nat} {Qf : State → Prop} {M : hyM} {Q : hyQ} {kc ks mc ms n n1 : Nat} {ρ ρ1 : Nat → Nat} {κ κ1 : Nat → ClassId} {cells slots : Nat}
    (h : hy_rt p l e R s m args below meth c A dC dI b Qf M Q kc ks n ρ κ cells slots) (hc : mc ≤ kc) (hs : ms ≤ ks) (hm : hy_ag mc n n1 ρ κ ρ1 κ1) : hy_rt p l e R s m args below meth c A dC dI b Qf M Q (kc - mc) (ks - ms) n1 ρ1 κ1 (cells + mc) (slots + ms) := by
  intro r w' ρ' κ' H' locs' pc' ls' a1 a2 a3 a4 a5
  have e1 : cells + mc + (kc - mc) = cells + kc := by omega
  have e2 : slots + ms + (ks - ms) = slots + ks := by omega
  rw [e1, e2]
  refine h r w' ρ' κ' H' locs' pc' ls' a1 ⟨Nat.le_trans hm.1 a2.1, fun h0 => ?_, fun k hk => ?_⟩ a3 a4 a5
  · obtain ⟨q1, q2⟩ := a2.2.1 (by omega)
    obtain ⟨q3, q4⟩ := hm.2.1 (by omega)
    exact ⟨q1.trans q3, q2.trans q4⟩
  · obtain ⟨q1, q2⟩ := a2.2.2 k (Nat.lt_of_lt_of_le hk hm.1)
    obtain ⟨q3, q4⟩ := hm.2.2 k hk
    exact ⟨q1.trans q3, q2.trans q4⟩
theorem hy_ag_new (n q : Nat) (cA : ClassId) (ρ : Nat → Nat) (κ : Nat → ClassId) : hy_ag 1 n (n + 1) ρ κ (hy_up ρ n q) (hy_up κ n cA) :=
  ⟨Nat.le_succ n, fun h => absurd h (by omega), fun k hk => ⟨hy_up_lt _ _ hk, hy_up_lt _ _ hk⟩⟩
theorem hy_x_new {scr : hyS} {d : Nat} {M : hyM} {Q : hyQ} {kc ks pc : Nat} {L : hyL} {st : List hyV} {w : hyW} {i a : Nat} {C : String} {T : u_T} {N : Nat} (hd : decode M.2.1 pc = .ok (.new i, 3)) (hc : vwCl[a]? = some (C, T, N)) (h1 : Cond.classLink M.1.cls i C ∈ hy_tt) (h2 : Cond.instantiable C N ∈ hy_tt) (h3 : Cond.initialized C ∈ hy_tt) (hkc : 1 ≤ kc) (hks : N ≤ ks) (hok : hy_fok L st w = true) (K : hy_X scr d M Q (kc - 1) (ks - N) (pc + 3, L, .inr (.inl w.length) :: st, w ++ [.inr (a, hy_dflt a)])) : hy_X scr d M Q kc ks (pc, L, st, w) := by
  intro p l e R s m args below meth c A dC dI b Qf ρ κ H locs cells slots ls a1 a2 a3 a4 a5 a6 a7 a8 a9 a10
  obtain ⟨ty0, hty, -, hin, hdf⟩ := hy_cls b ρ hc
  obtain ⟨o1, o2, o3⟩ := hy_fok_ok hok
  refine va_new (D := (dC, dI)) a1.1 a1.2.1 a1.2.2.2.2.1 hin ty0 hty a1.2.2.2.1 (a1.2.2.2.2.1 _ h1) (a1.2.2.2.2.1 _ h2) (a1.2.2.2.2.1 _ h3) a8.2.2.1 a8.1 a8.2.1 a9 a1.2.2.2.2.2.2.2 hc hdf (by omega) (by omega) hd (fun q H1 hP hD hS => ?_)
  have hag := hy_ag_new w.length q (κ w.length) ρ κ
  have hκ : hy_up κ w.length (κ w.length) = κ := by funext j; unfold hy_up; split <;> simp_all
  rw [hκ] at hag
  have e1 : hy_w b (hy_up ρ w.length q) κ (w ++ [.inr (a, hy_dflt a)]) = hy_w b ρ κ w ++ [(q, .inr (a, (hy_dflt a).map (hy_v b ρ)))] := by
    rw [hy_w_app, hy_w_ag (n := w.length) (fun k hk => ⟨hy_up_lt _ _ hk, rfl⟩) (Nat.le_refl _) o3, hy_up_same]
    simp only [hy_c]
    rw [hy_vs_ag (n := w.length) (fun k hk => hy_up_lt _ _ hk) (hy_dflt_vok a _)]
  have e2 : (Value.ref q :: st.map (hy_v b ρ)) = (Sum.inr (Sum.inl w.length) :: st : List hyV).map (hy_v b (hy_up ρ w.length q)) := by
    rw [List.map_cons, hy_vs_ag (n := w.length) (fun k hk => hy_up_lt _ _ hk) o2]
    simp only [hy_v, hy_up_same]
  rw [e2]
  refine K p l e R s m args below meth c A dC dI b Qf (hy_up ρ w.length q) κ H1 locs (cells + 1) (slots + N) ls a1 a2 a3 a4 (by omega) (by omega) (hy_lr_ag (fun k hk => hy_up_lt _ _ hk) o1 a7) ⟨by rw [e1]; exact hP, by rw [e1]; exact hD, a8.2.2.1, fun k t n f hk => ?_⟩ hS ?_
  · rw [List.getElem?_append] at hk
    split at hk
    · exact a8.2.2.2 k t n f hk
    · rw [List.getElem?_singleton] at hk
      split at hk
      · cases hk
      · cases hk
  · show hy_rt p l e R s m args below meth c A dC dI b Qf M Q (kc - 1) (ks - N) (w ++ [_]).length _ _ (cells + 1) (slots + N)
    rw [List.length_append]
    exact hy_rt_grow a10 hkc hks hag
theorem hy_x_newarr {scr : hyS} {d : Nat} {M : hyM} {Q : hyQ} {kc ks pc : Nat} {L : hyL} {st : List hyV} {w : hyW} {t : ArrayType} {tb : Bool} {n : Int32} (hd : decode M.2.1 pc = .ok (.newarray t, 2)) (h1 : Cond.arrayClass (newarray.typeOf t) ∈ hy_tt) (h2 : newarray.typeOf t = hy_ty tb) (hkc : 1 ≤ kc) (hks : n.toNatClampNeg ≤ ks) (hn : ¬ n < 0) (hn2 : n.toNatClampNeg ≤ 1024) (hok : hy_fok L st w = true) (K : hy_X scr d M Q (kc - 1) (ks - n.toNatClampNeg) (pc + 2, L, .inr (.inl w.length) :: st, w ++ [.inl (tb, n.toNatClampNeg, fun _ => 0)])) : hy_X scr d M Q kc ks (pc, L, .inl n :: st, w) := by
  intro p l e R s m args below meth c A dC dI b Qf ρ κ H locs cells slots ls a1 a2 a3 a4 a5 a6 a7 a8 a9 a10
  obtain ⟨o1, o2, o3⟩ := hy_fok_ok hok
  refine va_newa (D := (dC, dI)) (N' := n.toNatClampNeg) (a0 := (n.toNatClampNeg, .inl (fun _ => 0))) a1.1 a1.2.1 (a1.2.2.2.2.1 _ h1) h2 a8.2.2.1 a8.1 a8.2.1 a9 a1.2.2.2.2.2.2.2 (fun cA => by cases tb <;> rfl) hn rfl (by cases tb <;> simp only [hy_ty, componentBytes] <;> omega) (by omega) (by omega) hd (fun q cA H1 hK hP hD hS => ?_)
  have hag := hy_ag_new w.length q cA ρ κ
  have e1 : hy_w b (hy_up ρ w.length q) (hy_up κ w.length cA) (w ++ [.inl (tb, n.toNatClampNeg, fun _ => 0)]) = hy_w b ρ κ w ++ [(q, .inl (cA, n.toNatClampNeg, .inl (fun _ => 0)))] := by
    rw [hy_w_app, hy_w_ag (n := w.length) (fun k hk => ⟨hy_up_lt _ _ hk, hy_up_lt _ _ hk⟩) (Nat.le_refl _) o3, hy_up_same]
    simp only [hy_c, hy_up_same]
  have e2 : (Value.ref q :: st.map (hy_v b ρ)) = (Sum.inr (Sum.inl w.length) :: st : List hyV).map (hy_v b (hy_up ρ w.length q)) := by
    rw [List.map_cons, hy_vs_ag (n := w.length) (fun k hk => hy_up_lt _ _ hk) o2]
    simp only [hy_v, hy_up_same]
  show W p l e R s m args below meth c H1 locs (cells + 1) (slots + n.toNatClampNeg) Qf (F0 m (pc + 2) ls (Value.ref q :: st.map (hy_v b ρ)))
  rw [e2]
  refine K p l e R s m args below meth c A dC dI b Qf (hy_up ρ w.length q) (hy_up κ w.length cA) H1 locs (cells + 1) (slots + n.toNatClampNeg) ls a1 a2 a3 a4 (by omega) (by omega) (hy_lr_ag (fun k hk => hy_up_lt _ _ hk) o1 a7) ⟨by rw [e1]; exact hP, by rw [e1]; exact hD, a8.2.2.1, fun k t n f hk => ?_⟩ hS ?_
  · rw [List.getElem?_append] at hk
    split at hk
    · rename_i hlt
      rw [hy_up_lt _ _ hlt]
      exact a8.2.2.2 k t n f hk
    · rw [List.getElem?_singleton] at hk
      split at hk
      · rename_i hge hz
        cases hk
        have : k = w.length := by omega
        rw [this, hy_up_same]
        exact hK.sub (tys' := [(cA, hy_ty tb)]) [0] rfl
      · cases hk
  · show hy_rt p l e R s m args below meth c A dC dI b Qf M Q (kc - 1) (ks - n.toNatClampNeg) (w ++ [_]).length _ _ (cells + 1) (slots + n.toNatClampNeg)
    rw [List.length_append]
    exact hy_rt_grow a10 hkc hks hag
end
section
/-! ===== calls ===== -/
theorem hy_good {ws : List Cond} (h : ∀ w ∈ ws, w ∈ hy_tt) : GoodIn hy_tt ws := fun w hw => ⟨h w hw, good_of_word (List.mem_filter.mp (h w hw)).2⟩
theorem hy_ws_in {M : hyM} (h : Cond.code M.1 M.2.1 M.2.2.1 M.2.2.2 ∈ hy_tt) : ∀ w ∈ hy_ws M, w ∈ hy_tt := fun w hw => (List.mem_cons.mp hw).elim (fun e => e ▸ h) id
abbrev hy_Pc (dC : Nat → ClassId) (dI : Nat → Nat → Nat) (b : Nat) (ρ : Nat → Nat) (κ : Nat → ClassId) (sz : Nat) (as : List hyV) (w : hyW) : Array Value → State → Prop := va_Pc (as.map (hy_v b ρ)) (fun U => U.heap.size = sz ∧ hy_U dC dI b ρ κ (fun _ => True) w U U.heap ∧ ∀ x ∈ hy_nw, va_Nw x U)
theorem hy_blind {dC : Nat → ClassId} {dI : Nat → Nat → Nat} {b : Nat} {ρ : Nat → Nat} {κ : Nat → ClassId} {sz : Nat} {as : List hyV} {w : hyW} : FrameBlind (hy_Pc dC dI b ρ κ sz as w) := by
  intro a U g mk q
  obtain ⟨q0, q1, ⟨q2, q3, q4⟩, q5⟩ := q
  exact ⟨q0, q1, ⟨q2, q3, hy_K_moved (u := U) (U := U.calling g mk a) (Vm.Alike.refl U.vm) q4⟩, hy_nw_same (s := U) (U := U.calling g mk a) rfl q5⟩
theorem hy_pre {dC : Nat → ClassId} {dI : Nat → Nat → Nat} {b : Nat} {ρ : Nat → Nat} {κ : Nat → ClassId} {as : List hyV} {w : hyW} {s : State} {H : Heap} {A : Nat → Prop} (h : hy_U dC dI b ρ κ A w s H) (hn : ∀ x ∈ hy_nw, va_Nw x s) : ∀ U : State, U.heap = H → s.WarmedH U.vm → hy_Pc dC dI b ρ κ H.size as w (as.map (hy_v b ρ)).toArray U := by
  intro U hU hW
  exact ⟨rfl, by rw [hU], ⟨by rw [hU]; exact h.1, h.2.1.weaken (fun _ _ _ _ => trivial), hy_K_moved hW.alike h.2.2⟩, hy_nw_warm hW hn⟩
theorem hy_free {dC : Nat → ClassId} {dI : Nat → Nat → Nat} {b : Nat} {ρ : Nat → Nat} {κ : Nat → ClassId} {w : hyW} {s : State} {H : Heap} {A : Nat → Prop} {locs : List Loc} (h : hy_U dC dI b ρ κ A w s H) (hS : va_S A s.heap H locs) (hA : ∀ q, s.heap.size ≤ q → A q) : ∀ q, va_A (hy_w b ρ κ w) H.size q → A q := by
  rintro q (⟨k, e, hk⟩ | hq)
  · exact h.2.1.2 k _ hk
  · exact hA q (Nat.le_trans hS.1 hq)
/-- what a call instruction does, of whatever kind: the callee's contract is run -/
def hy_run (M Mc : hyM) (d' mc ms pc : Nat) (L : hyL) (st st' as : List hyV) (w : hyW) : Prop :=
  ∀ (p : Program) (l : Launch) (e : Env) (R : Room) (s : State) (m : MethodId) (args : Array Value) (below : List Frame) (meth : Method) (c : Code) (A : Nat → Prop) (dC : Nat → ClassId) (dI : Nat → Nat → Nat) (b : Nat) (ρ : Nat → Nat) (κ : Nat → ClassId) (H : Heap) (locs : List Loc) (cells slots : Nat) (ls : Array Slot) (Qc : Array Value → State → Outcome → State → Prop) (free : Addr → Prop),
    hy_cx M p s m args meth c A → d' + 1 ≤ R.frames → 40 * (d' + 2) ≤ R.locals → cells + mc ≤ R.cells → slots + ms ≤ R.slots → hy_lr b ρ M.2.2.1 L ls → hy_U dC dI b ρ κ A w s H →
    Met l Mc.1 (hy_ws Mc) (hy_rm d' mc ms) (hy_Pc dC dI b ρ κ H.size as w) Qc mc ms free →
    va_Run p l e R s m args below meth c H locs cells slots mc ms (F0 m pc ls (st.map (hy_v b ρ))) (st'.map (hy_v b ρ)) (Qc (as.map (hy_v b ρ)).toArray) free
theorem hy_plain_ok {y : MethodName} {n : Nat} (h : hy_plain y n = true) : y.cls ≠ "java/lang/invoke/MethodHandle" ∧ y.cls ≠ "java/lang/invoke/VarHandle" ∧ (parseMethodDescriptor y.desc).map (fun d => d.parameters.length) = some n := by
  simp only [hy_plain, Bool.and_eq_true, decide_eq_true_eq] at h
  exact ⟨h.1.1, h.1.2, h.2⟩
theorem hy_mok_ok {M : hyM} {n : Nat} (h : hy_mok M n = true) : (M.1.cls ≠ "java/lang/invoke/MethodHandle" ∧ M.1.cls ≠ "java/lang/invoke/VarHandle" ∧ (parseMethodDescriptor M.1.desc).map (fun d => d.parameters.length) = some n) ∧ M.2.2.1 ≤ 20 ∧ Cond.code M.1 M.2.1 M.2.2.1 M.2.2.2 ∈ hy_tt ∧ Cond.initialized M.1.cls ∈ hy_tt := by
  simp only [hy_mok, Bool.and_eq_true, decide_eq_true_eq] at h
  exact ⟨hy_plain_ok h.1.1.1, h.1.1.2, hy_inT_mem h.1.2, hy_inT_mem h.2⟩
theorem hy_room_st {m : MethodId} {pc : Nat} {ls : Array Slot} {rest : List Value} {b : Nat} {ρ : Nat → Nat} {st : List hyV} (h : st.length ≤ 8) : 2 * (F0 m pc ls rest).monitorRoom + ((st.map (hy_v b ρ)).map fun v => v.category).sum ≤ 8 := by
  refine lv_room ?_
  have : (st.map (hy_v b ρ)).map (fun v => v.category) = List.replicate st.length 1 := by
    rw [List.map_map]
    apply List.ext_getElem?
    intro i
    rw [List.getElem?_map, List.getElem?_replicate]
    cases hi : st[i]? with
    | none => rw [if_neg (by rw [List.getElem?_eq_none_iff] at hi; omega)]; rfl
    | some x => rw [if_pos (List.getElem?_eq_some_iff.mp hi).1]; simp [hy_v_cat]
  rw [this, List.sum_replicate_nat]
  omega
theorem hy_runS {M Mc : hyM} {d' mc ms pc i n : Nat} {L : hyL} {st' as : List hyV} {w : hyW} (hd : decode M.2.1 pc = .ok (.invokestatic i, 3)) (hm : hy_mok Mc n = true) (hs : Cond.static Mc.1 ∈ hy_tt) (hl : Cond.methodLink M.1.cls i Mc.1 ∈ hy_tt) (hn : as.length = n) (h8 : st'.length ≤ 8) : hy_run M Mc d' mc ms pc L (as.reverse ++ st') st' as w := by
  intro p l e R s m args below meth c A dC dI b ρ κ H locs cells slots ls Qc free a1 a2 a3 a4 a5 a6 a7 hM
  obtain ⟨m1, m2, m3, m4⟩ := hy_mok_ok hm
  refine va_runS (As := as.map (hy_v b ρ)) (Ts := hy_tt) (own := M.1.cls) ⟨a1.1, a1.2.1, a1.2.2.1, a1.2.2.2.1, a1.2.2.2.2.1⟩ hM (va_cwS n a1.2.2.2.2.1 (hy_good (fun x hx => ?_)) rfl rfl rfl m1 ⟨a2, ?_⟩) ⟨hy_blind, hy_pre a7 a1.2.2.2.2.2.1⟩ rfl (by rw [List.length_map]; exact hn) a6.1 (by simp) (hy_room_st h8) hd ⟨a4, a5⟩
  · rcases List.mem_append.mp hx with h | h
    · simp only [List.mem_cons, List.not_mem_nil, or_false] at h
      rcases h with rfl | rfl | rfl
      · exact hl
      · exact hs
      · exact m4
    · exact hy_ws_in m3 x h
  · show 8 + (Mc.2.2.1 + 11) + 40 * (d' + 1) ≤ R.locals
    omega
theorem hy_runSN {M Mc : hyM} {d' mc ms pc i n : Nat} {L : hyL} {st' as : List hyV} {w : hyW} (hd : decode M.2.1 pc = .ok (.invokestatic i, 3)) (hm : hy_mok Mc n = true) (hs : Cond.static Mc.1 ∈ hy_tt) (hl : Cond.methodLinkNest M.1.cls i Mc.1 "HuskYard" ∈ hy_nw) (hn : as.length = n) (h8 : st'.length ≤ 8) : hy_run M Mc d' mc ms pc L (as.reverse ++ st') st' as w := by
  intro p l e R s m args below meth c A dC dI b ρ κ H locs cells slots ls Qc free a1 a2 a3 a4 a5 a6 a7 hM
  obtain ⟨m1, m2, m3, m4⟩ := hy_mok_ok hm
  refine va_runSN (As := as.map (hy_v b ρ)) (Ts := hy_tt) (own := M.1.cls) ⟨a1.1, a1.2.1, a1.2.2.1, a1.2.2.2.1, a1.2.2.2.2.1⟩ hM ⟨va_cnB n a1.2.2.2.2.1 (hy_good (hy_ws_in m3)) rfl rfl rfl (a1.2.2.2.2.2.1 _ hl) (a1.2.2.2.2.1 _ m4) m1 ⟨a2, ?_⟩, a1.2.2.2.2.1 _ hs, trivial⟩ ⟨hy_blind, hy_pre a7 a1.2.2.2.2.2.1⟩ rfl (by rw [List.length_map]; exact hn) a6.1 (by simp) (hy_room_st h8) hd ⟨a4, a5⟩
  show 8 + (Mc.2.2.1 + 11) + 40 * (d' + 1) ≤ R.locals
  omega
theorem hy_runV {M Mc : hyM} {d' mc ms pc i n k a : Nat} {L : hyL} {st' as : List hyV} {w : hyW} {C : String} {T : u_T} {N : Nat} {fs : List hyV} (hd : decode M.2.1 pc = .ok (.invokevirtual i, 3)) (hm : hy_mok Mc n = true) (hc : vwCl[a]? = some (C, T, N)) (hC : C = Mc.1.cls) (h1 : Cond.instanceMethod Mc.1 ∈ hy_tt) (h2 : Cond.selects C Mc.1 Mc.1 ∈ hy_tt) (hl : Cond.methodLink M.1.cls i Mc.1 ∈ hy_tt) (hw : w[k]? = some (.inr (a, fs))) (hn : as.length = n) (h8 : st'.length ≤ 8) : hy_run M Mc d' mc ms pc L ((.inr (.inl k) :: as).reverse ++ st') st' (.inr (.inl k) :: as) w := by
  intro p l e R s m args below meth c A dC dI b ρ κ H locs cells slots ls Qc free a1 a2 a3 a4 a5 a6 a7 hM
  obtain ⟨m1, m2, m3, m4⟩ := hy_mok_ok hm
  refine va_runV (C := C) (b := ρ k) (As := as.map (hy_v b ρ)) (Ts := hy_tt) (own := M.1.cls) ⟨a1.1, a1.2.1, a1.2.2.1, a1.2.2.2.1, a1.2.2.2.2.1⟩ hM (cwV n a1.2.2.2.2.1 (hy_good (fun x hx => ?_)) rfl rfl rfl ⟨hC.symm, m1⟩ ⟨a2, ?_⟩) ⟨hy_blind, va_recv a7.2.2.1 a7.1 hc (hy_w_at hw), hy_pre a7 a1.2.2.2.2.2.1⟩ rfl (by rw [List.length_map]; exact hn) a6.1 (by simp [hy_v]) (hy_room_st h8) hd ⟨a4, a5⟩
  · rcases List.mem_append.mp hx with h | h
    · simp only [List.mem_cons, List.not_mem_nil, or_false] at h
      rcases h with rfl | rfl | rfl | rfl
      · exact hl
      · exact h1
      · exact h2
      · rw [hC]; exact m4
    · exact hy_ws_in m3 x h
  · show 8 + (Mc.2.2.1 + 11) + 40 * (d' + 1) ≤ R.locals
    omega
theorem hy_runI {M Mc : hyM} {d' mc ms pc i n k : Nat} {L : hyL} {st' as : List hyV} {w : hyW} (hd : decode M.2.1 pc = .ok (.invokespecial i, 3)) (hm : hy_mok Mc n = true) (hr : Mc.2.2.2 = none) (hi : Mc.1.name = "<init>") (h1 : Cond.instanceMethod Mc.1 ∈ hy_tt) (hl : Cond.methodLink M.1.cls i Mc.1 ∈ hy_tt) (hn : as.length = n) (h8 : st'.length ≤ 8) : hy_run M Mc d' mc ms pc L ((.inr (.inl k) :: as).reverse ++ st') st' (.inr (.inl k) :: as) w := by
  intro p l e R s m args below meth c A dC dI b ρ κ H locs cells slots ls Qc free a1 a2 a3 a4 a5 a6 a7 hM
  obtain ⟨m1, m2, m3, m4⟩ := hy_mok_ok hm
  have hw0 : hy_ws Mc = Cond.code Mc.1 Mc.2.1 Mc.2.2.1 none :: hy_tt := by unfold hy_ws; rw [hr]
  refine va_runI (b := ρ k) (As := as.map (hy_v b ρ)) (Ts := hy_tt) (own := M.1.cls) ⟨a1.1, a1.2.1, a1.2.2.1, a1.2.2.2.1, a1.2.2.2.2.1⟩ hM (cwI n a1.2.2.2.2.1 (hy_good (hy_ws_in m3)) hw0 rfl rfl (a1.2.2.2.2.1 _ m4) (a1.2.2.2.2.1 _ hl) (a1.2.2.2.2.1 _ h1) hi m1 ⟨a2, ?_⟩) ⟨hy_blind, hy_pre (as := .inr (.inl k) :: as) a7 a1.2.2.2.2.2.1⟩ rfl (by rw [List.length_map]; exact hn) a6.1 (by simp [hy_v]) (hy_room_st h8) hd ⟨a4, a5⟩
  show 8 + (Mc.2.2.1 + 11) + 40 * (d' + 1) ≤ R.locals
  omega
theorem hy_runIN {M Mc : hyM} {d' mc ms pc i n k : Nat} {L : hyL} {st' as : List hyV} {w : hyW} (hd : decode M.2.1 pc = .ok (.invokespecial i, 3)) (hm : hy_mok Mc n = true) (hr : Mc.2.2.2 = none) (hi : Mc.1.name = "<init>") (h1 : Cond.instanceMethod Mc.1 ∈ hy_tt) (hl : Cond.methodLinkNest M.1.cls i Mc.1 "HuskYard" ∈ hy_nw) (hn : as.length = n) (h8 : st'.length ≤ 8) : hy_run M Mc d' mc ms pc L ((.inr (.inl k) :: as).reverse ++ st') st' (.inr (.inl k) :: as) w := by
  intro p l e R s m args below meth c A dC dI b ρ κ H locs cells slots ls Qc free a1 a2 a3 a4 a5 a6 a7 hM
  obtain ⟨m1, m2, m3, m4⟩ := hy_mok_ok hm
  have hw0 : hy_ws Mc = Cond.code Mc.1 Mc.2.1 Mc.2.2.1 none :: hy_tt := by unfold hy_ws; rw [hr]
  refine va_runIN (b := ρ k) (As := as.map (hy_v b ρ)) (Ts := hy_tt) (own := M.1.cls) ⟨a1.1, a1.2.1, a1.2.2.1, a1.2.2.2.1, a1.2.2.2.2.1⟩ hM ⟨va_cnB n a1.2.2.2.2.1 (hy_good (hy_ws_in m3)) hw0 rfl rfl (a1.2.2.2.2.2.1 _ hl) (a1.2.2.2.2.1 _ m4) m1 ⟨a2, ?_⟩, hi, a1.2.2.2.2.1 _ h1⟩ ⟨hy_blind, hy_pre (as := .inr (.inl k) :: as) a7 a1.2.2.2.2.2.1⟩ rfl (by rw [List.length_map]; exact hn) a6.1 (by simp [hy_v]) (hy_room_st h8) hd ⟨a4, a5⟩
  show 8 + (Mc.2.2.1 + 11) + 40 * (d' + 1) ≤ R.locals
  omega
/-- behind a call that makes no cell -/
theorem hy_x_call {scr : hyS} {d d' : Nat} {M Mc : hyM} {Q Q1 : hyQ} {kc ks pc : Nat} {L : hyL} {st st' as : List hyV} {w : hyW} (hr : hy_run M Mc d' 0 0 pc L st st' as w) (hR : hy_R d' Mc 0 0 as w Q1) (hdd : d' + 1 ≤ d)
    (k : ∀ o w1, Q1 o w1 → hy_X scr d M Q kc ks (pc + 3, L, (match o with | some y => .inl y :: st' | none => st'), w1)) : hy_X scr d M Q kc ks (pc, L, st, w) := by
  intro p l e R s m args below meth c A dC dI b Qf ρ κ H locs cells slots ls a1 a2 a3 a4 a5 a6 a7 a8 a9 a10
  have hrun := hr p l e R s m args below meth c A dC dI b ρ κ H locs cells slots ls _ _ a1 (by omega) (by omega) (by omega) (by omega) a7 a8 (hR l dC dI b ρ κ H.size)
  have hF := hy_free a8 a9 a1.2.2.2.2.2.2.2
  revert hrun
  unfold hy_Qc
  cases hret : Mc.2.2.2 with
  | none =>
    intro hrun
    refine va_callv hrun a9 (fun q _ h => hF q h) hF (fun u t H1 locs1 ht hvm hw hB hz1 hk1 hS => ?_)
    obtain ⟨w1, ρ1, κ1⟩ := u
    obtain ⟨hq, g0, g1, g2⟩ := hw
    obtain ⟨rfl, rfl⟩ := g1 rfl
    rw [ht] at hB
    exact k none w1 hq p l e R s m args below meth c A dC dI b Qf _ _ H1 locs1 cells slots ls a1 a2 a3 a4 a5 a6 a7 ⟨hB.1, hB.2.1.weaken (fun _ q _ h => hF _ h), hy_K_moved hvm.symm hB.2.2⟩ hS (hy_rt_grow (mc := 0) (ms := 0) a10 (Nat.zero_le _) (Nat.zero_le _) ⟨g0, fun _ => ⟨rfl, rfl⟩, fun _ _ => ⟨rfl, rfl⟩⟩)
  | some ty =>
    intro hrun
    refine va_calli hrun a9 (fun q _ h => hF q h) hF (fun r u t H1 locs1 ht hvm hw hB hz1 hk1 hS => ?_)
    obtain ⟨w1, ρ1, κ1⟩ := u
    obtain ⟨hq, g0, g1, g2⟩ := hw
    obtain ⟨rfl, rfl⟩ := g1 rfl
    rw [ht] at hB
    exact k (some r) w1 hq p l e R s m args below meth c A dC dI b Qf _ _ H1 locs1 cells slots ls a1 a2 a3 a4 a5 a6 a7 ⟨hB.1, hB.2.1.weaken (fun _ q _ h => hF _ h), hy_K_moved hvm.symm hB.2.2⟩ hS (hy_rt_grow (mc := 0) (ms := 0) a10 (Nat.zero_le _) (Nat.zero_le _) ⟨g0, fun _ => ⟨rfl, rfl⟩, fun _ _ => ⟨rfl, rfl⟩⟩)
/-- behind a constructor's call -/
theorem hy_x_make {scr : hyS} {d d' mc ms : Nat} {M Mc : hyM} {Q Q1 : hyQ} {kc ks pc : Nat} {L : hyL} {st st' as : List hyV} {w : hyW} (hr : hy_run M Mc d' mc ms pc L st st' as w) (hret : Mc.2.2.2 = none) (hok : hy_fok L st' w = true) (hR : hy_R d' Mc mc ms as w Q1) (hdd : d' + 1 ≤ d) (hmc : mc ≤ kc) (hms : ms ≤ ks)
    (k : ∀ w1, Q1 none w1 → hy_X scr d M Q (kc - mc) (ks - ms) (pc + 3, L, st', w1)) : hy_X scr d M Q kc ks (pc, L, st, w) := by
  intro p l e R s m args below meth c A dC dI b Qf ρ κ H locs cells slots ls a1 a2 a3 a4 a5 a6 a7 a8 a9 a10
  obtain ⟨o1, o2, o3⟩ := hy_fok_ok hok
  have hrun := hr p l e R s m args below meth c A dC dI b ρ κ H locs cells slots ls _ _ a1 (by omega) (by omega) (by omega) (by omega) a7 a8 (hR l dC dI b ρ κ H.size)
  have hF := hy_free a8 a9 a1.2.2.2.2.2.2.2
  revert hrun
  unfold hy_Qc
  rw [hret]
  intro hrun
  refine va_callv hrun a9 (fun q _ h => hF q h) hF (fun u t H1 locs1 ht hvm hw hB hz1 hk1 hS => ?_)
  obtain ⟨w1, ρ1, κ1⟩ := u
  obtain ⟨hq, hag⟩ := hw
  rw [ht] at hB
  have e2 : st'.map (hy_v b ρ) = st'.map (hy_v b ρ1) := (hy_vs_ag (n := w.length) (fun k hk => (hag.2.2 k hk).1) o2).symm
  rw [e2]
  exact k w1 hq p l e R s m args below meth c A dC dI b Qf _ _ H1 locs1 (cells + mc) (slots + ms) ls a1 a2 a3 a4 (by omega) (by omega) (hy_lr_ag (fun k hk => (hag.2.2 k hk).1) o1 a7) ⟨hB.1, hB.2.1.weaken (fun _ q _ h => hF _ h), hy_K_moved hvm.symm hB.2.2⟩ hS (hy_rt_grow a10 hmc hms hag)
end
section
/-! ===== the pure step is sound ===== -/
def hy_pfok (pf : hyP) : Prop := pf 0 = none ∧ ∀ (a n : Nat) (g : List Int32 → Int32), pf a = some (n, g) → ∀ (xs : List Int32) (w : hyW), xs.length = n → hy_R 3 (hy_pm a) 0 0 (xs.map (fun x => Sum.inl x)) w (fun o w1 => o = some (g xs) ∧ w1 = w)
theorem hy_pf0 : hy_pfok (fun _ => none) := ⟨rfl, fun a n g h => by cases h⟩
theorem hy_blt {a b : Nat} (h : Nat.ble a b = true) : a ≤ b := Nat.le_of_ble_eq_true h
set_option maxHeartbeats 4000000 in
theorem hy_st_ok {pf : hyP} {scr : hyS} {d : Nat} {M : hyM} {Q : hyQ} {pc : Nat} {e : hyE} {kc ks : Nat} {L : hyL} {st : List hyV} {w : hyW} {K : Nat → Nat → hyF → Prop} (hpf : hy_pfok pf) (hok : hy_ok M pc e = true) (hK : ∀ kc ks f, K kc ks f → hy_X scr d M Q kc ks f) (h : hy_st pf scr d Q e kc ks L st w K) : hy_X scr d M Q kc ks (pc, L, st, w) := by
  obtain ⟨len, hd, hnx⟩ := hy_ok_dec hok
  have hlk : hy_lk M pc e = true := (hy_and1 hok).2
  obtain ⟨ins, nx, a, b, c, r, v, mo, sw⟩ := e
  dsimp only at hd hnx
  cases ins with
  | iload_n k =>
    simp only [hy_lk, Bool.and_eq_true, decide_eq_true_eq] at hlk
    obtain ⟨rfl, rfl⟩ := hlk
    obtain rfl : len = 1 := by omega
    obtain ⟨o, h1, h2⟩ := hy_nth_ok h
    match o, h1, h2 with
    | some (.inl x), h1, h2 => exact hy_x_iload_n hd h1 (hK _ _ _ h2)
  | iload k =>
    simp only [hy_lk, Bool.and_eq_true, decide_eq_true_eq] at hlk
    obtain ⟨rfl, rfl⟩ := hlk
    obtain rfl : len = 2 := by omega
    obtain ⟨o, h1, h2⟩ := hy_nth_ok h
    match o, h1, h2 with
    | some (.inl x), h1, h2 => exact hy_x_iload hd h1 (hK _ _ _ h2)
  | aload_n k =>
    simp only [hy_lk, Bool.and_eq_true, decide_eq_true_eq] at hlk
    obtain ⟨rfl, rfl⟩ := hlk
    obtain rfl : len = 1 := by omega
    obtain ⟨o, h1, h2⟩ := hy_nth_ok h
    match o, h1, h2 with
    | some (.inr (.inl x)), h1, h2 => exact hy_x_aload_n (Or.inl ⟨_, rfl⟩) hd h1 (hK _ _ _ h2)
    | some (.inr (.inr true)), h1, h2 => exact hy_x_aload_n (Or.inr rfl) hd h1 (hK _ _ _ h2)
  | aload k =>
    simp only [hy_lk, Bool.and_eq_true, decide_eq_true_eq] at hlk
    obtain ⟨rfl, rfl⟩ := hlk
    obtain rfl : len = 2 := by omega
    obtain ⟨o, h1, h2⟩ := hy_nth_ok h
    match o, h1, h2 with
    | some (.inr (.inl x)), h1, h2 => exact hy_x_aload (Or.inl ⟨_, rfl⟩) hd h1 (hK _ _ _ h2)
    | some (.inr (.inr true)), h1, h2 => exact hy_x_aload (Or.inr rfl) hd h1 (hK _ _ _ h2)
  | istore_n k =>
    simp only [hy_lk, Bool.and_eq_true, decide_eq_true_eq] at hlk
    obtain ⟨rfl, rfl⟩ := hlk
    obtain rfl : len = 1 := by omega
    match st, h with
    | .inl x :: st', h =>
      obtain ⟨h1, h2⟩ := hy_upd_ok h
      exact hy_x_istore_n hd h1 (hK _ _ _ h2)
  | istore k =>
    simp only [hy_lk, Bool.and_eq_true, decide_eq_true_eq] at hlk
    obtain ⟨rfl, rfl⟩ := hlk
    obtain rfl : len = 2 := by omega
    match st, h with
    | .inl x :: st', h =>
      obtain ⟨h1, h2⟩ := hy_upd_ok h
      exact hy_x_istore hd h1 (hK _ _ _ h2)
  | astore_n k =>
    simp only [hy_lk, Bool.and_eq_true, decide_eq_true_eq] at hlk
    obtain ⟨rfl, rfl⟩ := hlk
    obtain rfl : len = 1 := by omega
    match st, h with
    | .inr (.inl x) :: st', h =>
      obtain ⟨h1, h2⟩ := hy_upd_ok h
      exact hy_x_astore_n hd h1 (hK _ _ _ h2)
  | astore k =>
    simp only [hy_lk, Bool.and_eq_true, decide_eq_true_eq] at hlk
    obtain ⟨rfl, rfl⟩ := hlk
    obtain rfl : len = 2 := by omega
    match st, h with
    | .inr (.inl x) :: st', h =>
      obtain ⟨h1, h2⟩ := hy_upd_ok h
      exact hy_x_astore hd h1 (hK _ _ _ h2)
  | iconst n =>
    simp only [hy_lk, Bool.and_eq_true, decide_eq_true_eq] at hlk
    obtain ⟨rfl, hv⟩ := hlk
    obtain rfl : len = 1 := by omega
    exact hy_x_iconst hd hv (hK _ _ _ h)
  | bipush n =>
    simp only [hy_lk, Bool.and_eq_true, decide_eq_true_eq] at hlk
    obtain ⟨rfl, hv⟩ := hlk
    obtain rfl : len = 2 := by omega
    exact hy_x_bipush hd hv (hK _ _ _ h)
  | sipush n =>
    simp only [hy_lk, Bool.and_eq_true, decide_eq_true_eq] at hlk
    obtain ⟨rfl, hv⟩ := hlk
    obtain rfl : len = 3 := by omega
    exact hy_x_sipush hd hv (hK _ _ _ h)
  | ldc i =>
    simp only [hy_lk, Bool.and_eq_true, decide_eq_true_eq] at hlk
    obtain ⟨rfl, hv⟩ := hlk
    obtain rfl : len = 2 := by omega
    exact hy_x_ldc hd (hy_inT_mem hv) (hK _ _ _ h)
  | ldc_w i =>
    simp only [hy_lk, Bool.and_eq_true, decide_eq_true_eq] at hlk
    obtain ⟨rfl, hv⟩ := hlk
    obtain rfl : len = 3 := by omega
    exact hy_x_ldcw hd (hy_inT_mem hv) (hK _ _ _ h)
  | iinc i n =>
    simp only [hy_lk, Bool.and_eq_true, decide_eq_true_eq] at hlk
    obtain ⟨⟨rfl, rfl⟩, hv⟩ := hlk
    obtain rfl : len = 3 := by omega
    obtain ⟨o, h1, h2⟩ := hy_nth_ok h
    match o, h1, h2 with
    | some (.inl x), h1, h2 => exact hy_x_iinc hd hv h1 (hK _ _ _ (hy_upd_ok h2).2)
  | iadd =>
    simp only [hy_lk, decide_eq_true_eq] at hlk
    subst hlk
    obtain rfl : len = 1 := by omega
    match st, h with
    | .inl y :: .inl x :: st', h => exact hy_s0 (fun p l e R s m args below meth c A dC dI b Qf ρ κ H locs cells slots ls h1 h2 h3 h4 h7 h8 h9 kk => lv_iadd h1.1 h1.2.1 hd kk) (hK _ _ _ h)
  | isub =>
    simp only [hy_lk, decide_eq_true_eq] at hlk
    subst hlk
    obtain rfl : len = 1 := by omega
    match st, h with
    | .inl y :: .inl x :: st', h => exact hy_s0 (fun p l e R s m args below meth c A dC dI b Qf ρ κ H locs cells slots ls h1 h2 h3 h4 h7 h8 h9 kk => lv_isub h1.1 h1.2.1 hd kk) (hK _ _ _ h)
  | imul =>
    simp only [hy_lk, decide_eq_true_eq] at hlk
    subst hlk
    obtain rfl : len = 1 := by omega
    match st, h with
    | .inl y :: .inl x :: st', h => exact hy_s0 (fun p l e R s m args below meth c A dC dI b Qf ρ κ H locs cells slots ls h1 h2 h3 h4 h7 h8 h9 kk => lv_imul h1.1 h1.2.1 hd kk) (hK _ _ _ h)
  | iand =>
    simp only [hy_lk, decide_eq_true_eq] at hlk
    subst hlk
    obtain rfl : len = 1 := by omega
    match st, h with
    | .inl y :: .inl x :: st', h => exact hy_s0 (fun p l e R s m args below meth c A dC dI b Qf ρ κ H locs cells slots ls h1 h2 h3 h4 h7 h8 h9 kk => lv_iand h1.1 h1.2.1 hd kk) (hK _ _ _ h)
  | ior =>
    simp only [hy_lk, decide_eq_true_eq] at hlk
    subst hlk
    obtain rfl : len = 1 := by omega
    match st, h with
    | .inl y :: .inl x :: st', h => exact hy_s0 (fun p l e R s m args below meth c A dC dI b Qf ρ κ H locs cells slots ls h1 h2 h3 h4 h7 h8 h9 kk => lv_ior h1.1 h1.2.1 hd kk) (hK _ _ _ h)
  | ixor =>
    simp only [hy_lk, decide_eq_true_eq] at hlk
    subst hlk
    obtain rfl : len = 1 := by omega
    match st, h with
    | .inl y :: .inl x :: st', h => exact hy_s0 (fun p l e R s m args below meth c A dC dI b Qf ρ κ H locs cells slots ls h1 h2 h3 h4 h7 h8 h9 kk => lv_ixor h1.1 h1.2.1 hd kk) (hK _ _ _ h)
  | ishl =>
    simp only [hy_lk, decide_eq_true_eq] at hlk
    subst hlk
    obtain rfl : len = 1 := by omega
    match st, h with
    | .inl y :: .inl x :: st', h => exact hy_s0 (fun p l e R s m args below meth c A dC dI b Qf ρ κ H locs cells slots ls h1 h2 h3 h4 h7 h8 h9 kk => lv_ishl h1.1 h1.2.1 hd kk) (hK _ _ _ h)
  | ishr =>
    simp only [hy_lk, decide_eq_true_eq] at hlk
    subst hlk
    obtain rfl : len = 1 := by omega
    match st, h with
    | .inl y :: .inl x :: st', h => exact hy_s0 (fun p l e R s m args below meth c A dC dI b Qf ρ κ H locs cells slots ls h1 h2 h3 h4 h7 h8 h9 kk => lv_ishr h1.1 h1.2.1 hd kk) (hK _ _ _ h)
  | iushr =>
    simp only [hy_lk, decide_eq_true_eq] at hlk
    subst hlk
    obtain rfl : len = 1 := by omega
    match st, h with
    | .inl y :: .inl x :: st', h => exact hy_s0 (fun p l e R s m args below meth c A dC dI b Qf ρ κ H locs cells slots ls h1 h2 h3 h4 h7 h8 h9 kk => lv_iushr h1.1 h1.2.1 hd rfl kk) (hK _ _ _ h)
  | idiv =>
    simp only [hy_lk, decide_eq_true_eq] at hlk
    subst hlk
    obtain rfl : len = 1 := by omega
    match st, h with
    | .inl y :: .inl x :: st', h => exact hy_s0 (fun p l e R s m args below meth c A dC dI b Qf ρ κ H locs cells slots ls h1 h2 h3 h4 h7 h8 h9 kk => lv_idiv h1.1 h1.2.1 hd h.1 kk) (hK _ _ _ h.2)
  | dup =>
    simp only [hy_lk, decide_eq_true_eq] at hlk
    subst hlk
    obtain rfl : len = 1 := by omega
    match st, h with
    | x :: st', h => exact hy_s0 (fun p l e R s m args below meth c A dC dI b Qf ρ κ H locs cells slots ls h1 h2 h3 h4 h7 h8 h9 kk => lv_dup h1.1 h1.2.1 hd (hy_v_cat _ _ _) kk) (hK _ _ _ h)
  | dup2 =>
    simp only [hy_lk, decide_eq_true_eq] at hlk
    subst hlk
    obtain rfl : len = 1 := by omega
    match st, h with
    | x :: y :: st', h => exact hy_s0 (fun p l e R s m args below meth c A dC dI b Qf ρ κ H locs cells slots ls h1 h2 h3 h4 h7 h8 h9 kk => lv_dup2_11 h1.1 h1.2.1 hd (hy_v_cat _ _ _) (hy_v_cat _ _ _) kk) (hK _ _ _ h)
  | goto off =>
    simp only [hy_lk, Bool.and_eq_true, decide_eq_true_eq] at hlk
    obtain rfl : len = 3 := by omega
    exact hy_s0 (fun p l e R s m args below meth c A dC dI b Qf ρ κ H locs cells slots ls h1 h2 h3 h4 h7 h8 h9 kk => lv_goto h1.1 h1.2.1 hd hlk.2 kk) (hK _ _ _ h)
  | if_icmp cd off =>
    simp only [hy_lk, Bool.and_eq_true, decide_eq_true_eq] at hlk
    obtain ⟨rfl, ht⟩ := hlk
    obtain rfl : len = 3 := by omega
    match st, h with
    | .inl y :: .inl x :: st', h =>
      have hb := hy_br_ok h
      exact hy_x_icmp hd ht (fun q => hK _ _ _ (hb.1 q)) (fun q => hK _ _ _ (hb.2 q))
  | ifCond cd off =>
    simp only [hy_lk, Bool.and_eq_true, decide_eq_true_eq] at hlk
    obtain ⟨rfl, ht⟩ := hlk
    obtain rfl : len = 3 := by omega
    match st, h with
    | .inl x :: st', h =>
      have hb := hy_br_ok h
      exact hy_x_if hd ht (fun q => hK _ _ _ (hb.1 q)) (fun q => hK _ _ _ (hb.2 q))
  | tableswitch df lo hi offs =>
    simp only [hy_lk, Bool.and_eq_true, decide_eq_true_eq] at hlk
    obtain ⟨⟨h1, h2⟩, h3⟩ := hlk
    match st, h with
    | .inl x :: st', h =>
      have hs := hy_sw_ok (K := fun t => K kc ks (t, L, st', w)) h
      refine hy_s0 (fun p l e R s m args below meth c A dC dI b Qf ρ κ H locs cells slots ls g1 g2 g3 g4 g7 g8 g9 kk => ?_) (hK _ _ _ hs)
      have hl : (offs.toList.length : Int) = offs.size := by simp
      by_cases hin : x.toInt < lo ∨ hi < x.toInt
      · refine lv_tableOut g1.1 g1.2.1 hd hin ?_ kk
        rw [hy_tsw_out h3 (by omega)]
        exact h1
      · obtain ⟨o, o1, o2⟩ := hy_tsw_in (a := a) (x := x.toInt) h3 (by omega) (by omega)
        exact lv_tableIn g1.1 g1.2.1 hd (by omega) (by omega) (by rw [← Array.getElem?_toList]; exact o1) o2 kk
  | lookupswitch df ps =>
    simp only [hy_lk, Bool.and_eq_true, decide_eq_true_eq] at hlk
    obtain ⟨⟨h1, h2⟩, h3⟩ := hlk
    match st, h with
    | .inl x :: st', h =>
      have hs := hy_sw_ok (K := fun t => K kc ks (t, L, st', w)) h
      exact hy_s0 (fun p l e R s m args below meth c A dC dI b Qf ρ κ H locs cells slots ls g1 g2 g3 g4 g7 g8 g9 kk => lv_lookup g1.1 g1.2.1 hd h2 rfl (hy_lsw_ok x.toInt h1 h3) kk) (hK _ _ _ hs)
  | getfield i =>
    simp only [hy_lk] at hlk
    cases hc : vwCl[a]? with
    | none => rw [hc] at hlk; cases hlk
    | some q =>
      obtain ⟨C, T, N⟩ := q
      rw [hc] at hlk
      simp only [Bool.and_eq_true, decide_eq_true_eq] at hlk
      obtain ⟨⟨rfl, hb⟩, hl⟩ := hlk
      obtain rfl : len = 3 := by omega
      match st, h with
      | .inr (.inl k) :: st', h =>
        obtain ⟨cl, h1, h2⟩ := hy_nth_ok h
        rcases cl with c1 | ⟨ci, fs⟩
        · exact h2.elim
        · cases hci : Nat.beq ci a with
          | false => simp only [hci] at h2
          | true =>
            simp only [hci] at h2
            obtain rfl := Nat.eq_of_beq_eq_true hci
            obtain ⟨x, h3, h4⟩ := hy_nth_ok h2
            exact hy_x_get hd hc hb (hy_inT_mem hl) h1 h3 (hK _ _ _ h4)
  | putfield i =>
    simp only [hy_lk] at hlk
    cases hc : vwCl[a]? with
    | none => rw [hc] at hlk; cases hlk
    | some q =>
      obtain ⟨C, T, N⟩ := q
      rw [hc] at hlk
      simp only [Bool.and_eq_true, decide_eq_true_eq] at hlk
      obtain ⟨⟨⟨rfl, hb⟩, hl⟩, hfk⟩ := hlk
      obtain rfl : len = 3 := by omega
      match st, h with
      | x :: .inr (.inl k) :: st', h =>
        obtain ⟨cl, h1, h2⟩ := hy_nth_ok h
        rcases cl with c1 | ⟨ci, fs⟩
        · exact h2.elim
        · cases hci : Nat.beq ci a with
          | false => simp only [hci] at h2
          | true =>
            simp only [hci] at h2
            obtain rfl := Nat.eq_of_beq_eq_true hci
            obtain ⟨h3, -⟩ := hy_fits_ok h2
            obtain ⟨h4, h5⟩ := hy_upd_ok h3
            exact hy_x_put hd hc hb (hy_inT_mem hl) hfk h2 h1 h4 (hK _ _ _ (hy_upd_ok h5).2)
  | iaload =>
    simp only [hy_lk, decide_eq_true_eq] at hlk
    subst hlk
    obtain rfl : len = 1 := by omega
    match st, h with
    | .inl i :: .inr (.inl k) :: st', h =>
      obtain ⟨cl, h1, h2⟩ := hy_nth_ok h
      match cl, h1, h2 with
      | .inl (false, n, f), h1, h2 => exact hy_x_iald hd h1 h2.1 (hK _ _ _ h2.2)
    | .inl i :: .inr (.inr true) :: st', h =>
      match scr, h, hK with
      | some (L1, xs), h, hK => exact hy_x_sld hd h.1 (hK _ _ _ h.2)
  | baload =>
    simp only [hy_lk, decide_eq_true_eq] at hlk
    subst hlk
    obtain rfl : len = 1 := by omega
    match st, h with
    | .inl i :: .inr (.inl k) :: st', h =>
      obtain ⟨cl, h1, h2⟩ := hy_nth_ok h
      match cl, h1, h2 with
      | .inl (true, n, f), h1, h2 => exact hy_x_zald hd h1 h2.1 (hK _ _ _ h2.2)
  | iastore =>
    simp only [hy_lk, decide_eq_true_eq] at hlk
    subst hlk
    obtain rfl : len = 1 := by omega
    match st, h with
    | .inl x :: .inl i :: .inr (.inl k) :: st', h =>
      obtain ⟨cl, h1, h2⟩ := hy_nth_ok h
      match cl, h1, h2 with
      | .inl (false, n, f), h1, h2 => exact hy_x_iast hd h1 h2.1 (hK _ _ _ (hy_upd_ok h2.2).2)
  | bastore =>
    simp only [hy_lk, decide_eq_true_eq] at hlk
    subst hlk
    obtain rfl : len = 1 := by omega
    match st, h with
    | .inl x :: .inl i :: .inr (.inl k) :: st', h =>
      obtain ⟨cl, h1, h2⟩ := hy_nth_ok h
      match cl, h1, h2 with
      | .inl (true, n, f), h1, h2 => exact hy_x_zast hd h1 h2.1 (hK _ _ _ (hy_upd_ok h2.2).2)
  | arraylength =>
    simp only [hy_lk, decide_eq_true_eq] at hlk
    subst hlk
    obtain rfl : len = 1 := by omega
    match st, h with
    | .inr (.inr true) :: st', h =>
      match scr, h, hK with
      | some (L1, xs), h, hK => exact hy_x_slen hd (hK _ _ _ h)
  | ireturn =>
    simp only [hy_lk, decide_eq_true_eq] at hlk
    obtain rfl : len = 1 := by omega
    match st, h with
    | [.inl x], h => exact hy_x_ireturn hd h
  | return_ =>
    simp only [hy_lk, decide_eq_true_eq] at hlk
    obtain rfl : len = 1 := by omega
    match st, h with
    | [], h => exact hy_x_return hd h
  | new i =>
    simp only [hy_lk] at hlk
    cases hc : vwCl[a]? with
    | none => rw [hc] at hlk; cases hlk
    | some q =>
      obtain ⟨C, T, N⟩ := q
      rw [hc] at hlk
      simp only [Bool.and_eq_true, decide_eq_true_eq] at hlk
      obtain ⟨⟨⟨⟨rfl, rfl⟩, l1⟩, l2⟩, l3⟩ := hlk
      obtain rfl : len = 3 := by omega
      simp only [hy_st] at h
      split at h
      · rename_i g1 g2 g3
        exact hy_x_new hd hc (hy_inT_mem l1) (hy_inT_mem l2) (hy_inT_mem l3) (hy_blt g1) (hy_blt g2) g3 (hK _ _ _ h)
      · exact h.elim
  | newarray t =>
    simp only [hy_lk, Bool.and_eq_true, decide_eq_true_eq] at hlk
    obtain ⟨⟨rfl, l1⟩, l2⟩ := hlk
    obtain rfl : len = 2 := by omega
    match st, h with
    | .inl n :: st', h =>
      simp only [hy_st] at h
      split at h
      · rename_i g1 g2 g3
        exact hy_x_newarr hd (hy_inT_mem l1) l2 (hy_blt g1) (hy_blt g2) h.1.1 h.1.2 g3 (hK _ _ _ h.2)
      · exact h.elim
  | invokestatic i =>
    simp only [hy_lk] at hlk
    cases mo with
    | none => cases hlk
    | some Mc =>
      match r, hlk, h with
      | 1, hlk, h =>
        simp only [Bool.and_eq_true, decide_eq_true_eq] at hlk
        obtain ⟨⟨⟨⟨rfl, l1⟩, l2⟩, l3⟩, l4⟩ := hlk
        obtain rfl : len = 3 := by omega
        match st, h with
        | .inl y :: .inl x :: st', h =>
          simp only [hy_st] at h
          split at h
          · rename_i g1 g2
            have g2 := hy_blt g2
            have hr : ∀ (b : Nat) (ρ : Nat → Nat), ((st'.map (hy_v b ρ)).map fun v => v.category).sum ≤ 8 := fun b ρ => by
              have := hy_room_st (m := default) (pc := 0) (ls := #[]) (rest := []) (b := b) (ρ := ρ) (hy_blt g1)
              omega
            intro p l e R s m args below meth c A dC dI b Qf ρ κ H locs cells slots ls a1 a2 a3 a4 a5 a6 a7 a8 a9 a10
            have hr := hr b ρ
            exact va_mmax a1.1 a1.2.1 (a1.2.2.1.trans a7.1.symm) a1.2.2.2.1 (a1.2.2.2.2.1 _ (hy_inT_mem l1)) (a1.2.2.2.2.1 _ (hy_inT_mem l2)) (a1.2.2.2.2.1 _ (hy_inT_mem l3)) (a1.2.2.2.2.1 _ (hy_inT_mem l4)) (by omega) (by omega) (by omega) (by omega) hd (hK _ _ _ h p l e R s m args below meth c A dC dI b Qf ρ κ H locs cells slots ls a1 a2 a3 a4 a5 a6 a7 a8 a9 a10)
          · exact h.elim
      | 2, hlk, h =>
        simp only [Bool.and_eq_true, decide_eq_true_eq] at hlk
        obtain ⟨⟨⟨⟨rfl, l1⟩, l2⟩, l3⟩, l4⟩ := hlk
        obtain rfl : len = 3 := by omega
        match st, h with
        | .inl y :: .inl x :: st', h =>
          simp only [hy_st] at h
          split at h
          · rename_i g1 g2
            have g2 := hy_blt g2
            have hr : ∀ (b : Nat) (ρ : Nat → Nat), ((st'.map (hy_v b ρ)).map fun v => v.category).sum ≤ 8 := fun b ρ => by
              have := hy_room_st (m := default) (pc := 0) (ls := #[]) (rest := []) (b := b) (ρ := ρ) (hy_blt g1)
              omega
            intro p l e R s m args below meth c A dC dI b Qf ρ κ H locs cells slots ls a1 a2 a3 a4 a5 a6 a7 a8 a9 a10
            have hr := hr b ρ
            exact va_mmin a1.1 a1.2.1 (a1.2.2.1.trans a7.1.symm) a1.2.2.2.1 (a1.2.2.2.2.1 _ (hy_inT_mem l1)) (a1.2.2.2.2.1 _ (hy_inT_mem l2)) (a1.2.2.2.2.1 _ (hy_inT_mem l3)) (a1.2.2.2.2.1 _ (hy_inT_mem l4)) (by omega) (by omega) (by omega) (by omega) hd (hK _ _ _ h p l e R s m args below meth c A dC dI b Qf ρ κ H locs cells slots ls a1 a2 a3 a4 a5 a6 a7 a8 a9 a10)
          · exact h.elim
      | 0, hlk, h =>
        simp only [Bool.and_eq_true, decide_eq_true_eq] at hlk
        obtain ⟨⟨⟨⟨⟨rfl, l1⟩, l2⟩, l3⟩, l4⟩, l5⟩ := hlk
        obtain rfl : len = 3 := by omega
        obtain ⟨as, rest, p1, rfl, p3⟩ := hy_pop_ok h
        rw [List.append_nil] at p3
        cases h8 : Nat.ble rest.length 8 with
        | false => simp only [h8] at p3
        | true =>
          simp only [h8] at p3
          have hrun : ∀ d', hy_run M Mc d' 0 0 pc L (as.reverse ++ rest) rest as w := by
            intro d'
            split at l5
            · exact hy_runS hd l1 (hy_inT_mem l3) (hy_inT_mem l5) p1 (hy_blt h8)
            · exact hy_runSN hd l1 (hy_inT_mem l3) (hy_inN_mem l5) p1 (hy_blt h8)
          cases hp : pf a with
          | none =>
            simp only [hp] at p3
            obtain ⟨d', Q1, hR, hdd, hk⟩ := p3
            refine hy_x_call (hrun d') hR hdd (fun o w1 hq => ?_)
            have := hk o w1 hq
            cases o with
            | none => exact hK _ _ _ this
            | some y => exact hK _ _ _ this
          | some q =>
            obtain ⟨n, g⟩ := q
            simp only [hp] at p3
            split at p3
            · rename_i g1 g2
              obtain rfl := Nat.eq_of_beq_eq_true g1
              obtain ⟨xs, rfl, p4⟩ := hy_ints_ok p3
              by_cases ha : a = 0
              · subst ha
                rw [hpf.1] at hp
                cases hp
              · have hM : Mc = hy_pm a := by
                  simp only [Bool.or_eq_true, decide_eq_true_eq] at l4
                  rcases l4 with l4 | l4
                  · exact absurd (Nat.eq_of_beq_eq_true l4) ha
                  · exact l4
                subst hM
                have hR := hpf.2 a n g hp xs w (by simpa using p1)
                refine hy_x_call (hrun 3) hR (hy_blt g2) (fun o w1 hq => ?_)
                obtain ⟨rfl, rfl⟩ := hq
                exact hK _ _ _ p4
            · exact p3.elim
      | r + 3, hlk, h =>
        simp only [Bool.and_eq_true, decide_eq_true_eq] at hlk
        obtain ⟨⟨⟨⟨⟨rfl, l1⟩, l2⟩, l3⟩, l4⟩, l5⟩ := hlk
        obtain rfl : len = 3 := by omega
        obtain ⟨as, rest, p1, rfl, p3⟩ := hy_pop_ok h
        rw [List.append_nil] at p3
        cases h8 : Nat.ble rest.length 8 with
        | false => simp only [h8] at p3
        | true =>
          simp only [h8] at p3
          have hrun : ∀ d', hy_run M Mc d' 0 0 pc L (as.reverse ++ rest) rest as w := by
            intro d'
            split at l5
            · exact hy_runS hd l1 (hy_inT_mem l3) (hy_inT_mem l5) p1 (hy_blt h8)
            · exact hy_runSN hd l1 (hy_inT_mem l3) (hy_inN_mem l5) p1 (hy_blt h8)
          cases hp : pf a with
          | none =>
            simp only [hp] at p3
            obtain ⟨d', Q1, hR, hdd, hk⟩ := p3
            refine hy_x_call (hrun d') hR hdd (fun o w1 hq => ?_)
            have := hk o w1 hq
            cases o with
            | none => exact hK _ _ _ this
            | some y => exact hK _ _ _ this
          | some q =>
            obtain ⟨n, g⟩ := q
            simp only [hp] at p3
            split at p3
            · rename_i g1 g2
              obtain rfl := Nat.eq_of_beq_eq_true g1
              obtain ⟨xs, rfl, p4⟩ := hy_ints_ok p3
              by_cases ha : a = 0
              · subst ha
                rw [hpf.1] at hp
                cases hp
              · have hM : Mc = hy_pm a := by
                  simp only [Bool.or_eq_true, decide_eq_true_eq] at l4
                  rcases l4 with l4 | l4
                  · exact absurd (Nat.eq_of_beq_eq_true l4) ha
                  · exact l4
                subst hM
                have hR := hpf.2 a n g hp xs w (by simpa using p1)
                refine hy_x_call (hrun 3) hR (hy_blt g2) (fun o w1 hq => ?_)
                obtain ⟨rfl, rfl⟩ := hq
                exact hK _ _ _ p4
            · exact p3.elim
  | invokevirtual i =>
    simp only [hy_lk] at hlk
    split at hlk
    · rename_i Mc C T N hmo hc
      simp only [Bool.and_eq_true, decide_eq_true_eq] at hlk
      obtain ⟨⟨⟨⟨⟨rfl, l1⟩, l2⟩, l3⟩, l4⟩, l5⟩ := hlk
      obtain rfl : len = 3 := by omega
      obtain ⟨as, rest, p1, rfl, p3⟩ := hy_pop_ok h
      rw [List.append_nil] at p3
      cases h8 : Nat.ble rest.length 8 with
      | false => simp only [h8] at p3
      | true =>
        simp only [h8] at p3
        match as, p1, p3 with
        | .inr (.inl k) :: as, p1, p3 =>
          obtain ⟨cl, h1, h2⟩ := hy_nth_ok p3
          rcases cl with c1 | ⟨ci, fs⟩
          · exact h2.elim
          · cases hci : Nat.beq ci r with
            | false => simp only [hci] at h2
            | true =>
              simp only [hci] at h2
              obtain rfl := Nat.eq_of_beq_eq_true hci
              obtain ⟨d', Q1, hR, hdd, hk⟩ := h2
              refine hy_x_call (hy_runV hd l1 hc l2 (hy_inT_mem l3) (hy_inT_mem l4) (hy_inT_mem l5) h1 (by simpa using p1) (hy_blt h8)) hR hdd (fun o w1 hq => ?_)
              have := hk o w1 hq
              cases o with
              | none => exact hK _ _ _ this
              | some y => exact hK _ _ _ this
    · cases hlk
  | invokespecial i =>
    simp only [hy_lk] at hlk
    cases mo with
    | none =>
      simp only [Bool.and_eq_true, decide_eq_true_eq] at hlk
      obtain ⟨⟨⟨rfl, l1⟩, l2⟩, l3⟩ := hlk
      obtain rfl : len = 3 := by omega
      match st, h with
      | .inr (.inl k) :: st', h =>
        simp only [hy_st] at h
        split at h
        · rename_i g1 g2
          have g2 := hy_blt g2
          refine hy_s0 (fun p l e R s m args below meth c A dC dI b Qf ρ κ H locs cells slots ls a1 a2 a3 a4 a7 a8 a9 kk => ?_) (hK _ _ _ h)
          refine W.objInit a1.1 a1.2.1 a1.2.2.2.1 (a1.2.2.2.2.1 _ (hy_inT_mem l1)) (a1.2.2.2.2.1 _ (hy_inT_mem l2)) (a1.2.2.2.2.1 _ (hy_inT_mem l3)) rfl (a7.1.trans a1.2.2.1.symm) rfl hd (by omega) ?_ kk
          have := hy_room_st (m := m) (pc := pc) (ls := ls) (rest := (Sum.inr (Sum.inl k) :: st' : List hyV).map (hy_v b ρ)) (b := b) (ρ := ρ) (hy_blt g1)
          omega
        · exact h.elim
    | some Mc =>
      simp only [Bool.and_eq_true, decide_eq_true_eq] at hlk
      obtain ⟨⟨⟨⟨⟨rfl, l1⟩, l2⟩, l3⟩, l4⟩, l5⟩ := hlk
      obtain rfl : len = 3 := by omega
      obtain ⟨as, rest, p1, rfl, p3⟩ := hy_pop_ok h
      rw [List.append_nil] at p3
      split at p3
      · rename_i g1 g2
        match as, p1, p3 with
        | .inr (.inl k) :: as, p1, p3 =>
          obtain ⟨d', mc, ms, Q1, hR, hdd, hmc, hms, hk⟩ := p3
          have hret : Mc.2.2.2 = none := by simpa using l2
          have hrun : hy_run M Mc d' mc ms pc L ((.inr (.inl k) :: as).reverse ++ rest) rest (.inr (.inl k) :: as) w := by
            split at l5
            · exact hy_runI hd l1 hret l3 (hy_inT_mem l4) (hy_inT_mem l5) (by simpa using p1) (hy_blt g1)
            · exact hy_runIN hd l1 hret l3 (hy_inT_mem l4) (hy_inN_mem l5) (by simpa using p1) (hy_blt g1)
          exact hy_x_make hrun hret g2 hR hdd hmc hms (fun w1 hq => hK _ _ _ (hk w1 hq))
      · exact p3.elim
  | _ => exact absurd hlk (by simp [hy_lk])
/-- a stretch of pure steps, up to the program counters of S -/
theorem hy_go {pf : hyP} {tb : hyT} {scr : hyS} {d : Nat} {M : hyM} {Q : hyQ} (hpf : hy_pfok pf) (htb : hy_tok M tb) (S : List Nat) : ∀ (n kc ks : Nat) (f : hyF), hy_wp pf tb S scr d M Q n kc ks f → hy_X scr d M Q kc ks f
  | 0, _, _, _, h => h
  | n + 1, kc, ks, (pc, L, st, w), h => by
    simp only [hy_wp] at h
    cases he : hy_ft tb pc with
    | none => rw [he] at h; exact h.elim
    | some e =>
      rw [he] at h
      refine hy_st_ok hpf (hy_tok_at htb he) (fun kc' ks' f' h' => ?_) h
      cases hm : hy_mem S f'.1 with
      | true => rw [hm] at h'; exact h'
      | false => rw [hm] at h'; exact hy_go hpf htb S n kc' ks' f' h'
theorem hy_args_mem {b : Nat} {ρ : Nat → Nat} : ∀ (as : List hyV) (j i : Nat) (v : hyV), as[i]? = some v → (j + i, hy_v b ρ v) ∈ lv_args j (as.map (hy_v b ρ))
  | [], _, _, _, h => by simp at h
  | a :: r, j, 0, v, h => by
    simp at h; subst h
    exact List.mem_cons_self
  | a :: r, j, i + 1, v, h => by
    have h2 : r[i]? = some v := by simpa using h
    have hc : ¬ (hy_v b ρ a).category = 2 := by rw [hy_v_cat]; omega
    rw [List.map_cons, lv_args, if_neg hc]
    have := hy_args_mem (b := b) (ρ := ρ) r (j + 1) i v h2
    rw [show j + (i + 1) = j + 1 + i by omega]
    exact List.mem_cons_of_mem _ this
theorem hy_sl_len (b : Nat) (ρ : Nat → Nat) : ∀ as : List hyV, (lg_sl (as.map (hy_v b ρ))).length = as.length
  | [] => rfl
  | a :: r => by
    have hc : ¬ (hy_v b ρ a).category = 2 := by rw [hy_v_cat]; omega
    have := hy_sl_len b ρ r
    simp only [lg_sl] at this
    simp only [lg_sl, List.map_cons, List.flatMap_cons, if_neg hc, List.length_append, List.length_cons, List.length_nil]
    rw [this]; omega
def hy_loc (as : List hyV) (n : Nat) : hyL := as.map some ++ List.replicate (n - as.length) none
theorem hy_lr_entry {b : Nat} {ρ : Nat → Nat} {as : List hyV} {n : Nat} {ls : Array Slot} (hn : as.length ≤ n) (h : lv_has ls n (lv_args 0 (as.map (hy_v b ρ)))) : hy_lr b ρ n (hy_loc as n) ls := by
  refine ⟨h.1, by simp [hy_loc]; omega, h.2.1, fun i v hi => ?_⟩
  unfold hy_loc at hi
  rw [List.getElem?_append] at hi
  split at hi
  · rw [List.getElem?_map] at hi
    cases ha : as[i]? with
    | none => rw [ha] at hi; cases hi
    | some x =>
      rw [ha] at hi
      cases hi
      have := hy_args_mem (b := b) (ρ := ρ) as 0 i _ ha
      rw [Nat.zero_add] at this
      exact h.2.2 _ this
  · rw [List.getElem?_replicate] at hi
    split at hi
    · cases hi
    · cases hi
def hy_rok (M : hyM) (Q : hyQ) : Prop := (∀ x w, Q (some x) w → ∃ ty, M.2.2.2 = some ty ∧ narrow ty (.int x) = .int x) ∧ ∀ w, Q none w → M.2.2.2 = none
/-- a method's contract out of its frame's walk -/
theorem hy_R_of {d : Nat} {M : hyM} {kc ks : Nat} {as : List hyV} {w : hyW} {Q : hyQ} {L : hyL} (hy : plainName M.1.cls = true) (hq : hy_rok M Q) (hn : as.length ≤ M.2.2.1) (hL : hy_loc as M.2.2.1 = L) (k : hy_X none d M Q kc ks (0, L, [], w)) : hy_R d M kc ks as w Q := by
  intro l dC dI b ρ κ sz
  refine Met.ofW (cc := M.2.1) (maxL := M.2.2.1) (ret := M.2.2.2) hy rfl ?_
  intro p e s m args below meth c s₁ B hml hv
  obtain ⟨rfl, hsz, ⟨hP, hD0, hK⟩, hnw⟩ := hv
  have hts := atoms_spec (ws := hy_ws M) B.pre
  have hown : s.vm.findClass M.1.cls = some m.cls := findClass_of_methodNamed B.named
  subst hsz
  have hD := hD0.self (sz := s.heap.size)
  have hl := lv_entry (as.map (hy_v b ρ)) (n := M.2.2.1) (by rw [hy_sl_len]; exact hn)
  rw [lg_entry_eq]
  generalize (lg_sl (as.map (hy_v b ρ)) ++ List.replicate (M.2.2.1 - (lg_sl (as.map (hy_v b ρ))).length) Slot.unset).toArray = ls at hl ⊢
  have hlr := hy_lr_entry hn hl
  rw [hL] at hlr
  refine k p l e (headSpec (hy_ws M) (hy_rm d kc ks)).room s m _ below meth c (va_A (hy_w b ρ κ w) s.heap.size) dC dI b _ ρ κ s.heap [] 0 0 ls ⟨B.exec, B.bytes, hml, hown, fun x hx => hts x (List.mem_cons_of_mem _ hx), hnw, fun hi => ?_, fun q h => Or.inr h⟩ (fun _ _ h => by cases h) (Nat.le_refl _) (Nat.le_refl _) (Nat.le_of_eq (Nat.zero_add _)) (Nat.le_of_eq (Nat.zero_add _)) hlr ⟨hP, hD, hK⟩ va_S.rf ?_
  · rw [(name_of_methodNamed B.named B.method).1]; exact hi
  · intro r w' ρ' κ' H' locs' pc' ls' a1 a2 a3 a4 a5
    rw [Nat.zero_add, Nat.zero_add]
    cases r with
    | some x =>
      obtain ⟨ty, t1, t2⟩ := hq.1 x w' a1
      refine W.zret (ty := ty) B.exec B.bytes (B.returns.trans t1) t2 (fun t ht hW => ?_) a4.2.2 a5 B.notSynchronized
      unfold hy_Qc
      rw [t1]
      exact ⟨⟨x, (w', ρ', κ'), rfl, ⟨a1, a2⟩, by rw [ht]; exact a3.1, a3.2.1, hy_K_moved hW.alike a3.2.2⟩, a4.F ht⟩
    | none =>
      have t1 := hq.2 w' a1
      refine W.vret B.exec B.bytes (B.returns.trans t1) (fun t ht hW => ?_) a4.2.2 a5 B.notSynchronized
      unfold hy_Qc
      rw [t1]
      exact ⟨⟨(w', ρ', κ'), rfl, ⟨a1, a2⟩, by rw [ht]; exact a3.1, a3.2.1, hy_K_moved hW.alike a3.2.2⟩, a4.F ht⟩
/-- an int method, a boolean method, a void method -/
theorem hy_Ri {d : Nat} {M : hyM} {kc ks : Nat} {as : List hyV} {w : hyW} {Q : Int32 → hyW → Prop} {L : hyL} (hr : M.2.2.2 = some .int) (hy : plainName M.1.cls = true) (hn : as.length ≤ M.2.2.1) (hL : hy_loc as M.2.2.1 = L) (k : hy_X none d M (fun o w1 => ∃ x, o = some x ∧ Q x w1) kc ks (0, L, [], w)) : hy_R d M kc ks as w (fun o w1 => ∃ x, o = some x ∧ Q x w1) :=
  hy_R_of hy ⟨fun x w h => ⟨.int, hr, rfl⟩, fun w h => by obtain ⟨x, h, -⟩ := h; cases h⟩ hn hL k
theorem hy_Rz {d : Nat} {M : hyM} {kc ks : Nat} {as : List hyV} {w : hyW} {Q : Int32 → hyW → Prop} {L : hyL} (hr : M.2.2.2 = some .boolean) (hy : plainName M.1.cls = true) (hq : ∀ x w, Q x w → x = 0 ∨ x = 1) (hn : as.length ≤ M.2.2.1) (hL : hy_loc as M.2.2.1 = L) (k : hy_X none d M (fun o w1 => ∃ x, o = some x ∧ Q x w1) kc ks (0, L, [], w)) : hy_R d M kc ks as w (fun o w1 => ∃ x, o = some x ∧ Q x w1) :=
  hy_R_of hy ⟨fun x w h => ⟨.boolean, hr, by obtain ⟨y, h, h2⟩ := h; cases h; exact (hy_nar_bool (hq _ _ h2)).1⟩, fun w h => by obtain ⟨x, h, -⟩ := h; cases h⟩ hn hL k
theorem hy_Rv {d : Nat} {M : hyM} {kc ks : Nat} {as : List hyV} {w : hyW} {Q : hyW → Prop} {L : hyL} (hr : M.2.2.2 = none) (hy : plainName M.1.cls = true) (hn : as.length ≤ M.2.2.1) (hL : hy_loc as M.2.2.1 = L) (k : hy_X none d M (fun o w1 => o = none ∧ Q w1) kc ks (0, L, [], w)) : hy_R d M kc ks as w (fun o w1 => o = none ∧ Q w1) :=
  hy_R_of hy ⟨fun x w h => (by cases h.1), fun w _ => hr⟩ hn hL k
end
