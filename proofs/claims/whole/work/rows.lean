section
-- ===== PART A: goes FIRST, ahead of the names: the tables' words, and 'selects' of the private methods out of them =====
/-- a private method of a class that the tables say can be made, by its rows of tables_1 -/
def lw_okq (q : MethodName × Nat) : Prop := (q.1.cls ≠ "java/lang/invoke/MethodHandle" ∧ q.1.cls ≠ "java/lang/invoke/VarHandle") ∧ Cond.instantiable q.1.cls q.2 ∈ tables_1 ∧ Cond.privateMethod q.1 ∈ tables_1 ∧ Cond.instanceMethod q.1 ∈ tables_1
theorem lw_p0 : lw_okq (⟨"java/util/ArrayList", "add", "(Ljava/lang/Object;[Ljava/lang/Object;I)V"⟩, 3) := ⟨⟨by decide +kernel, by decide +kernel⟩, List.mem_of_getElem? (i := 84) (by decide +kernel), List.mem_of_getElem? (i := 133) (by decide +kernel), List.mem_of_getElem? (i := 134) (by decide +kernel)⟩
theorem lw_p1 : lw_okq (⟨"java/util/ArrayList", "grow", "()[Ljava/lang/Object;"⟩, 3) := ⟨⟨by decide +kernel, by decide +kernel⟩, List.mem_of_getElem? (i := 84) (by decide +kernel), List.mem_of_getElem? (i := 137) (by decide +kernel), List.mem_of_getElem? (i := 138) (by decide +kernel)⟩
theorem lw_p2 : lw_okq (⟨"java/util/ArrayList", "grow", "(I)[Ljava/lang/Object;"⟩, 3) := ⟨⟨by decide +kernel, by decide +kernel⟩, List.mem_of_getElem? (i := 84) (by decide +kernel), List.mem_of_getElem? (i := 141) (by decide +kernel), List.mem_of_getElem? (i := 142) (by decide +kernel)⟩
theorem lw_p3 : lw_okq (⟨"VersionMaps$Present", "touchLeaf", "(II)V"⟩, 4) := ⟨⟨by decide +kernel, by decide +kernel⟩, List.mem_of_getElem? (i := 30) (by decide +kernel), List.mem_of_getElem? (i := 229) (by decide +kernel), List.mem_of_getElem? (i := 230) (by decide +kernel)⟩
theorem lw_p4 : lw_okq (⟨"VersionMaps", "findVersion", "(I)LVersionMaps$Version;"⟩, 8) := ⟨⟨by decide +kernel, by decide +kernel⟩, List.mem_of_getElem? (i := 22) (by decide +kernel), List.mem_of_getElem? (i := 255) (by decide +kernel), List.mem_of_getElem? (i := 256) (by decide +kernel)⟩
theorem lw_p5 : lw_okq (⟨"VersionMaps$Present", "needsRoot", "(I)Z"⟩, 4) := ⟨⟨by decide +kernel, by decide +kernel⟩, List.mem_of_getElem? (i := 30) (by decide +kernel), List.mem_of_getElem? (i := 303) (by decide +kernel), List.mem_of_getElem? (i := 304) (by decide +kernel)⟩
theorem lw_p6 : lw_okq (⟨"VersionMaps$Present", "isMapChanged", "(I)Z"⟩, 4) := ⟨⟨by decide +kernel, by decide +kernel⟩, List.mem_of_getElem? (i := 30) (by decide +kernel), List.mem_of_getElem? (i := 307) (by decide +kernel), List.mem_of_getElem? (i := 308) (by decide +kernel)⟩
theorem lw_p7 : lw_okq (⟨"VersionMaps$Present", "needsLeaf", "(II)Z"⟩, 4) := ⟨⟨by decide +kernel, by decide +kernel⟩, List.mem_of_getElem? (i := 30) (by decide +kernel), List.mem_of_getElem? (i := 311) (by decide +kernel), List.mem_of_getElem? (i := 312) (by decide +kernel)⟩
theorem lw_p8 : lw_okq (⟨"VersionMaps$Present", "isLeafTouched", "(II)Z"⟩, 4) := ⟨⟨by decide +kernel, by decide +kernel⟩, List.mem_of_getElem? (i := 30) (by decide +kernel), List.mem_of_getElem? (i := 315) (by decide +kernel), List.mem_of_getElem? (i := 316) (by decide +kernel)⟩
theorem lw_p9 : lw_okq (⟨"VersionMaps$Present", "leafKeys", "(II)I"⟩, 4) := ⟨⟨by decide +kernel, by decide +kernel⟩, List.mem_of_getElem? (i := 30) (by decide +kernel), List.mem_of_getElem? (i := 319) (by decide +kernel), List.mem_of_getElem? (i := 320) (by decide +kernel)⟩
theorem lw_p10 : lw_okq (⟨"VersionMaps$Present", "writeMap", "(LVersionMaps$Chunk;ILVersionMaps$Meta;)LVersionMaps$Root;"⟩, 4) := ⟨⟨by decide +kernel, by decide +kernel⟩, List.mem_of_getElem? (i := 30) (by decide +kernel), List.mem_of_getElem? (i := 411) (by decide +kernel), List.mem_of_getElem? (i := 412) (by decide +kernel)⟩
theorem lw_p11 : lw_okq (⟨"VersionMaps$Present", "writeLeaf", "(LVersionMaps$Chunk;II)LVersionMaps$Leaf;"⟩, 4) := ⟨⟨by decide +kernel, by decide +kernel⟩, List.mem_of_getElem? (i := 30) (by decide +kernel), List.mem_of_getElem? (i := 432) (by decide +kernel), List.mem_of_getElem? (i := 433) (by decide +kernel)⟩
theorem lw_p12 : lw_okq (⟨"VersionMaps", "writeToFile", "(LVersionMaps$Chunk;)V"⟩, 8) := ⟨⟨by decide +kernel, by decide +kernel⟩, List.mem_of_getElem? (i := 22) (by decide +kernel), List.mem_of_getElem? (i := 471) (by decide +kernel), List.mem_of_getElem? (i := 472) (by decide +kernel)⟩
theorem lw_p13 : lw_okq (⟨"VersionMaps", "dropUnkept", "()V"⟩, 8) := ⟨⟨by decide +kernel, by decide +kernel⟩, List.mem_of_getElem? (i := 22) (by decide +kernel), List.mem_of_getElem? (i := 484) (by decide +kernel), List.mem_of_getElem? (i := 485) (by decide +kernel)⟩
theorem lw_p14 : lw_okq (⟨"java/util/ArrayList", "fastRemove", "([Ljava/lang/Object;I)V"⟩, 3) := ⟨⟨by decide +kernel, by decide +kernel⟩, List.mem_of_getElem? (i := 84) (by decide +kernel), List.mem_of_getElem? (i := 492) (by decide +kernel), List.mem_of_getElem? (i := 493) (by decide +kernel)⟩
theorem lw_p15 : lw_okq (⟨"VersionMaps", "markLivePages", "()V"⟩, 8) := ⟨⟨by decide +kernel, by decide +kernel⟩, List.mem_of_getElem? (i := 22) (by decide +kernel), List.mem_of_getElem? (i := 497) (by decide +kernel), List.mem_of_getElem? (i := 498) (by decide +kernel)⟩
def lw_privs_1 : List (MethodName × Nat) := [(⟨"java/util/ArrayList", "add", "(Ljava/lang/Object;[Ljava/lang/Object;I)V"⟩, 3), (⟨"java/util/ArrayList", "grow", "()[Ljava/lang/Object;"⟩, 3), (⟨"java/util/ArrayList", "grow", "(I)[Ljava/lang/Object;"⟩, 3), (⟨"VersionMaps$Present", "touchLeaf", "(II)V"⟩, 4), (⟨"VersionMaps", "findVersion", "(I)LVersionMaps$Version;"⟩, 8), (⟨"VersionMaps$Present", "needsRoot", "(I)Z"⟩, 4), (⟨"VersionMaps$Present", "isMapChanged", "(I)Z"⟩, 4), (⟨"VersionMaps$Present", "needsLeaf", "(II)Z"⟩, 4), (⟨"VersionMaps$Present", "isLeafTouched", "(II)Z"⟩, 4), (⟨"VersionMaps$Present", "leafKeys", "(II)I"⟩, 4), (⟨"VersionMaps$Present", "writeMap", "(LVersionMaps$Chunk;ILVersionMaps$Meta;)LVersionMaps$Root;"⟩, 4), (⟨"VersionMaps$Present", "writeLeaf", "(LVersionMaps$Chunk;II)LVersionMaps$Leaf;"⟩, 4), (⟨"VersionMaps", "writeToFile", "(LVersionMaps$Chunk;)V"⟩, 8), (⟨"VersionMaps", "dropUnkept", "()V"⟩, 8), (⟨"java/util/ArrayList", "fastRemove", "([Ljava/lang/Object;I)V"⟩, 3), (⟨"VersionMaps", "markLivePages", "()V"⟩, 8)]
theorem lw_r1 : ∀ q ∈ lw_privs_1, lw_okq q := List.forall_mem_cons.mpr ⟨lw_p0, List.forall_mem_cons.mpr ⟨lw_p1, List.forall_mem_cons.mpr ⟨lw_p2, List.forall_mem_cons.mpr ⟨lw_p3, List.forall_mem_cons.mpr ⟨lw_p4, List.forall_mem_cons.mpr ⟨lw_p5, List.forall_mem_cons.mpr ⟨lw_p6, List.forall_mem_cons.mpr ⟨lw_p7, List.forall_mem_cons.mpr ⟨lw_p8, List.forall_mem_cons.mpr ⟨lw_p9, List.forall_mem_cons.mpr ⟨lw_p10, List.forall_mem_cons.mpr ⟨lw_p11, List.forall_mem_cons.mpr ⟨lw_p12, List.forall_mem_cons.mpr ⟨lw_p13, List.forall_mem_cons.mpr ⟨lw_p14, List.forall_mem_cons.mpr ⟨lw_p15, fun _ h => absurd h List.not_mem_nil⟩⟩⟩⟩⟩⟩⟩⟩⟩⟩⟩⟩⟩⟩⟩⟩
theorem lw_p16 : lw_okq (⟨"VersionMaps", "dropAbove", "(I)V"⟩, 8) := ⟨⟨by decide +kernel, by decide +kernel⟩, List.mem_of_getElem? (i := 22) (by decide +kernel), List.mem_of_getElem? (i := 524) (by decide +kernel), List.mem_of_getElem? (i := 525) (by decide +kernel)⟩
theorem lw_p17 : lw_okq (⟨"VersionMaps", "freeDeadChunks", "()V"⟩, 8) := ⟨⟨by decide +kernel, by decide +kernel⟩, List.mem_of_getElem? (i := 22) (by decide +kernel), List.mem_of_getElem? (i := 548) (by decide +kernel), List.mem_of_getElem? (i := 549) (by decide +kernel)⟩
theorem lw_p18 : lw_okq (⟨"VersionMaps", "findSparsest", "(I)LVersionMaps$Chunk;"⟩, 8) := ⟨⟨by decide +kernel, by decide +kernel⟩, List.mem_of_getElem? (i := 22) (by decide +kernel), List.mem_of_getElem? (i := 564) (by decide +kernel), List.mem_of_getElem? (i := 565) (by decide +kernel)⟩
theorem lw_p19 : lw_okq (⟨"VersionMaps", "reopen", "()V"⟩, 8) := ⟨⟨by decide +kernel, by decide +kernel⟩, List.mem_of_getElem? (i := 22) (by decide +kernel), List.mem_of_getElem? (i := 582) (by decide +kernel), List.mem_of_getElem? (i := 583) (by decide +kernel)⟩
theorem lw_p20 : lw_okq (⟨"VersionMaps$BlockFile", "isWhole", "(LVersionMaps$Chunk;)Z"⟩, 6) := ⟨⟨by decide +kernel, by decide +kernel⟩, List.mem_of_getElem? (i := 52) (by decide +kernel), List.mem_of_getElem? (i := 590) (by decide +kernel), List.mem_of_getElem? (i := 591) (by decide +kernel)⟩
theorem lw_p21 : lw_okq (⟨"VersionMaps$BlockFile", "holdsAllOf", "(LVersionMaps$Meta;)Z"⟩, 6) := ⟨⟨by decide +kernel, by decide +kernel⟩, List.mem_of_getElem? (i := 52) (by decide +kernel), List.mem_of_getElem? (i := 594) (by decide +kernel), List.mem_of_getElem? (i := 595) (by decide +kernel)⟩
theorem lw_p22 : lw_okq (⟨"VersionMaps$BlockFile", "holdsPage", "(LVersionMaps$Page;)Z"⟩, 6) := ⟨⟨by decide +kernel, by decide +kernel⟩, List.mem_of_getElem? (i := 52) (by decide +kernel), List.mem_of_getElem? (i := 598) (by decide +kernel), List.mem_of_getElem? (i := 599) (by decide +kernel)⟩
theorem lw_p23 : lw_okq (⟨"VersionMaps", "allLivePages", "()I"⟩, 8) := ⟨⟨by decide +kernel, by decide +kernel⟩, List.mem_of_getElem? (i := 22) (by decide +kernel), List.mem_of_getElem? (i := 639) (by decide +kernel), List.mem_of_getElem? (i := 640) (by decide +kernel)⟩
theorem lw_p24 : lw_okq (⟨"VersionMapsModel", "find", "(I)I"⟩, 34) := ⟨⟨by decide +kernel, by decide +kernel⟩, List.mem_of_getElem? (i := 648) (by decide +kernel), List.mem_of_getElem? (i := 778) (by decide +kernel), List.mem_of_getElem? (i := 779) (by decide +kernel)⟩
theorem lw_p25 : lw_okq (⟨"VersionMapsModel", "read", "(III)J"⟩, 34) := ⟨⟨by decide +kernel, by decide +kernel⟩, List.mem_of_getElem? (i := 648) (by decide +kernel), List.mem_of_getElem? (i := 782) (by decide +kernel), List.mem_of_getElem? (i := 783) (by decide +kernel)⟩
theorem lw_p26 : lw_okq (⟨"VersionMapsModel", "page", "(I)I"⟩, 34) := ⟨⟨by decide +kernel, by decide +kernel⟩, List.mem_of_getElem? (i := 648) (by decide +kernel), List.mem_of_getElem? (i := 786) (by decide +kernel), List.mem_of_getElem? (i := 787) (by decide +kernel)⟩
theorem lw_p27 : lw_okq (⟨"VersionMapsModel", "isTouched", "(I)Z"⟩, 34) := ⟨⟨by decide +kernel, by decide +kernel⟩, List.mem_of_getElem? (i := 648) (by decide +kernel), List.mem_of_getElem? (i := 798) (by decide +kernel), List.mem_of_getElem? (i := 799) (by decide +kernel)⟩
theorem lw_p28 : lw_okq (⟨"VersionMapsModel", "pagesToWrite", "()I"⟩, 34) := ⟨⟨by decide +kernel, by decide +kernel⟩, List.mem_of_getElem? (i := 648) (by decide +kernel), List.mem_of_getElem? (i := 802) (by decide +kernel), List.mem_of_getElem? (i := 803) (by decide +kernel)⟩
theorem lw_p29 : lw_okq (⟨"VersionMapsModel", "leafHas", "(II)Z"⟩, 34) := ⟨⟨by decide +kernel, by decide +kernel⟩, List.mem_of_getElem? (i := 648) (by decide +kernel), List.mem_of_getElem? (i := 806) (by decide +kernel), List.mem_of_getElem? (i := 807) (by decide +kernel)⟩
theorem lw_p30 : lw_okq (⟨"VersionMapsModel", "mapHas", "(I)Z"⟩, 34) := ⟨⟨by decide +kernel, by decide +kernel⟩, List.mem_of_getElem? (i := 648) (by decide +kernel), List.mem_of_getElem? (i := 810) (by decide +kernel), List.mem_of_getElem? (i := 811) (by decide +kernel)⟩
theorem lw_p31 : lw_okq (⟨"VersionMapsModel", "room", "(I)I"⟩, 34) := ⟨⟨by decide +kernel, by decide +kernel⟩, List.mem_of_getElem? (i := 648) (by decide +kernel), List.mem_of_getElem? (i := 814) (by decide +kernel), List.mem_of_getElem? (i := 815) (by decide +kernel)⟩
def lw_privs_2 : List (MethodName × Nat) := [(⟨"VersionMaps", "dropAbove", "(I)V"⟩, 8), (⟨"VersionMaps", "freeDeadChunks", "()V"⟩, 8), (⟨"VersionMaps", "findSparsest", "(I)LVersionMaps$Chunk;"⟩, 8), (⟨"VersionMaps", "reopen", "()V"⟩, 8), (⟨"VersionMaps$BlockFile", "isWhole", "(LVersionMaps$Chunk;)Z"⟩, 6), (⟨"VersionMaps$BlockFile", "holdsAllOf", "(LVersionMaps$Meta;)Z"⟩, 6), (⟨"VersionMaps$BlockFile", "holdsPage", "(LVersionMaps$Page;)Z"⟩, 6), (⟨"VersionMaps", "allLivePages", "()I"⟩, 8), (⟨"VersionMapsModel", "find", "(I)I"⟩, 34), (⟨"VersionMapsModel", "read", "(III)J"⟩, 34), (⟨"VersionMapsModel", "page", "(I)I"⟩, 34), (⟨"VersionMapsModel", "isTouched", "(I)Z"⟩, 34), (⟨"VersionMapsModel", "pagesToWrite", "()I"⟩, 34), (⟨"VersionMapsModel", "leafHas", "(II)Z"⟩, 34), (⟨"VersionMapsModel", "mapHas", "(I)Z"⟩, 34), (⟨"VersionMapsModel", "room", "(I)I"⟩, 34)]
theorem lw_r2 : ∀ q ∈ lw_privs_2, lw_okq q := List.forall_mem_cons.mpr ⟨lw_p16, List.forall_mem_cons.mpr ⟨lw_p17, List.forall_mem_cons.mpr ⟨lw_p18, List.forall_mem_cons.mpr ⟨lw_p19, List.forall_mem_cons.mpr ⟨lw_p20, List.forall_mem_cons.mpr ⟨lw_p21, List.forall_mem_cons.mpr ⟨lw_p22, List.forall_mem_cons.mpr ⟨lw_p23, List.forall_mem_cons.mpr ⟨lw_p24, List.forall_mem_cons.mpr ⟨lw_p25, List.forall_mem_cons.mpr ⟨lw_p26, List.forall_mem_cons.mpr ⟨lw_p27, List.forall_mem_cons.mpr ⟨lw_p28, List.forall_mem_cons.mpr ⟨lw_p29, List.forall_mem_cons.mpr ⟨lw_p30, List.forall_mem_cons.mpr ⟨lw_p31, fun _ h => absurd h List.not_mem_nil⟩⟩⟩⟩⟩⟩⟩⟩⟩⟩⟩⟩⟩⟩⟩⟩
theorem lw_p32 : lw_okq (⟨"VersionMapsModel", "purge", "()V"⟩, 34) := ⟨⟨by decide +kernel, by decide +kernel⟩, List.mem_of_getElem? (i := 648) (by decide +kernel), List.mem_of_getElem? (i := 818) (by decide +kernel), List.mem_of_getElem? (i := 819) (by decide +kernel)⟩
theorem lw_p33 : lw_okq (⟨"VersionMapsModel", "holds", "(IIZ)Z"⟩, 34) := ⟨⟨by decide +kernel, by decide +kernel⟩, List.mem_of_getElem? (i := 648) (by decide +kernel), List.mem_of_getElem? (i := 822) (by decide +kernel), List.mem_of_getElem? (i := 823) (by decide +kernel)⟩
theorem lw_p34 : lw_okq (⟨"VersionMapsModel", "writeMap", "(IIII)I"⟩, 34) := ⟨⟨by decide +kernel, by decide +kernel⟩, List.mem_of_getElem? (i := 648) (by decide +kernel), List.mem_of_getElem? (i := 826) (by decide +kernel), List.mem_of_getElem? (i := 827) (by decide +kernel)⟩
theorem lw_p35 : lw_okq (⟨"VersionMapsModel", "add", "(IIIII)I"⟩, 34) := ⟨⟨by decide +kernel, by decide +kernel⟩, List.mem_of_getElem? (i := 648) (by decide +kernel), List.mem_of_getElem? (i := 830) (by decide +kernel), List.mem_of_getElem? (i := 831) (by decide +kernel)⟩
theorem lw_p36 : lw_okq (⟨"VersionMapsModel", "write", "(IIII)V"⟩, 34) := ⟨⟨by decide +kernel, by decide +kernel⟩, List.mem_of_getElem? (i := 648) (by decide +kernel), List.mem_of_getElem? (i := 834) (by decide +kernel), List.mem_of_getElem? (i := 835) (by decide +kernel)⟩
theorem lw_p37 : lw_okq (⟨"VersionMapsModel", "settle", "()V"⟩, 34) := ⟨⟨by decide +kernel, by decide +kernel⟩, List.mem_of_getElem? (i := 648) (by decide +kernel), List.mem_of_getElem? (i := 838) (by decide +kernel), List.mem_of_getElem? (i := 839) (by decide +kernel)⟩
theorem lw_p38 : lw_okq (⟨"VersionMapsModel", "drop", "()V"⟩, 34) := ⟨⟨by decide +kernel, by decide +kernel⟩, List.mem_of_getElem? (i := 648) (by decide +kernel), List.mem_of_getElem? (i := 842) (by decide +kernel), List.mem_of_getElem? (i := 843) (by decide +kernel)⟩
theorem lw_p39 : lw_okq (⟨"VersionMapsModel", "forget", "(I)V"⟩, 34) := ⟨⟨by decide +kernel, by decide +kernel⟩, List.mem_of_getElem? (i := 648) (by decide +kernel), List.mem_of_getElem? (i := 846) (by decide +kernel), List.mem_of_getElem? (i := 847) (by decide +kernel)⟩
theorem lw_p40 : lw_okq (⟨"VersionMapsModel", "load", "(I)V"⟩, 34) := ⟨⟨by decide +kernel, by decide +kernel⟩, List.mem_of_getElem? (i := 648) (by decide +kernel), List.mem_of_getElem? (i := 854) (by decide +kernel), List.mem_of_getElem? (i := 855) (by decide +kernel)⟩
theorem lw_p41 : lw_okq (⟨"VersionMapsModel", "keepAll", "()V"⟩, 34) := ⟨⟨by decide +kernel, by decide +kernel⟩, List.mem_of_getElem? (i := 648) (by decide +kernel), List.mem_of_getElem? (i := 874) (by decide +kernel), List.mem_of_getElem? (i := 875) (by decide +kernel)⟩
theorem lw_p42 : lw_okq (⟨"VersionMapsModel", "clean", "()V"⟩, 34) := ⟨⟨by decide +kernel, by decide +kernel⟩, List.mem_of_getElem? (i := 648) (by decide +kernel), List.mem_of_getElem? (i := 878) (by decide +kernel), List.mem_of_getElem? (i := 879) (by decide +kernel)⟩
theorem lw_p43 : lw_okq (⟨"VersionMapsModel", "markKept", "()V"⟩, 34) := ⟨⟨by decide +kernel, by decide +kernel⟩, List.mem_of_getElem? (i := 648) (by decide +kernel), List.mem_of_getElem? (i := 882) (by decide +kernel), List.mem_of_getElem? (i := 883) (by decide +kernel)⟩
theorem lw_p44 : lw_okq (⟨"VersionMapsModel", "markNone", "()V"⟩, 34) := ⟨⟨by decide +kernel, by decide +kernel⟩, List.mem_of_getElem? (i := 648) (by decide +kernel), List.mem_of_getElem? (i := 886) (by decide +kernel), List.mem_of_getElem? (i := 887) (by decide +kernel)⟩
theorem lw_p45 : lw_okq (⟨"VersionMapsModel", "mark", "(I)V"⟩, 34) := ⟨⟨by decide +kernel, by decide +kernel⟩, List.mem_of_getElem? (i := 648) (by decide +kernel), List.mem_of_getElem? (i := 890) (by decide +kernel), List.mem_of_getElem? (i := 891) (by decide +kernel)⟩
theorem lw_p46 : lw_okq (⟨"VersionMapsModel", "liveOf", "(I)I"⟩, 34) := ⟨⟨by decide +kernel, by decide +kernel⟩, List.mem_of_getElem? (i := 648) (by decide +kernel), List.mem_of_getElem? (i := 894) (by decide +kernel), List.mem_of_getElem? (i := 895) (by decide +kernel)⟩
theorem lw_p47 : lw_okq (⟨"VersionMapsModel", "isSound", "(I)Z"⟩, 34) := ⟨⟨by decide +kernel, by decide +kernel⟩, List.mem_of_getElem? (i := 648) (by decide +kernel), List.mem_of_getElem? (i := 907) (by decide +kernel), List.mem_of_getElem? (i := 908) (by decide +kernel)⟩
def lw_privs_3 : List (MethodName × Nat) := [(⟨"VersionMapsModel", "purge", "()V"⟩, 34), (⟨"VersionMapsModel", "holds", "(IIZ)Z"⟩, 34), (⟨"VersionMapsModel", "writeMap", "(IIII)I"⟩, 34), (⟨"VersionMapsModel", "add", "(IIIII)I"⟩, 34), (⟨"VersionMapsModel", "write", "(IIII)V"⟩, 34), (⟨"VersionMapsModel", "settle", "()V"⟩, 34), (⟨"VersionMapsModel", "drop", "()V"⟩, 34), (⟨"VersionMapsModel", "forget", "(I)V"⟩, 34), (⟨"VersionMapsModel", "load", "(I)V"⟩, 34), (⟨"VersionMapsModel", "keepAll", "()V"⟩, 34), (⟨"VersionMapsModel", "clean", "()V"⟩, 34), (⟨"VersionMapsModel", "markKept", "()V"⟩, 34), (⟨"VersionMapsModel", "markNone", "()V"⟩, 34), (⟨"VersionMapsModel", "mark", "(I)V"⟩, 34), (⟨"VersionMapsModel", "liveOf", "(I)I"⟩, 34), (⟨"VersionMapsModel", "isSound", "(I)Z"⟩, 34)]
theorem lw_r3 : ∀ q ∈ lw_privs_3, lw_okq q := List.forall_mem_cons.mpr ⟨lw_p32, List.forall_mem_cons.mpr ⟨lw_p33, List.forall_mem_cons.mpr ⟨lw_p34, List.forall_mem_cons.mpr ⟨lw_p35, List.forall_mem_cons.mpr ⟨lw_p36, List.forall_mem_cons.mpr ⟨lw_p37, List.forall_mem_cons.mpr ⟨lw_p38, List.forall_mem_cons.mpr ⟨lw_p39, List.forall_mem_cons.mpr ⟨lw_p40, List.forall_mem_cons.mpr ⟨lw_p41, List.forall_mem_cons.mpr ⟨lw_p42, List.forall_mem_cons.mpr ⟨lw_p43, List.forall_mem_cons.mpr ⟨lw_p44, List.forall_mem_cons.mpr ⟨lw_p45, List.forall_mem_cons.mpr ⟨lw_p46, List.forall_mem_cons.mpr ⟨lw_p47, fun _ h => absurd h List.not_mem_nil⟩⟩⟩⟩⟩⟩⟩⟩⟩⟩⟩⟩⟩⟩⟩⟩
def lw_privs : List (MethodName × Nat) := lw_privs_1 ++ (lw_privs_2 ++ (lw_privs_3))
def lw_tbl : List Cond := k2_sels lw_privs ++ tables_1
theorem lw_privs_ok : ∀ q ∈ lw_privs, lw_okq q := by
  show ∀ q ∈ lw_privs_1 ++ (lw_privs_2 ++ (lw_privs_3)), lw_okq q
  exact List.forall_mem_append.mpr ⟨lw_r1, List.forall_mem_append.mpr ⟨lw_r2, lw_r3⟩⟩
end
section
def isLS : Cond → Bool
  | .laysStatic _ _ _ => true
  | _ => false
/-- the words but for laysStatic (which speaks of the heap) -/
def lw_w : List Cond := lw_tbl.filter (fun w => !isLS w)
def kT0 : u_T := fun k => match k with
  | 0 => ("VersionMaps", "present", "LVersionMaps$Present;", true)
  | 1 => ("VersionMaps", "file", "LVersionMaps$BlockFile;", true)
  | 2 => ("VersionMaps", "chunks", "Ljava/util/ArrayList;", true)
  | 3 => ("VersionMaps", "versions", "Ljava/util/ArrayList;", true)
  | 4 => ("VersionMaps", "latest", "LVersionMaps$Version;", false)
  | 5 => ("VersionMaps", "holdLimit", "I", false)
  | 6 => ("VersionMaps", "nextId", "I", false)
  | _ => ("VersionMaps", "liveRound", "I", false)
def ky0 : Nat → FieldType := fun k => match k with
  | 0 => .object "VersionMaps$Present"
  | 1 => .object "VersionMaps$BlockFile"
  | 2 => .object "java/util/ArrayList"
  | 3 => .object "java/util/ArrayList"
  | 4 => .object "VersionMaps$Version"
  | 5 => .int
  | 6 => .int
  | _ => .int
def kT1 : u_T := fun k => match k with
  | 0 => ("VersionMaps$BlockFile", "contents", "[LVersionMaps$Chunk;", true)
  | 1 => ("VersionMaps$BlockFile", "settled", "[LVersionMaps$Chunk;", true)
  | 2 => ("VersionMaps$BlockFile", "isFree", "[Z", true)
  | 3 => ("VersionMaps$BlockFile", "isPending", "[Z", true)
  | 4 => ("VersionMaps$BlockFile", "pendingBlocks", "[I", true)
  | _ => ("VersionMaps$BlockFile", "pendingCount", "I", false)
def ky1 : Nat → FieldType := fun k => match k with
  | 0 => .array (.object "VersionMaps$Chunk")
  | 1 => .array (.object "VersionMaps$Chunk")
  | 2 => .array .boolean
  | 3 => .array .boolean
  | 4 => .array .int
  | _ => .int
def kT2 : u_T := fun k => match k with
  | 0 => ("VersionMaps$Chunk", "id", "I", true)
  | 1 => ("VersionMaps$Chunk", "first", "I", true)
  | 2 => ("VersionMaps$Chunk", "pages", "[LVersionMaps$Page;", true)
  | 3 => ("VersionMaps$Chunk", "filled", "I", false)
  | _ => ("VersionMaps$Chunk", "meta", "LVersionMaps$Meta;", false)
def ky2 : Nat → FieldType := fun k => match k with
  | 0 => .int
  | 1 => .int
  | 2 => .array (.object "VersionMaps$Page")
  | 3 => .int
  | _ => .object "VersionMaps$Meta"
def kT3 : u_T := fun k => match k with
  | 0 => ("VersionMaps$Page", "home", "LVersionMaps$Chunk;", false)
  | 1 => ("VersionMaps$Page", "place", "I", false)
  | 2 => ("VersionMaps$Page", "markedRound", "I", false)
  | 3 => ("VersionMaps$Leaf", "values", "[I", true)
  | _ => ("VersionMaps$Leaf", "keys", "I", false)
def ky3 : Nat → FieldType := fun k => match k with
  | 0 => .object "VersionMaps$Chunk"
  | 1 => .int
  | 2 => .int
  | 3 => .array .int
  | _ => .int
def kT4 : u_T := fun k => match k with
  | 0 => ("VersionMaps$Page", "home", "LVersionMaps$Chunk;", false)
  | 1 => ("VersionMaps$Page", "place", "I", false)
  | 2 => ("VersionMaps$Page", "markedRound", "I", false)
  | 3 => ("VersionMaps$Meta", "version", "I", true)
  | _ => ("VersionMaps$Meta", "roots", "[LVersionMaps$Root;", true)
def ky4 : Nat → FieldType := fun k => match k with
  | 0 => .object "VersionMaps$Chunk"
  | 1 => .int
  | 2 => .int
  | 3 => .int
  | _ => .array (.object "VersionMaps$Root")
def kT5 : u_T := fun k => match k with
  | 0 => ("VersionMaps$Present", "values", "[I", true)
  | 1 => ("VersionMaps$Present", "keys", "[I", true)
  | 2 => ("VersionMaps$Present", "touchedLeaves", "I", false)
  | _ => ("VersionMaps$Present", "touchedMaps", "I", false)
def ky5 : Nat → FieldType := fun k => match k with
  | 0 => .array .int
  | 1 => .array .int
  | 2 => .int
  | _ => .int
def kT6 : u_T := fun k => match k with
  | 0 => ("VersionMaps$Page", "home", "LVersionMaps$Chunk;", false)
  | 1 => ("VersionMaps$Page", "place", "I", false)
  | 2 => ("VersionMaps$Page", "markedRound", "I", false)
  | _ => ("VersionMaps$Root", "leaves", "[LVersionMaps$Leaf;", true)
def ky6 : Nat → FieldType := fun k => match k with
  | 0 => .object "VersionMaps$Chunk"
  | 1 => .int
  | 2 => .int
  | _ => .array (.object "VersionMaps$Leaf")
def kT7 : u_T := fun k => match k with
  | 0 => ("VersionMaps$Version", "number", "I", true)
  | 1 => ("VersionMaps$Version", "meta", "LVersionMaps$Meta;", false)
  | _ => ("VersionMaps$Version", "pins", "I", false)
def ky7 : Nat → FieldType := fun k => match k with
  | 0 => .int
  | 1 => .object "VersionMaps$Meta"
  | _ => .int
def kT8 : u_T := fun k => match k with
  | 0 => ("VersionMapsModel", "has", "[Z", true)
  | 1 => ("VersionMapsModel", "touchedLeaf", "[Z", true)
  | 2 => ("VersionMapsModel", "touchedMap", "[Z", true)
  | 3 => ("VersionMapsModel", "now", "[I", true)
  | 4 => ("VersionMapsModel", "pageId", "[I", true)
  | 5 => ("VersionMapsModel", "pageAt", "[I", true)
  | 6 => ("VersionMapsModel", "kind", "[I", true)
  | 7 => ("VersionMapsModel", "mapOf", "[I", true)
  | 8 => ("VersionMapsModel", "which", "[I", true)
  | 9 => ("VersionMapsModel", "keys", "[I", true)
  | 10 => ("VersionMapsModel", "ints", "[I", true)
  | 11 => ("VersionMapsModel", "leads", "[I", true)
  | 12 => ("VersionMapsModel", "live", "[Z", true)
  | 13 => ("VersionMapsModel", "holdsId", "[I", true)
  | 14 => ("VersionMapsModel", "holdsAt", "[I", true)
  | 15 => ("VersionMapsModel", "syncedId", "[I", true)
  | 16 => ("VersionMapsModel", "syncedAt", "[I", true)
  | 17 => ("VersionMapsModel", "pending", "[I", true)
  | 18 => ("VersionMapsModel", "free", "[Z", true)
  | 19 => ("VersionMapsModel", "pendings", "I", false)
  | 20 => ("VersionMapsModel", "chunkId", "[I", true)
  | 21 => ("VersionMapsModel", "first", "[I", true)
  | 22 => ("VersionMapsModel", "long1", "[I", true)
  | 23 => ("VersionMapsModel", "pages", "[I", true)
  | 24 => ("VersionMapsModel", "chunkVersion", "[I", true)
  | 25 => ("VersionMapsModel", "chunks", "I", false)
  | 26 => ("VersionMapsModel", "nextId", "I", false)
  | 27 => ("VersionMapsModel", "version", "[I", true)
  | 28 => ("VersionMapsModel", "pins", "[I", true)
  | 29 => ("VersionMapsModel", "meta", "[I", true)
  | 30 => ("VersionMapsModel", "versions", "I", false)
  | 31 => ("VersionMapsModel", "latest", "I", false)
  | 32 => ("VersionMapsModel", "holds", "I", false)
  | _ => ("VersionMapsModel", "newRoots", "[I", true)
def ky8 : Nat → FieldType := fun k => match k with
  | 0 => .array .boolean
  | 1 => .array .boolean
  | 2 => .array .boolean
  | 3 => .array .int
  | 4 => .array .int
  | 5 => .array .int
  | 6 => .array .int
  | 7 => .array .int
  | 8 => .array .int
  | 9 => .array .int
  | 10 => .array .int
  | 11 => .array .int
  | 12 => .array .boolean
  | 13 => .array .int
  | 14 => .array .int
  | 15 => .array .int
  | 16 => .array .int
  | 17 => .array .int
  | 18 => .array .boolean
  | 19 => .int
  | 20 => .array .int
  | 21 => .array .int
  | 22 => .array .int
  | 23 => .array .int
  | 24 => .array .int
  | 25 => .int
  | 26 => .int
  | 27 => .array .int
  | 28 => .array .int
  | 29 => .array .int
  | 30 => .int
  | 31 => .int
  | 32 => .int
  | _ => .array .int
def kT9 : u_T := fun k => match k with
  | 0 => ("java/util/ArrayList", "elementData", "[Ljava/lang/Object;", false)
  | 1 => ("java/util/ArrayList", "size", "I", false)
  | _ => ("java/util/AbstractList", "modCount", "I", false)
def ky9 : Nat → FieldType := fun k => match k with
  | 0 => .array (.object "java/lang/Object")
  | 1 => .int
  | _ => .int
def kcl : List vw_C := [("VersionMaps", kT0, 8), ("VersionMaps$BlockFile", kT1, 6), ("VersionMaps$Chunk", kT2, 5), ("VersionMaps$Leaf", kT3, 5), ("VersionMaps$Meta", kT4, 5), ("VersionMaps$Present", kT5, 4), ("VersionMaps$Root", kT6, 4), ("VersionMaps$Version", kT7, 3), ("VersionMapsModel", kT8, 34), ("java/util/ArrayList", kT9, 3)]
def kty (κ : Nat) : Nat → FieldType := match κ with
  | 0 => ky0
  | 1 => ky1
  | 2 => ky2
  | 3 => ky3
  | 4 => ky4
  | 5 => ky5
  | 6 => ky6
  | 7 => ky7
  | 8 => ky8
  | _ => ky9
/-- is the field an int? -/
def kfi : List (List Bool) := [[false, false, false, false, false, true, true, true], [false, false, false, false, false, true], [true, true, false, true, false], [false, true, true, false, true], [false, true, true, true, false], [false, false, true, true], [false, true, true, false], [true, false, true], [false, false, false, false, false, false, false, false, false, false, false, false, false, false, false, false, false, false, false, true, false, false, false, false, false, true, true, false, false, false, true, true, true, false], [false, true, true]]
def fint (κ k : Nat) : Bool := (kfi.getD κ []).getD k true
theorem kin0 : ∀ w ∈ u_ws "VersionMaps" kT0 8, w ∈ lw_w := by decide +kernel
theorem knm0 : ∀ a, a < 8 → ∀ b, b < 8 → a ≠ b → (kT0 a).2.1 ≠ (kT0 b).2.1 := by decide +kernel
theorem kok0 : ∀ k, k < 8 → parseFieldDescriptor (kT0 k).2.2.1 = some (ky0 k) := by decide +kernel
theorem kis0 : Cond.instantiable "VersionMaps" 8 ∈ lw_w := by decide +kernel
theorem kii0 : Cond.initialized "VersionMaps" ∈ lw_w := by decide +kernel
theorem kfo0 : ∀ k, k < 8 → (fint 0 k = true ∧ ky0 k = .int) ∨ (fint 0 k = false ∧ (ky0 k).isReference = true) := by decide +kernel
theorem kin1 : ∀ w ∈ u_ws "VersionMaps$BlockFile" kT1 6, w ∈ lw_w := by decide +kernel
theorem knm1 : ∀ a, a < 6 → ∀ b, b < 6 → a ≠ b → (kT1 a).2.1 ≠ (kT1 b).2.1 := by decide +kernel
theorem kok1 : ∀ k, k < 6 → parseFieldDescriptor (kT1 k).2.2.1 = some (ky1 k) := by decide +kernel
theorem kis1 : Cond.instantiable "VersionMaps$BlockFile" 6 ∈ lw_w := by decide +kernel
theorem kii1 : Cond.initialized "VersionMaps$BlockFile" ∈ lw_w := by decide +kernel
theorem kfo1 : ∀ k, k < 6 → (fint 1 k = true ∧ ky1 k = .int) ∨ (fint 1 k = false ∧ (ky1 k).isReference = true) := by decide +kernel
theorem kin2 : ∀ w ∈ u_ws "VersionMaps$Chunk" kT2 5, w ∈ lw_w := by decide +kernel
theorem knm2 : ∀ a, a < 5 → ∀ b, b < 5 → a ≠ b → (kT2 a).2.1 ≠ (kT2 b).2.1 := by decide +kernel
theorem kok2 : ∀ k, k < 5 → parseFieldDescriptor (kT2 k).2.2.1 = some (ky2 k) := by decide +kernel
theorem kis2 : Cond.instantiable "VersionMaps$Chunk" 5 ∈ lw_w := by decide +kernel
theorem kii2 : Cond.initialized "VersionMaps$Chunk" ∈ lw_w := by decide +kernel
theorem kfo2 : ∀ k, k < 5 → (fint 2 k = true ∧ ky2 k = .int) ∨ (fint 2 k = false ∧ (ky2 k).isReference = true) := by decide +kernel
theorem kin3 : ∀ w ∈ u_ws "VersionMaps$Leaf" kT3 5, w ∈ lw_w := by decide +kernel
theorem knm3 : ∀ a, a < 5 → ∀ b, b < 5 → a ≠ b → (kT3 a).2.1 ≠ (kT3 b).2.1 := by decide +kernel
theorem kok3 : ∀ k, k < 5 → parseFieldDescriptor (kT3 k).2.2.1 = some (ky3 k) := by decide +kernel
theorem kis3 : Cond.instantiable "VersionMaps$Leaf" 5 ∈ lw_w := by decide +kernel
theorem kii3 : Cond.initialized "VersionMaps$Leaf" ∈ lw_w := by decide +kernel
theorem kfo3 : ∀ k, k < 5 → (fint 3 k = true ∧ ky3 k = .int) ∨ (fint 3 k = false ∧ (ky3 k).isReference = true) := by decide +kernel
theorem kin4 : ∀ w ∈ u_ws "VersionMaps$Meta" kT4 5, w ∈ lw_w := by decide +kernel
theorem knm4 : ∀ a, a < 5 → ∀ b, b < 5 → a ≠ b → (kT4 a).2.1 ≠ (kT4 b).2.1 := by decide +kernel
theorem kok4 : ∀ k, k < 5 → parseFieldDescriptor (kT4 k).2.2.1 = some (ky4 k) := by decide +kernel
theorem kis4 : Cond.instantiable "VersionMaps$Meta" 5 ∈ lw_w := by decide +kernel
theorem kii4 : Cond.initialized "VersionMaps$Meta" ∈ lw_w := by decide +kernel
theorem kfo4 : ∀ k, k < 5 → (fint 4 k = true ∧ ky4 k = .int) ∨ (fint 4 k = false ∧ (ky4 k).isReference = true) := by decide +kernel
theorem kin5 : ∀ w ∈ u_ws "VersionMaps$Present" kT5 4, w ∈ lw_w := by decide +kernel
theorem knm5 : ∀ a, a < 4 → ∀ b, b < 4 → a ≠ b → (kT5 a).2.1 ≠ (kT5 b).2.1 := by decide +kernel
theorem kok5 : ∀ k, k < 4 → parseFieldDescriptor (kT5 k).2.2.1 = some (ky5 k) := by decide +kernel
theorem kis5 : Cond.instantiable "VersionMaps$Present" 4 ∈ lw_w := by decide +kernel
theorem kii5 : Cond.initialized "VersionMaps$Present" ∈ lw_w := by decide +kernel
theorem kfo5 : ∀ k, k < 4 → (fint 5 k = true ∧ ky5 k = .int) ∨ (fint 5 k = false ∧ (ky5 k).isReference = true) := by decide +kernel
theorem kin6 : ∀ w ∈ u_ws "VersionMaps$Root" kT6 4, w ∈ lw_w := by decide +kernel
theorem knm6 : ∀ a, a < 4 → ∀ b, b < 4 → a ≠ b → (kT6 a).2.1 ≠ (kT6 b).2.1 := by decide +kernel
theorem kok6 : ∀ k, k < 4 → parseFieldDescriptor (kT6 k).2.2.1 = some (ky6 k) := by decide +kernel
theorem kis6 : Cond.instantiable "VersionMaps$Root" 4 ∈ lw_w := by decide +kernel
theorem kii6 : Cond.initialized "VersionMaps$Root" ∈ lw_w := by decide +kernel
theorem kfo6 : ∀ k, k < 4 → (fint 6 k = true ∧ ky6 k = .int) ∨ (fint 6 k = false ∧ (ky6 k).isReference = true) := by decide +kernel
theorem kin7 : ∀ w ∈ u_ws "VersionMaps$Version" kT7 3, w ∈ lw_w := by decide +kernel
theorem knm7 : ∀ a, a < 3 → ∀ b, b < 3 → a ≠ b → (kT7 a).2.1 ≠ (kT7 b).2.1 := by decide +kernel
theorem kok7 : ∀ k, k < 3 → parseFieldDescriptor (kT7 k).2.2.1 = some (ky7 k) := by decide +kernel
theorem kis7 : Cond.instantiable "VersionMaps$Version" 3 ∈ lw_w := by decide +kernel
theorem kii7 : Cond.initialized "VersionMaps$Version" ∈ lw_w := by decide +kernel
theorem kfo7 : ∀ k, k < 3 → (fint 7 k = true ∧ ky7 k = .int) ∨ (fint 7 k = false ∧ (ky7 k).isReference = true) := by decide +kernel
theorem kin8 : ∀ w ∈ u_ws "VersionMapsModel" kT8 34, w ∈ lw_w := by decide +kernel
theorem knm8 : ∀ a, a < 34 → ∀ b, b < 34 → a ≠ b → (kT8 a).2.1 ≠ (kT8 b).2.1 := by decide +kernel
theorem kok8 : ∀ k, k < 34 → parseFieldDescriptor (kT8 k).2.2.1 = some (ky8 k) := by decide +kernel
theorem kis8 : Cond.instantiable "VersionMapsModel" 34 ∈ lw_w := by decide +kernel
theorem kii8 : Cond.initialized "VersionMapsModel" ∈ lw_w := by decide +kernel
theorem kfo8 : ∀ k, k < 34 → (fint 8 k = true ∧ ky8 k = .int) ∨ (fint 8 k = false ∧ (ky8 k).isReference = true) := by decide +kernel
theorem kin9 : ∀ w ∈ u_ws "java/util/ArrayList" kT9 3, w ∈ lw_w := by decide +kernel
theorem knm9 : ∀ a, a < 3 → ∀ b, b < 3 → a ≠ b → (kT9 a).2.1 ≠ (kT9 b).2.1 := by decide +kernel
theorem kok9 : ∀ k, k < 3 → parseFieldDescriptor (kT9 k).2.2.1 = some (ky9 k) := by decide +kernel
theorem kis9 : Cond.instantiable "java/util/ArrayList" 3 ∈ lw_w := by decide +kernel
theorem kii9 : Cond.initialized "java/util/ArrayList" ∈ lw_w := by decide +kernel
theorem kfo9 : ∀ k, k < 3 → (fint 9 k = true ∧ ky9 k = .int) ∨ (fint 9 k = false ∧ (ky9 k).isReference = true) := by decide +kernel
theorem kcl_lt {κ : Nat} {q : vw_C} (h : kcl[κ]? = some q) : κ < 10 := (List.getElem?_eq_some_iff.mp h).1
theorem kin : ∀ {κ : Nat} {q : vw_C}, kcl[κ]? = some q → ∀ w ∈ u_ws q.1 q.2.1 q.2.2, w ∈ lw_w := by
  intro κ q h
  have hl := kcl_lt h
  by_cases e0 : κ = 0
  · subst e0; cases (Option.some.inj h); exact kin0
  by_cases e1 : κ = 1
  · subst e1; cases (Option.some.inj h); exact kin1
  by_cases e2 : κ = 2
  · subst e2; cases (Option.some.inj h); exact kin2
  by_cases e3 : κ = 3
  · subst e3; cases (Option.some.inj h); exact kin3
  by_cases e4 : κ = 4
  · subst e4; cases (Option.some.inj h); exact kin4
  by_cases e5 : κ = 5
  · subst e5; cases (Option.some.inj h); exact kin5
  by_cases e6 : κ = 6
  · subst e6; cases (Option.some.inj h); exact kin6
  by_cases e7 : κ = 7
  · subst e7; cases (Option.some.inj h); exact kin7
  by_cases e8 : κ = 8
  · subst e8; cases (Option.some.inj h); exact kin8
  by_cases e9 : κ = 9
  · subst e9; cases (Option.some.inj h); exact kin9
  omega
theorem knm : ∀ {κ : Nat} {q : vw_C}, kcl[κ]? = some q → ∀ a, a < q.2.2 → ∀ b, b < q.2.2 → a ≠ b → (q.2.1 a).2.1 ≠ (q.2.1 b).2.1 := by
  intro κ q h
  have hl := kcl_lt h
  by_cases e0 : κ = 0
  · subst e0; cases (Option.some.inj h); exact knm0
  by_cases e1 : κ = 1
  · subst e1; cases (Option.some.inj h); exact knm1
  by_cases e2 : κ = 2
  · subst e2; cases (Option.some.inj h); exact knm2
  by_cases e3 : κ = 3
  · subst e3; cases (Option.some.inj h); exact knm3
  by_cases e4 : κ = 4
  · subst e4; cases (Option.some.inj h); exact knm4
  by_cases e5 : κ = 5
  · subst e5; cases (Option.some.inj h); exact knm5
  by_cases e6 : κ = 6
  · subst e6; cases (Option.some.inj h); exact knm6
  by_cases e7 : κ = 7
  · subst e7; cases (Option.some.inj h); exact knm7
  by_cases e8 : κ = 8
  · subst e8; cases (Option.some.inj h); exact knm8
  by_cases e9 : κ = 9
  · subst e9; cases (Option.some.inj h); exact knm9
  omega
theorem kok : ∀ {κ : Nat} {q : vw_C}, kcl[κ]? = some q → ∀ k, k < q.2.2 → parseFieldDescriptor (q.2.1 k).2.2.1 = some (kty κ k) := by
  intro κ q h
  have hl := kcl_lt h
  by_cases e0 : κ = 0
  · subst e0; cases (Option.some.inj h); exact kok0
  by_cases e1 : κ = 1
  · subst e1; cases (Option.some.inj h); exact kok1
  by_cases e2 : κ = 2
  · subst e2; cases (Option.some.inj h); exact kok2
  by_cases e3 : κ = 3
  · subst e3; cases (Option.some.inj h); exact kok3
  by_cases e4 : κ = 4
  · subst e4; cases (Option.some.inj h); exact kok4
  by_cases e5 : κ = 5
  · subst e5; cases (Option.some.inj h); exact kok5
  by_cases e6 : κ = 6
  · subst e6; cases (Option.some.inj h); exact kok6
  by_cases e7 : κ = 7
  · subst e7; cases (Option.some.inj h); exact kok7
  by_cases e8 : κ = 8
  · subst e8; cases (Option.some.inj h); exact kok8
  by_cases e9 : κ = 9
  · subst e9; cases (Option.some.inj h); exact kok9
  omega
theorem kis : ∀ {κ : Nat} {q : vw_C}, kcl[κ]? = some q → Cond.instantiable q.1 q.2.2 ∈ lw_w := by
  intro κ q h
  have hl := kcl_lt h
  by_cases e0 : κ = 0
  · subst e0; cases (Option.some.inj h); exact kis0
  by_cases e1 : κ = 1
  · subst e1; cases (Option.some.inj h); exact kis1
  by_cases e2 : κ = 2
  · subst e2; cases (Option.some.inj h); exact kis2
  by_cases e3 : κ = 3
  · subst e3; cases (Option.some.inj h); exact kis3
  by_cases e4 : κ = 4
  · subst e4; cases (Option.some.inj h); exact kis4
  by_cases e5 : κ = 5
  · subst e5; cases (Option.some.inj h); exact kis5
  by_cases e6 : κ = 6
  · subst e6; cases (Option.some.inj h); exact kis6
  by_cases e7 : κ = 7
  · subst e7; cases (Option.some.inj h); exact kis7
  by_cases e8 : κ = 8
  · subst e8; cases (Option.some.inj h); exact kis8
  by_cases e9 : κ = 9
  · subst e9; cases (Option.some.inj h); exact kis9
  omega
theorem kii : ∀ {κ : Nat} {q : vw_C}, kcl[κ]? = some q → Cond.initialized q.1 ∈ lw_w := by
  intro κ q h
  have hl := kcl_lt h
  by_cases e0 : κ = 0
  · subst e0; cases (Option.some.inj h); exact kii0
  by_cases e1 : κ = 1
  · subst e1; cases (Option.some.inj h); exact kii1
  by_cases e2 : κ = 2
  · subst e2; cases (Option.some.inj h); exact kii2
  by_cases e3 : κ = 3
  · subst e3; cases (Option.some.inj h); exact kii3
  by_cases e4 : κ = 4
  · subst e4; cases (Option.some.inj h); exact kii4
  by_cases e5 : κ = 5
  · subst e5; cases (Option.some.inj h); exact kii5
  by_cases e6 : κ = 6
  · subst e6; cases (Option.some.inj h); exact kii6
  by_cases e7 : κ = 7
  · subst e7; cases (Option.some.inj h); exact kii7
  by_cases e8 : κ = 8
  · subst e8; cases (Option.some.inj h); exact kii8
  by_cases e9 : κ = 9
  · subst e9; cases (Option.some.inj h); exact kii9
  omega
theorem kfo : ∀ {κ : Nat} {q : vw_C}, kcl[κ]? = some q → ∀ k, k < q.2.2 → (fint κ k = true ∧ kty κ k = .int) ∨ (fint κ k = false ∧ (kty κ k).isReference = true) := by
  intro κ q h
  have hl := kcl_lt h
  by_cases e0 : κ = 0
  · subst e0; cases (Option.some.inj h); exact kfo0
  by_cases e1 : κ = 1
  · subst e1; cases (Option.some.inj h); exact kfo1
  by_cases e2 : κ = 2
  · subst e2; cases (Option.some.inj h); exact kfo2
  by_cases e3 : κ = 3
  · subst e3; cases (Option.some.inj h); exact kfo3
  by_cases e4 : κ = 4
  · subst e4; cases (Option.some.inj h); exact kfo4
  by_cases e5 : κ = 5
  · subst e5; cases (Option.some.inj h); exact kfo5
  by_cases e6 : κ = 6
  · subst e6; cases (Option.some.inj h); exact kfo6
  by_cases e7 : κ = 7
  · subst e7; cases (Option.some.inj h); exact kfo7
  by_cases e8 : κ = 8
  · subst e8; cases (Option.some.inj h); exact kfo8
  by_cases e9 : κ = 9
  · subst e9; cases (Option.some.inj h); exact kfo9
  omega
/-- element types of the arrays -/
def atl : List FieldType := [.int, .boolean, .object "VersionMaps$Chunk", .object "VersionMaps$Page", .object "VersionMaps$Root", .object "VersionMaps$Leaf", .object "java/lang/Object"]
end
section
/-! THE ABSTRACT HEAP: next address, slots used, kind of each cell, length, its ints, its references -/
abbrev Hp : Type := Nat × Nat × (Nat → Nat) × (Nat → Nat) × (Nat → Nat → Int32) × (Nat → Nat → Option Nat)
def hpN (h : Hp) : Nat := h.1
def hpS (h : Hp) : Nat := h.2.1
def hpT (h : Hp) : Nat → Nat := h.2.2.1
def hpL (h : Hp) : Nat → Nat := h.2.2.2.1
def hpI (h : Hp) : Nat → Nat → Int32 := h.2.2.2.2.1
def hpR (h : Hp) : Nat → Nat → Option Nat := h.2.2.2.2.2
def wI (h : Hp) (a k : Nat) (v : Int32) : Hp := (hpN h, hpS h, hpT h, hpL h, fun b j => if b = a ∧ j = k then v else hpI h b j, hpR h)
def wR (h : Hp) (a k : Nat) (v : Option Nat) : Hp := (hpN h, hpS h, hpT h, hpL h, hpI h, fun b j => if b = a ∧ j = k then v else hpR h b j)
/-- a new cell of kind κ, n its length (0 for objects), w its slots -/
def nw (h : Hp) (κ n w : Nat) : Hp := (hpN h + 1, hpS h + w, fun b => if b = hpN h then κ else hpT h b, fun b => if b = hpN h then n else hpL h b, fun b j => if b = hpN h then 0 else hpI h b j, fun b j => if b = hpN h then none else hpR h b j)
/-- n places from sp of a to dp of b -/
def cpI (h : Hp) (a sp b dp n : Nat) : Hp := (hpN h, hpS h, hpT h, hpL h, fun x j => if x = b ∧ dp ≤ j ∧ j < dp + n then hpI h a (sp + (j - dp)) else hpI h x j, hpR h)
def cpR (h : Hp) (a sp b dp n : Nat) : Hp := (hpN h, hpS h, hpT h, hpL h, hpI h, fun x j => if x = b ∧ dp ≤ j ∧ j < dp + n then hpR h a (sp + (j - dp)) else hpR h x j)
/-- kinds: below 63 the objects of class κ; 63: nothing there; from 64 on arrays: 64 the empty array of ArrayList, 65 the law's script, from 66 on those that are made, by the place that makes them -/
def kat : List Nat := [6, 0, 0, 0, 2, 2, 1, 1, 0, 6, 6, 1, 1, 1, 0, 0, 0, 0, 0, 0, 0, 0, 0, 1, 0, 0, 0, 0, 0, 1, 0, 0, 0, 0, 0, 0, 0, 0, 0, 3, 4, 5, 0]
def aty (κ : Nat) : Nat := kat.getD (κ - 64) 0
def aref (κ : Nat) : Bool := Nat.ble 2 (aty κ)
def fV (h : Hp) (a k : Nat) : Value := if fint (hpT h a) k then .int (hpI h a k) else va_rf (hpR h a k)
def aV (h : Hp) (a j : Nat) : Value := if aref (hpT h a) then va_rf (hpR h a j) else .int (hpI h a j)
/-- the class numbers and slots; array class numbers; the first address of ours; the empty array; the script, its length, its ints -/
abbrev Ct : Type := va_G × (Nat → ClassId) × Nat × Nat × Nat × Nat × (Nat → Int32)
def cD (C : Ct) : va_G := C.1
def cA (C : Ct) : Nat → ClassId := C.2.1
def cB (C : Ct) : Nat := C.2.2.1
def cE (C : Ct) : Nat := C.2.2.2.1
def cS (C : Ct) : Nat := C.2.2.2.2.1
def cL (C : Ct) : Nat := C.2.2.2.2.2.1
def cX (C : Ct) : Nat → Int32 := C.2.2.2.2.2.2
def atH (C : Ct) (h : Hp) (H : Heap) (a : Nat) : Prop :=
  (hpT h a < 63 → ∃ r, kcl[hpT h a]? = some r ∧ t_OB a ((cD C).1 (hpT h a)) r.2.2 ((cD C).2 (hpT h a)) H (fV h a)) ∧
  (66 ≤ hpT h a → H[a]? = some (arrV (cA C (aty (hpT h a))) (hpL h a) (aV h a)))
/-- an address of ours -/
def inD (C : Ct) (h : Hp) (a : Nat) : Prop := cB C ≤ a ∧ a < hpN h
/-- the two arrays that were there before -/
def exH (C : Ct) (h : Hp) : Prop := hpT h (cE C) = 64 ∧ hpT h (cS C) = 65 ∧ hpL h (cE C) = 0 ∧ hpL h (cS C) = cL C ∧ hpI h (cS C) = cX C ∧ cE C < cB C ∧ cS C < cB C
def HP (C : Ct) (h : Hp) (H : Heap) : Prop :=
  H.size = hpN h ∧ cB C ≤ hpN h ∧ (∀ a, inD C h a → atH C h H a ∧ hpT h a ≠ 64 ∧ hpT h a ≠ 65) ∧ (∀ a, ¬ inD C h a → a ≠ cE C → a ≠ cS C → hpT h a = 63) ∧ exH C h
theorem HP.dom {C : Ct} {h : Hp} {H : Heap} (P : HP C h H) {a : Nat} (ht : hpT h a ≠ 63) (h4 : hpT h a ≠ 64) (h5 : hpT h a ≠ 65) : inD C h a := Classical.byContradiction fun q => ht (P.2.2.2.1 a q (fun e => h4 (by rw [e]; exact P.2.2.2.2.1)) (fun e => h5 (by rw [e]; exact P.2.2.2.2.2.1)))
theorem HP.obj {C : Ct} {h : Hp} {H : Heap} (P : HP C h H) {a κ : Nat} (ht : hpT h a = κ) (hk : κ < 63) : ∃ r, kcl[κ]? = some r ∧ t_OB a ((cD C).1 κ) r.2.2 ((cD C).2 κ) H (fV h a) := by
  have hd := P.dom (a := a) (by omega) (by omega) (by omega)
  obtain ⟨r, h1, h2⟩ := (P.2.2.1 a hd).1.1 (by omega)
  rw [ht] at h1 h2
  exact ⟨r, h1, h2⟩
theorem HP.arr {C : Ct} {h : Hp} {H : Heap} (P : HP C h H) {a κ : Nat} (ht : hpT h a = κ) (hk : 66 ≤ κ) : H[a]? = some (arrV (cA C (aty κ)) (hpL h a) (aV h a)) := by
  have hd := P.dom (a := a) (by omega) (by omega) (by omega)
  have h2 := (P.2.2.1 a hd).1.2 (by omega)
  rw [ht] at h2
  exact h2
theorem HP.own {C : Ct} {h : Hp} {H : Heap} (P : HP C h H) {a κ : Nat} (ht : hpT h a = κ) (hk : κ < 63 ∨ 66 ≤ κ) : cB C ≤ a ∧ a < hpN h := P.dom (a := a) (by omega) (by omega) (by omega)
/-- the empty array and the script by their kinds -/
theorem HP.ext {C : Ct} {h : Hp} {H : Heap} (P : HP C h H) {a : Nat} : (hpT h a = 64 → a = cE C) ∧ (hpT h a = 65 → a = cS C) := by
  obtain ⟨-, -, p3, p4, p5, p6, -⟩ := P
  by_cases hd : inD C h a
  · exact ⟨fun q => absurd q (p3 a hd).2.1, fun q => absurd q (p3 a hd).2.2⟩
  · refine ⟨fun q => ?_, fun q => ?_⟩
    · by_cases e : a = cE C
      · exact e
      · by_cases e2 : a = cS C
        · rw [e2, p6] at q; cases q
        · rw [p4 a hd e e2] at q; cases q
    · by_cases e : a = cS C
      · exact e
      · by_cases e2 : a = cE C
        · rw [e2, p5] at q; cases q
        · rw [p4 a hd e2 e] at q; cases q
/-- a cell of ours is written: the others stay -/
theorem HP.put {C : Ct} {h h1 : Hp} {H H1 : Heap} (P : HP C h H) {a κ : Nat} (ht : hpT h a = κ) (hk : κ < 63 ∨ 66 ≤ κ) (z : H1.size = H.size) (oq : ∀ q : Nat, q ≠ a → H1[q]? = H[q]?)
    (e1 : hpN h1 = hpN h) (e2 : hpT h1 = hpT h) (e3 : hpL h1 = hpL h) (e4 : ∀ b, b ≠ a → hpI h1 b = hpI h b) (e5 : ∀ b, b ≠ a → hpR h1 b = hpR h b) (hat : atH C h1 H1 a) : HP C h1 H1 := by
  have hown := P.own ht hk
  obtain ⟨p1, p2, p3, p4, x1, x2, x3, x4, x5, x6, x7⟩ := P
  refine ⟨by rw [z, e1]; exact p1, by rw [e1]; exact p2, fun b hb => ?_, fun b hb => ?_, by rw [e2]; exact x1, by rw [e2]; exact x2, by rw [e3]; exact x3, by rw [e3]; exact x4, by rw [e4 _ (by omega)]; exact x5, x6, x7⟩
  · have h0 := p3 b (by unfold inD at hb ⊢; rw [e1] at hb; exact hb)
    by_cases hba : b = a
    · rw [e2]
      exact ⟨by rw [hba]; exact hat, h0.2⟩
    · refine ⟨?_, by rw [e2]; exact h0.2⟩
      have h0 := h0.1
      unfold atH at h0 ⊢
      rw [e2, e3]
      have f1 : fV h1 b = fV h b := by funext k; unfold fV; rw [e2, e4 b hba, e5 b hba]
      have f2 : aV h1 b = aV h b := by funext k; unfold aV; rw [e2, e4 b hba, e5 b hba]
      rw [f1, f2]
      refine ⟨fun q => ?_, fun q => ?_⟩
      · obtain ⟨r, g1, g2⟩ := h0.1 q
        exact ⟨r, g1, g2.kept (oq b hba)⟩
      · rw [oq b hba]; exact h0.2 q
  · rw [e2]; exact p4 b (by unfold inD at hb ⊢; rw [e1] at hb; exact hb)
/-- a cell is made -/
theorem HP.new {C : Ct} {h : Hp} {H H1 : Heap} {κ n w : Nat} (P : HP C h H) (z : H1.size = H.size + 1) (oq : ∀ q : Nat, q < H.size → H1[q]? = H[q]?) (hk : κ < 63 ∨ 66 ≤ κ) (hat : atH C (nw h κ n w) H1 (hpN h)) : HP C (nw h κ n w) H1 := by
  obtain ⟨p1, p2, p3, p4, x1, x2, x3, x4, x5, x6, x7⟩ := P
  have eT : ∀ b, b ≠ hpN h → hpT (nw h κ n w) b = hpT h b := fun b hb => if_neg hb
  have eL : ∀ b, b ≠ hpN h → hpL (nw h κ n w) b = hpL h b := fun b hb => if_neg hb
  have eI : ∀ b, b ≠ hpN h → hpI (nw h κ n w) b = hpI h b := fun b hb => by funext k; exact if_neg hb
  have eR : ∀ b, b ≠ hpN h → hpR (nw h κ n w) b = hpR h b := fun b hb => by funext k; exact if_neg hb
  have eN : hpN (nw h κ n w) = hpN h + 1 := rfl
  have eK : hpT (nw h κ n w) (hpN h) = κ := if_pos rfl
  refine ⟨by rw [z, eN, p1], by rw [eN]; omega, fun b hb => ?_, fun b hb => ?_, by rw [eT _ (by omega)]; exact x1, by rw [eT _ (by omega)]; exact x2, by rw [eL _ (by omega)]; exact x3, by rw [eL _ (by omega)]; exact x4, by rw [eI _ (by omega)]; exact x5, x6, x7⟩
  · by_cases hba : b = hpN h
    · rw [hba]; exact ⟨hat, by rw [eK]; omega, by rw [eK]; omega⟩
    · have hlt : b < hpN h := by have := hb.2; rw [eN] at this; omega
      have h0 := p3 b ⟨hb.1, hlt⟩
      refine ⟨?_, by rw [eT b hba]; exact h0.2⟩
      have h0 := h0.1
      unfold atH at h0 ⊢
      rw [eT b hba, eL b hba]
      have f1 : fV (nw h κ n w) b = fV h b := by funext k; unfold fV; rw [eT b hba, eI b hba, eR b hba]
      have f2 : aV (nw h κ n w) b = aV h b := by funext k; unfold aV; rw [eT b hba, eI b hba, eR b hba]
      rw [f1, f2]
      refine ⟨fun q => ?_, fun q => ?_⟩
      · obtain ⟨r, g1, g2⟩ := h0.1 q
        exact ⟨r, g1, g2.kept (oq b (by rw [p1]; exact hlt))⟩
      · rw [oq b (by rw [p1]; exact hlt)]; exact h0.2 q
  · have hba : b ≠ hpN h := fun q => hb ⟨by rw [q]; exact p2, by rw [q, eN]; omega⟩
    rw [eT b hba]
    exact p4 b (fun q => hb ⟨q.1, by rw [eN]; have := q.2; omega⟩)
/-! TYPED VALUES -/
abbrev Tv : Type := Int32 ⊕ (Option Nat ⊕ Int64)
abbrev vi (x : Int32) : Tv := .inl x
abbrev vr (r : Option Nat) : Tv := .inr (.inl r)
abbrev vl (x : Int64) : Tv := .inr (.inr x)
def tv : Tv → Value
  | .inl x => .int x
  | .inr (.inl r) => va_rf r
  | .inr (.inr x) => .long x
def cat2 : Tv → Bool
  | .inr (.inr _) => true
  | _ => false
theorem rf_cat (r : Option Nat) : (va_rf r).category = 1 := by cases r <;> rfl
theorem tv_cat (t : Tv) : ((tv t).category == 2) = cat2 t := by
  rcases t with x | r | x
  · rfl
  · show ((va_rf r).category == 2) = false
    rw [rf_cat]; rfl
  · rfl
theorem tv_cat1 {t : Tv} (h : cat2 t = false) : (tv t).category = 1 := by
  have h1 := tv_cat t
  rcases lv_cat (tv t) with q | q
  · exact q
  · rw [q, h] at h1; exact absurd h1 (by decide)
def LR (lv : Array Slot) (n : Nat) (ls : List (Nat × Tv)) : Prop := lv_has lv n (ls.map fun q => (q.1, tv q.2))
theorem LR.at {lv : Array Slot} {n : Nat} {ls : List (Nat × Tv)} (h : LR lv n ls) (k : Nat) {i : Nat} {t : Tv} (hk : ls[k]? = some (i, t)) : lv[i]? = some (.val (tv t)) := lv_at h k (by rw [List.getElem?_map, hk]; rfl)
def lf (i : Nat) (ls : List (Nat × Tv)) : List (Nat × Tv) := ls.filter (fun q => !(q.1 == i) && !(q.1 + 1 == i && cat2 q.2))
theorem lf_map (i : Nat) (ls : List (Nat × Tv)) : (ls.map fun q => (q.1, tv q.2)).filter (fun q => !(q.1 == i) && !(q.1 + 1 == i && q.2.category == 2)) = (lf i ls).map fun q => (q.1, tv q.2) := by
  unfold lf
  rw [List.filter_map]
  congr 1
  apply List.filter_congr
  intro q _
  show (!(q.1 == i) && !(q.1 + 1 == i && ((tv q.2).category == 2))) = _
  rw [tv_cat]
theorem LR.sub {lv : Array Slot} {n : Nat} {ls ls' : List (Nat × Tv)} (h : LR lv n ls) (ks : List Nat) (e : ks.filterMap (fun k => ls[k]?) = ls') : LR lv n ls' := by
  refine ⟨h.1, h.2.1, fun q hq => ?_⟩
  obtain ⟨x, hx, rfl⟩ := List.mem_map.mp hq
  rw [← e] at hx
  obtain ⟨k, -, hk⟩ := List.mem_filterMap.mp hx
  exact h.2.2 _ (List.mem_map.mpr ⟨x, List.mem_of_getElem? hk, rfl⟩)
end
section
/-! WORDS OF THE TABLES, in any state of the run -/
def wmable : Cond → Bool
  | .arrayOver (.object _) => true
  | .methodLinkNest _ _ _ _ => true
  | .castable _ _ => true
  | .declares _ => true
  | .privateMethod _ => true
  | w => goodWord w
theorem wm_ok {w : Cond} {s U : State} (h : wmable w = true) (hW : s.WarmedH U.vm) (hZ : va_Nw w s) : va_Nw w U := by
  unfold wmable at h
  split at h
  · exact va_AO.moved hW.alike hZ
  · exact va_Nw.warmM hW hZ
  · exact va_Nw.warmC hW hZ
  · exact va_Nw.warmD hW hZ
  · exact va_tabs rfl (rfl : (s.setVm U.vm).vm = U.vm) (by rw [Cond.privateMethod_setVm hW.alike]; exact hZ)
  · exact word_at hW (good_of_word h) hZ
theorem wm_all : lw_w.all wmable = true := by decide +kernel
def wuse : Cond → Bool
  | .arrayOver (.object _) => true
  | .arrayClass _ => true
  | w => w.onTables
theorem wu_ok {w : Cond} {U : State} {A : Array Value} (h : wuse w = true) (hZ : va_Nw w U) : w.before A U = true := by
  unfold wuse at h
  split at h
  · exact va_AO.use hZ
  · exact hZ
  · exact va_Nw.use h hZ
theorem wu_of {w : Cond} {U : State} {A : Array Value} (h : wuse w = true) (hZ : w.before A U = true) : va_Nw w U := by
  unfold wuse at h
  split at h
  · exact hZ
  · exact hZ
  · exact va_Nw.of h hZ
theorem wu_all : lw_w.all wuse = true := by decide +kernel
def KW (U : State) : Prop := ∀ w ∈ lw_w, va_Nw w U
theorem KW.warm {s U : State} (hW : s.WarmedH U.vm) (h : KW s) : KW U := fun w hw => wm_ok (List.all_eq_true.mp wm_all w hw) hW (h w hw)
theorem KW.use {s : State} (h : KW s) {A : Array Value} : ∀ w ∈ lw_w, w.before A s = true := fun w hw => wu_ok (List.all_eq_true.mp wu_all w hw) (h w hw)
theorem KW.of {s : State} {A : Array Value} (h : ∀ w ∈ lw_w, w.before A s = true) : KW s := fun w hw => wu_of (List.all_eq_true.mp wu_all w hw) (h w hw)
def tys (ca : Nat → ClassId) : List (ClassId × FieldType) := [(ca 0, .int), (ca 1, .boolean), (ca 2, .object "VersionMaps$Chunk"), (ca 3, .object "VersionMaps$Page"), (ca 4, .object "VersionMaps$Root"), (ca 5, .object "VersionMaps$Leaf"), (ca 6, .object "java/lang/Object")]
def fre (C : Ct) : Nat → Prop := fun q => cB C ≤ q
/-- the empty array of ArrayList -/
def emA (a : Nat) (U : State) (H : Heap) : Prop := ∃ cell : Cell, H[a]? = some cell ∧ U.isArrayOf cell (.object "java/lang/Object") ∧ cell.slots.size.toInt32 = 0
/-- what is known of the tables: words, classes, arrays; the static that is read; the mirror of Object[]; the two arrays that were there before -/
def KK (C : Ct) (mi : Nat) (U : State) : Prop := KW U ∧ va_K (cD C) kcl (tys (cA C)) U ∧ va_Z "java/util/ArrayList" "DEFAULTCAPACITY_EMPTY_ELEMENTDATA" "[Ljava/lang/Object;" (.ref (cE C)) (fre C) U U.heap ∧ va_Mi "[Ljava/lang/Object;" mi U ∧ va_X (cS C) (cL C) (cX C) U U.heap ∧ emA (cE C) U U.heap ∧ cS C < cB C ∧ cE C < cB C
theorem KK.at {C : Ct} {mi : Nat} {s : State} {H : Heap} {locs : List Loc} (h : KK C mi s) (hS : va_S (fre C) s.heap H locs) : va_X (cS C) (cL C) (cX C) s H ∧ emA (cE C) s H := by
  obtain ⟨-, -, -, -, h5, ⟨cell, c1, c2, c3⟩, h7, h8⟩ := h
  refine ⟨h5.kept (hS.2.1 _ ?_ ?_), cell, ?_, c2, c3⟩
  · obtain ⟨scr, q, -⟩ := h5
    exact (Array.getElem?_eq_some_iff.mp q).1
  · exact fun q => absurd (show cB C ≤ cS C from q) (Nat.not_le.mpr h7)
  · rw [hS.2.1 _ (Array.getElem?_eq_some_iff.mp c1).1 (fun q => absurd (show cB C ≤ cE C from q) (Nat.not_le.mpr h8))]
    exact c1
theorem KK.warm {C : Ct} {mi : Nat} {s U : State} (h : KK C mi s) (hW : s.WarmedH U.vm) {H : Heap} {locs : List Loc} (hU : U.heap = H) (hS : va_S (fre C) s.heap H locs) : KK C mi U := by
  obtain ⟨g1, cell, c1, c2, c3⟩ := h.at hS
  obtain ⟨h1, h2, h3, h4, h5, h6, h7⟩ := h
  refine ⟨h1.warm hW, va_K.moved hW.alike h2, ?_, va_Mi.moved hW.alike h4, ?_, ⟨cell, by rw [hU]; exact c1, State.isArrayOf_alike hW.alike c2, c3⟩, h7⟩
  · exact va_Z.moved hW.alike (h3.kept (fun a ha hn => by rw [hU]; exact hS.2.1 a ha hn))
  · rw [hU]; exact va_X.moved hW.alike g1
theorem KK.calling {C : Ct} {mi : Nat} {U : State} {g : JFrame} {mk : MethodId} {a : Array Value} (h : KK C mi U) : KK C mi (U.calling g mk a) := by
  obtain ⟨h1, h2, h3, h4, h5, h6, h7⟩ := h
  have hv : U.vm = (U.calling g mk a).vm := rfl
  refine ⟨fun w hw => ?_, va_K.moved (u := U) (U := U.calling g mk a) (Vm.Alike.refl U.vm) h2, va_Z.moved (u := U) (U := U.calling g mk a) (Vm.Alike.refl U.vm) h3, va_Mi.moved (u := U) (U := U.calling g mk a) (Vm.Alike.refl U.vm) h4, va_X.moved (u := U) (U := U.calling g mk a) (Vm.Alike.refl U.vm) h5, h6, h7⟩
  have hw2 := List.all_eq_true.mp wu_all w hw
  have h5 := h1 w hw
  unfold wuse at hw2
  split at hw2
  · exact h5
  · exact h5
  · exact va_Nw.same hw2 hv h5
/-! METHODS: name, code, locals, type of the answer, instruction of return -/
abbrev Mi : Type := MethodName × ByteArray × Nat × Option FieldType × Instr
def Cx (C : Ct) (mi : Nat) (M : Mi) (d : Nat) (p : Program) (R : Room) (s : State) (m : MethodId) (args : Array Value) (meth : Method) (c : Code) : Prop :=
  p.tables.exec = Jvm.exec ∧ c.code = M.2.1 ∧ c.maxLocals = M.2.2.1 ∧ s.vm.findClass M.1.cls = some m.cls ∧ KK C mi s ∧ d ≤ R.frames ∧ 36 * d ≤ R.locals ∧ (M.1.name = "<init>" → meth.name = "<init>")
/-- from pc, with these locals and this stack, over this heap, the method comes to its return with r over h' -/
def Z (l : Launch) (C : Ct) (mi : Nat) (M : Mi) (d pc : Nat) (ls : List (Nat × Tv)) (st : List Tv) (h : Hp) (r : Option Tv) (h' : Hp) : Prop :=
  hpN h ≤ hpN h' ∧ hpS h ≤ hpS h' ∧ ∀ (p : Program) (e : Env) (R : Room) (s : State) (m : MethodId) (args : Array Value) (below : List Frame) (meth : Method) (c : Code) (H : Heap) (locs : List Loc) (lv : Array Slot) (Q : State → Prop) (n0 s0 : Nat),
    Cx C mi M d p R s m args meth c → HP C h H → va_S (fre C) s.heap H locs → s.heap.size ≤ H.size → cB C ≤ s.heap.size → LR lv M.2.2.1 ls → n0 ≤ hpN h → s0 ≤ hpS h → hpN h' ≤ n0 + R.cells → hpS h' ≤ s0 + R.slots →
    (∀ (pc' : Nat) (H' : Heap) (locs' : List Loc) (lv' : Array Slot), decode M.2.1 pc' = .ok (M.2.2.2.2, 1) → HP C h' H' → va_S (fre C) s.heap H' locs' → W p l e R s m args below meth c H' locs' (hpN h' - n0) (hpS h' - s0) Q (F0 m pc' lv' ((r.map tv).toList))) →
    W p l e R s m args below meth c H locs (hpN h - n0) (hpS h - s0) Q (F0 m pc lv (st.map tv))
/-- a method's contract: on these arguments over h it answers r over h' -/
def Mt (l : Launch) (C : Ct) (mi : Nat) (M : Mi) (d : Nat) (av : List Tv) (h : Hp) (r : Option Tv) (h' : Hp) : Prop :=
  hpN h ≤ hpN h' ∧ hpS h ≤ hpS h' ∧ Met l M.1 [.code M.1 M.2.1 M.2.2.1 M.2.2.2.1] { frames := d, cells := hpN h' - hpN h, slots := hpS h' - hpS h, locals := 36 * d } (va_Pc (av.map tv) (fun U => HP C h U.heap ∧ KK C mi U))
    (fun _ st oc t => oc = .returned (r.map tv) ∧ HP C h' t.heap ∧ va_F (fre C) st t) (hpN h' - hpN h) (hpS h' - hpS h) (fre C)
theorem lv_argsT : ∀ (av : List Tv) (i : Nat), lv_args i (av.map tv) = (lv_args i (av.map tv)) := fun _ _ => rfl
section Rules
variable {l : Launch} {C : Ct} {mi : Nat} {M : Mi} {d pc : Nat} {ls : List (Nat × Tv)} {st : List Tv} {h h' : Hp} {r : Option Tv}
/-- a step that leaves the heap -/
theorem z_of {pc2 : Nat} {ls2 : List (Nat × Tv)} {st2 : List Tv} (k : Z l C mi M d pc2 ls2 st2 h r h')
    (f : ∀ (p : Program) (e : Env) (R : Room) (s : State) (m : MethodId) (args : Array Value) (below : List Frame) (meth : Method) (c : Code) (H : Heap) (locs : List Loc) (cells slots : Nat) (lv : Array Slot) (Q : State → Prop), Cx C mi M d p R s m args meth c → HP C h H → va_S (fre C) s.heap H locs → LR lv M.2.2.1 ls →
      (∀ lv2 : Array Slot, LR lv2 M.2.2.1 ls2 → W p l e R s m args below meth c H locs cells slots Q (F0 m pc2 lv2 (st2.map tv))) → W p l e R s m args below meth c H locs cells slots Q (F0 m pc lv (st.map tv))) : Z l C mi M d pc ls st h r h' :=
  ⟨k.1, k.2.1, fun p e R s m args below meth c H locs lv Q n0 s0 X P S z1 z2 L a1 a2 a3 a4 hend => f p e R s m args below meth c H locs _ _ lv Q X P S L (fun lv2 L2 => k.2.2 p e R s m args below meth c H locs lv2 Q n0 s0 X P S z1 z2 L2 a1 a2 a3 a4 hend)⟩
theorem z_or {c : Prop} (a : c → Z l C mi M d pc ls st h r h') (b : ¬ c → Z l C mi M d pc ls st h r h') : Z l C mi M d pc ls st h r h' := (Classical.em c).elim a b
theorem z_ls {ls2 : List (Nat × Tv)} (ks : List Nat) (e : ks.filterMap (fun k => ls[k]?) = ls2) (k : Z l C mi M d pc ls2 st h r h') : Z l C mi M d pc ls st h r h' :=
  z_of k fun p e' R s m args below meth c H locs cells slots lv Q X P S L kk => kk lv (L.sub ks e)
theorem z_iconst {n : Int} {v : Int32} (hd : decode M.2.1 pc = .ok (.iconst n, 1)) (hv : Int32.ofInt n = v) (k : Z l C mi M d (pc + 1) ls (vi v :: st) h r h') : Z l C mi M d pc ls st h r h' :=
  z_of k fun p e R s m args below meth c H locs cells slots lv Q X P S L kk => lv_iconst X.1 X.2.1 hd hv (kk lv L)
theorem z_bipush {n : Int} {v : Int32} (hd : decode M.2.1 pc = .ok (.bipush n, 2)) (hv : (Int8.ofInt n).toInt32 = v) (k : Z l C mi M d (pc + 2) ls (vi v :: st) h r h') : Z l C mi M d pc ls st h r h' :=
  z_of k fun p e R s m args below meth c H locs cells slots lv Q X P S L kk => lv_bipush X.1 X.2.1 hd hv (kk lv L)
theorem z_sipush {n : Int} {v : Int32} (hd : decode M.2.1 pc = .ok (.sipush n, 3)) (hv : (Int16.ofInt n).toInt32 = v) (k : Z l C mi M d (pc + 3) ls (vi v :: st) h r h') : Z l C mi M d pc ls st h r h' :=
  z_of k fun p e R s m args below meth c H locs cells slots lv Q X P S L kk => lv_sipush X.1 X.2.1 hd hv (kk lv L)
theorem z_ldc {i : Nat} {v : Int32} (hd : decode M.2.1 pc = .ok (.ldc i, 2)) (hw : Cond.constant M.1.cls i v ∈ lw_w) (k : Z l C mi M d (pc + 2) ls (vi v :: st) h r h') : Z l C mi M d pc ls st h r h' :=
  z_of k fun p e R s m args below meth c H locs cells slots lv Q X P S L kk => lv_ldc X.1 X.2.1 X.2.2.2.1 (X.2.2.2.2.1.1.use _ hw) hd (kk lv L)
theorem z_ldc2 {i : Nat} {v : Int64} (hd : decode M.2.1 pc = .ok (.ldc2_w i, 3)) (hw : Cond.constantLong M.1.cls i v ∈ lw_w) (k : Z l C mi M d (pc + 3) ls (vl v :: st) h r h') : Z l C mi M d pc ls st h r h' :=
  z_of k fun p e R s m args below meth c H locs cells slots lv Q X P S L kk => lv_ldc2 X.1 X.2.1 X.2.2.2.1 (X.2.2.2.2.1.1.use _ hw) hd (kk lv L)
theorem z_iload_n {j : Fin 4} {i : Nat} {x : Int32} (q : Nat) (hd : decode M.2.1 pc = .ok (.iload_n j, 1)) (hi : (j : Nat) = i) (hq : ls[q]? = some (i, vi x)) (k : Z l C mi M d (pc + 1) ls (vi x :: st) h r h') : Z l C mi M d pc ls st h r h' :=
  z_of k fun p e R s m args below meth c H locs cells slots lv Q X P S L kk => lv_iload_n X.1 X.2.1 hd hi (L.at q hq) (kk lv L)
theorem z_iload {i : Nat} {x : Int32} (q : Nat) (hd : decode M.2.1 pc = .ok (.iload i, 2)) (hq : ls[q]? = some (i, vi x)) (k : Z l C mi M d (pc + 2) ls (vi x :: st) h r h') : Z l C mi M d pc ls st h r h' :=
  z_of k fun p e R s m args below meth c H locs cells slots lv Q X P S L kk => lv_iload X.1 X.2.1 hd (L.at q hq) (kk lv L)
theorem z_aload_n {j : Fin 4} {i : Nat} {x : Option Nat} (q : Nat) (hd : decode M.2.1 pc = .ok (.aload_n j, 1)) (hi : (j : Nat) = i) (hq : ls[q]? = some (i, vr x)) (k : Z l C mi M d (pc + 1) ls (vr x :: st) h r h') : Z l C mi M d pc ls st h r h' :=
  z_of k fun p e R s m args below meth c H locs cells slots lv Q X P S L kk => by
    cases x with
    | none => exact lv_aload_nN X.1 X.2.1 hd hi (L.at q hq) (kk lv L)
    | some a => exact lv_aload_n X.1 X.2.1 hd hi (L.at q hq) (kk lv L)
theorem z_aload {i : Nat} {x : Option Nat} (q : Nat) (hd : decode M.2.1 pc = .ok (.aload i, 2)) (hq : ls[q]? = some (i, vr x)) (k : Z l C mi M d (pc + 2) ls (vr x :: st) h r h') : Z l C mi M d pc ls st h r h' :=
  z_of k fun p e R s m args below meth c H locs cells slots lv Q X P S L kk => by
    cases x with
    | none => exact lv_aloadN X.1 X.2.1 hd (L.at q hq) (kk lv L)
    | some a => exact lv_aload X.1 X.2.1 hd (L.at q hq) (kk lv L)
theorem z_aconst_null (hd : decode M.2.1 pc = .ok (.aconst_null, 1)) (k : Z l C mi M d (pc + 1) ls (vr none :: st) h r h') : Z l C mi M d pc ls st h r h' :=
  z_of k fun p e R s m args below meth c H locs cells slots lv Q X P S L kk => lv_null X.1 X.2.1 hd (kk lv L)
theorem z_istore_n {j : Fin 4} {i : Nat} {x : Int32} {ls2 : List (Nat × Tv)} (hd : decode M.2.1 pc = .ok (.istore_n j, 1)) (hi : (j : Nat) = i) (hn : i < M.2.2.1) (hl : (i, vi x) :: lf i ls = ls2) (k : Z l C mi M d (pc + 1) ls2 st h r h') : Z l C mi M d pc ls (vi x :: st) h r h' :=
  z_of k fun p e R s m args below meth c H locs cells slots lv Q X P S L kk => lv_istore_n X.1 X.2.1 hd hi L hn rfl (fun lv2 L2 => kk lv2 (by rw [lf_map] at L2; rw [← hl]; exact L2))
theorem z_istore {i : Nat} {x : Int32} {ls2 : List (Nat × Tv)} (hd : decode M.2.1 pc = .ok (.istore i, 2)) (hn : i < M.2.2.1) (hl : (i, vi x) :: lf i ls = ls2) (k : Z l C mi M d (pc + 2) ls2 st h r h') : Z l C mi M d pc ls (vi x :: st) h r h' :=
  z_of k fun p e R s m args below meth c H locs cells slots lv Q X P S L kk => lv_istore X.1 X.2.1 hd L hn rfl (fun lv2 L2 => kk lv2 (by rw [lf_map] at L2; rw [← hl]; exact L2))
theorem z_astore_n {j : Fin 4} {i : Nat} {x : Option Nat} {ls2 : List (Nat × Tv)} (hd : decode M.2.1 pc = .ok (.astore_n j, 1)) (hi : (j : Nat) = i) (hn : i < M.2.2.1) (hl : (i, vr x) :: lf i ls = ls2) (k : Z l C mi M d (pc + 1) ls2 st h r h') : Z l C mi M d pc ls (vr x :: st) h r h' :=
  z_of k fun p e R s m args below meth c H locs cells slots lv Q X P S L kk => by
    cases x with
    | none => exact lv_astore_nN X.1 X.2.1 hd hi L hn rfl (fun lv2 L2 => kk lv2 (by rw [lf_map] at L2; rw [← hl]; exact L2))
    | some a => exact lv_astore_n X.1 X.2.1 hd hi L hn rfl (fun lv2 L2 => kk lv2 (by rw [lf_map] at L2; rw [← hl]; exact L2))
theorem z_astore {i : Nat} {x : Option Nat} {ls2 : List (Nat × Tv)} (hd : decode M.2.1 pc = .ok (.astore i, 2)) (hn : i < M.2.2.1) (hl : (i, vr x) :: lf i ls = ls2) (k : Z l C mi M d (pc + 2) ls2 st h r h') : Z l C mi M d pc ls (vr x :: st) h r h' :=
  z_of k fun p e R s m args below meth c H locs cells slots lv Q X P S L kk => by
    cases x with
    | none => exact lv_astoreN X.1 X.2.1 hd L hn rfl (fun lv2 L2 => kk lv2 (by rw [lf_map] at L2; rw [← hl]; exact L2))
    | some a => exact lv_astore X.1 X.2.1 hd L hn rfl (fun lv2 L2 => kk lv2 (by rw [lf_map] at L2; rw [← hl]; exact L2))
theorem z_iinc {i : Nat} {n : Int} {x v : Int32} {ls2 : List (Nat × Tv)} (q : Nat) (hd : decode M.2.1 pc = .ok (.iinc i n, 3)) (hq : ls[q]? = some (i, vi x)) (hv : x + Int32.ofInt n = v) (hn : i < M.2.2.1) (hl : (i, vi v) :: lf i ls = ls2) (k : Z l C mi M d (pc + 3) ls2 st h r h') : Z l C mi M d pc ls st h r h' :=
  z_of k fun p e R s m args below meth c H locs cells slots lv Q X P S L kk => lv_iinc (k := q) X.1 X.2.1 hd L (by rw [List.getElem?_map, hq]; rfl) hv hn rfl (fun lv2 L2 => kk lv2 (by rw [lf_map] at L2; rw [← hl]; exact L2))
end Rules
end
section
section Rules2
variable {l : Launch} {C : Ct} {mi : Nat} {M : Mi} {d pc : Nat} {ls : List (Nat × Tv)} {st : List Tv} {h h' : Hp} {r : Option Tv}
theorem z_iadd {x y : Int32} (hd : decode M.2.1 pc = .ok (.iadd, 1)) (k : Z l C mi M d (pc + 1) ls (vi (x + y) :: st) h r h') : Z l C mi M d pc ls (vi y :: vi x :: st) h r h' :=
  z_of k fun p e R s m args below meth c H locs cells slots lv Q X P S L kk => lv_iadd X.1 X.2.1 hd (kk lv L)
theorem z_isub {x y : Int32} (hd : decode M.2.1 pc = .ok (.isub, 1)) (k : Z l C mi M d (pc + 1) ls (vi (x - y) :: st) h r h') : Z l C mi M d pc ls (vi y :: vi x :: st) h r h' :=
  z_of k fun p e R s m args below meth c H locs cells slots lv Q X P S L kk => lv_isub X.1 X.2.1 hd (kk lv L)
theorem z_imul {x y : Int32} (hd : decode M.2.1 pc = .ok (.imul, 1)) (k : Z l C mi M d (pc + 1) ls (vi (x * y) :: st) h r h') : Z l C mi M d pc ls (vi y :: vi x :: st) h r h' :=
  z_of k fun p e R s m args below meth c H locs cells slots lv Q X P S L kk => lv_imul X.1 X.2.1 hd (kk lv L)
theorem z_iand {x y : Int32} (hd : decode M.2.1 pc = .ok (.iand, 1)) (k : Z l C mi M d (pc + 1) ls (vi (x &&& y) :: st) h r h') : Z l C mi M d pc ls (vi y :: vi x :: st) h r h' :=
  z_of k fun p e R s m args below meth c H locs cells slots lv Q X P S L kk => lv_iand X.1 X.2.1 hd (kk lv L)
theorem z_ior {x y : Int32} (hd : decode M.2.1 pc = .ok (.ior, 1)) (k : Z l C mi M d (pc + 1) ls (vi (x ||| y) :: st) h r h') : Z l C mi M d pc ls (vi y :: vi x :: st) h r h' :=
  z_of k fun p e R s m args below meth c H locs cells slots lv Q X P S L kk => lv_ior X.1 X.2.1 hd (kk lv L)
theorem z_ixor {x y : Int32} (hd : decode M.2.1 pc = .ok (.ixor, 1)) (k : Z l C mi M d (pc + 1) ls (vi (x ^^^ y) :: st) h r h') : Z l C mi M d pc ls (vi y :: vi x :: st) h r h' :=
  z_of k fun p e R s m args below meth c H locs cells slots lv Q X P S L kk => lv_ixor X.1 X.2.1 hd (kk lv L)
theorem z_ishl {x y : Int32} (hd : decode M.2.1 pc = .ok (.ishl, 1)) (k : Z l C mi M d (pc + 1) ls (vi (x <<< (y &&& 31)) :: st) h r h') : Z l C mi M d pc ls (vi y :: vi x :: st) h r h' :=
  z_of k fun p e R s m args below meth c H locs cells slots lv Q X P S L kk => lv_ishl X.1 X.2.1 hd (kk lv L)
theorem z_ishr {x y : Int32} (hd : decode M.2.1 pc = .ok (.ishr, 1)) (k : Z l C mi M d (pc + 1) ls (vi (x >>> (y &&& 31)) :: st) h r h') : Z l C mi M d pc ls (vi y :: vi x :: st) h r h' :=
  z_of k fun p e R s m args below meth c H locs cells slots lv Q X P S L kk => lv_ishr X.1 X.2.1 hd (kk lv L)
def ushr (x y : Int32) : Int32 := (x.toUInt32 >>> (y.toUInt32 &&& Int32.toUInt32 31)).toInt32
theorem z_iushr {x y : Int32} (hd : decode M.2.1 pc = .ok (.iushr, 1)) (k : Z l C mi M d (pc + 1) ls (vi (ushr x y) :: st) h r h') : Z l C mi M d pc ls (vi y :: vi x :: st) h r h' :=
  z_of k fun p e R s m args below meth c H locs cells slots lv Q X P S L kk => lv_iushr X.1 X.2.1 hd rfl (kk lv L)
theorem z_idiv {x y : Int32} (hd : decode M.2.1 pc = .ok (.idiv, 1)) (hne : ¬ y = 0) (k : Z l C mi M d (pc + 1) ls (vi (x / y) :: st) h r h') : Z l C mi M d pc ls (vi y :: vi x :: st) h r h' :=
  z_of k fun p e R s m args below meth c H locs cells slots lv Q X P S L kk => lv_idiv X.1 X.2.1 hd hne (kk lv L)
theorem z_irem {x y : Int32} (hd : decode M.2.1 pc = .ok (.irem, 1)) (hne : ¬ y = 0) (k : Z l C mi M d (pc + 1) ls (vi (x - x / y * y) :: st) h r h') : Z l C mi M d pc ls (vi y :: vi x :: st) h r h' :=
  z_of k fun p e R s m args below meth c H locs cells slots lv Q X P S L kk => lv_irem X.1 X.2.1 hd hne (kk lv L)
theorem z_i2l {x : Int32} (hd : decode M.2.1 pc = .ok (.i2l, 1)) (k : Z l C mi M d (pc + 1) ls (vl x.toInt64 :: st) h r h') : Z l C mi M d pc ls (vi x :: st) h r h' :=
  z_of k fun p e R s m args below meth c H locs cells slots lv Q X P S L kk => lv_i2l X.1 X.2.1 hd rfl (kk lv L)
theorem z_l2i {x : Int64} (hd : decode M.2.1 pc = .ok (.l2i, 1)) (k : Z l C mi M d (pc + 1) ls (vi x.toInt32 :: st) h r h') : Z l C mi M d pc ls (vl x :: st) h r h' :=
  z_of k fun p e R s m args below meth c H locs cells slots lv Q X P S L kk => lv_l2i X.1 X.2.1 hd rfl (kk lv L)
theorem z_lcmp {x y : Int64} (hd : decode M.2.1 pc = .ok (.lcmp, 1)) (k : Z l C mi M d (pc + 1) ls (vi (lg_cmp x y) :: st) h r h') : Z l C mi M d pc ls (vl y :: vl x :: st) h r h' :=
  z_of k fun p e R s m args below meth c H locs cells slots lv Q X P S L kk => W.lcmp X.1 X.2.1 hd (kk lv L)
theorem z_dup {x : Tv} (hd : decode M.2.1 pc = .ok (.dup, 1)) (hx : cat2 x = false) (k : Z l C mi M d (pc + 1) ls (x :: x :: st) h r h') : Z l C mi M d pc ls (x :: st) h r h' :=
  z_of k fun p e R s m args below meth c H locs cells slots lv Q X P S L kk => lv_dup X.1 X.2.1 hd (tv_cat1 hx) (kk lv L)
theorem z_pop {x : Tv} (hd : decode M.2.1 pc = .ok (.pop, 1)) (hx : cat2 x = false) (k : Z l C mi M d (pc + 1) ls st h r h') : Z l C mi M d pc ls (x :: st) h r h' :=
  z_of k fun p e R s m args below meth c H locs cells slots lv Q X P S L kk => lv_pop X.1 X.2.1 hd (tv_cat1 hx) (kk lv L)
theorem z_dup_x1 {x y : Tv} (hd : decode M.2.1 pc = .ok (.dup_x1, 1)) (hx : cat2 x = false) (hy : cat2 y = false) (k : Z l C mi M d (pc + 1) ls (x :: y :: x :: st) h r h') : Z l C mi M d pc ls (x :: y :: st) h r h' :=
  z_of k fun p e R s m args below meth c H locs cells slots lv Q X P S L kk => lv_dup_x1 X.1 X.2.1 hd (tv_cat1 hx) (tv_cat1 hy) (kk lv L)
theorem z_dup2 {x y : Tv} (hd : decode M.2.1 pc = .ok (.dup2, 1)) (hx : cat2 x = false) (hy : cat2 y = false) (k : Z l C mi M d (pc + 1) ls (x :: y :: x :: y :: st) h r h') : Z l C mi M d pc ls (x :: y :: st) h r h' :=
  z_of k fun p e R s m args below meth c H locs cells slots lv Q X P S L kk => lv_dup2_11 X.1 X.2.1 hd (tv_cat1 hx) (tv_cat1 hy) (kk lv L)
theorem z_goto {off : Int} {tgt : Nat} (hd : decode M.2.1 pc = .ok (.goto off, 3)) (ht : (pc : Int) + off = (tgt : Int)) (k : Z l C mi M d tgt ls st h r h') : Z l C mi M d pc ls st h r h' :=
  z_of k fun p e R s m args below meth c H locs cells slots lv Q X P S L kk => lv_goto X.1 X.2.1 hd ht (kk lv L)
theorem z_if_eq {x : Int32} {off : Int} {tgt : Nat} (hd : decode M.2.1 pc = .ok (.ifCond .eq off, 3)) (ht : (pc : Int) + off = (tgt : Int)) (kt : (x = 0) → Z l C mi M d tgt ls st h r h') (kf : ¬ x = 0 → Z l C mi M d (pc + 3) ls st h r h') : Z l C mi M d pc ls (vi x :: st) h r h' := by
  by_cases q : (x = 0)
  · have k := kt q
    exact ⟨k.1, k.2.1, fun p e R s m args below meth c H locs lv Q n0 s0 X P S z1 z2 L a1 a2 a3 a4 hend => lv_if_eq X.1 X.2.1 hd ht (fun q2 => k.2.2 p e R s m args below meth c H locs lv Q n0 s0 X P S z1 z2 L a1 a2 a3 a4 hend) (fun q2 => absurd q q2)⟩
  · have k := kf q
    exact ⟨k.1, k.2.1, fun p e R s m args below meth c H locs lv Q n0 s0 X P S z1 z2 L a1 a2 a3 a4 hend => lv_if_eq X.1 X.2.1 hd ht (fun q2 => absurd q2 q) (fun q2 => k.2.2 p e R s m args below meth c H locs lv Q n0 s0 X P S z1 z2 L a1 a2 a3 a4 hend)⟩
theorem z_if_ne {x : Int32} {off : Int} {tgt : Nat} (hd : decode M.2.1 pc = .ok (.ifCond .ne off, 3)) (ht : (pc : Int) + off = (tgt : Int)) (kt : ¬ x = 0 → Z l C mi M d tgt ls st h r h') (kf : (x = 0) → Z l C mi M d (pc + 3) ls st h r h') : Z l C mi M d pc ls (vi x :: st) h r h' := by
  by_cases q : (x = 0)
  · have k := kf q
    exact ⟨k.1, k.2.1, fun p e R s m args below meth c H locs lv Q n0 s0 X P S z1 z2 L a1 a2 a3 a4 hend => lv_if_ne X.1 X.2.1 hd ht (fun q2 => absurd q q2) (fun q2 => k.2.2 p e R s m args below meth c H locs lv Q n0 s0 X P S z1 z2 L a1 a2 a3 a4 hend)⟩
  · have k := kt q
    exact ⟨k.1, k.2.1, fun p e R s m args below meth c H locs lv Q n0 s0 X P S z1 z2 L a1 a2 a3 a4 hend => lv_if_ne X.1 X.2.1 hd ht (fun q2 => k.2.2 p e R s m args below meth c H locs lv Q n0 s0 X P S z1 z2 L a1 a2 a3 a4 hend) (fun q2 => absurd q2 q)⟩
theorem z_if_lt {x : Int32} {off : Int} {tgt : Nat} (hd : decode M.2.1 pc = .ok (.ifCond .lt off, 3)) (ht : (pc : Int) + off = (tgt : Int)) (kt : (x < 0) → Z l C mi M d tgt ls st h r h') (kf : ¬ x < 0 → Z l C mi M d (pc + 3) ls st h r h') : Z l C mi M d pc ls (vi x :: st) h r h' := by
  by_cases q : (x < 0)
  · have k := kt q
    exact ⟨k.1, k.2.1, fun p e R s m args below meth c H locs lv Q n0 s0 X P S z1 z2 L a1 a2 a3 a4 hend => lv_if_lt X.1 X.2.1 hd ht (fun q2 => k.2.2 p e R s m args below meth c H locs lv Q n0 s0 X P S z1 z2 L a1 a2 a3 a4 hend) (fun q2 => absurd q q2)⟩
  · have k := kf q
    exact ⟨k.1, k.2.1, fun p e R s m args below meth c H locs lv Q n0 s0 X P S z1 z2 L a1 a2 a3 a4 hend => lv_if_lt X.1 X.2.1 hd ht (fun q2 => absurd q2 q) (fun q2 => k.2.2 p e R s m args below meth c H locs lv Q n0 s0 X P S z1 z2 L a1 a2 a3 a4 hend)⟩
theorem z_if_ge {x : Int32} {off : Int} {tgt : Nat} (hd : decode M.2.1 pc = .ok (.ifCond .ge off, 3)) (ht : (pc : Int) + off = (tgt : Int)) (kt : (0 ≤ x) → Z l C mi M d tgt ls st h r h') (kf : ¬ 0 ≤ x → Z l C mi M d (pc + 3) ls st h r h') : Z l C mi M d pc ls (vi x :: st) h r h' := by
  by_cases q : (0 ≤ x)
  · have k := kt q
    exact ⟨k.1, k.2.1, fun p e R s m args below meth c H locs lv Q n0 s0 X P S z1 z2 L a1 a2 a3 a4 hend => lv_if_ge X.1 X.2.1 hd ht (fun q2 => k.2.2 p e R s m args below meth c H locs lv Q n0 s0 X P S z1 z2 L a1 a2 a3 a4 hend) (fun q2 => absurd q q2)⟩
  · have k := kf q
    exact ⟨k.1, k.2.1, fun p e R s m args below meth c H locs lv Q n0 s0 X P S z1 z2 L a1 a2 a3 a4 hend => lv_if_ge X.1 X.2.1 hd ht (fun q2 => absurd q2 q) (fun q2 => k.2.2 p e R s m args below meth c H locs lv Q n0 s0 X P S z1 z2 L a1 a2 a3 a4 hend)⟩
theorem z_if_gt {x : Int32} {off : Int} {tgt : Nat} (hd : decode M.2.1 pc = .ok (.ifCond .gt off, 3)) (ht : (pc : Int) + off = (tgt : Int)) (kt : (0 < x) → Z l C mi M d tgt ls st h r h') (kf : ¬ 0 < x → Z l C mi M d (pc + 3) ls st h r h') : Z l C mi M d pc ls (vi x :: st) h r h' := by
  by_cases q : (0 < x)
  · have k := kt q
    exact ⟨k.1, k.2.1, fun p e R s m args below meth c H locs lv Q n0 s0 X P S z1 z2 L a1 a2 a3 a4 hend => lv_if_gt X.1 X.2.1 hd ht (fun q2 => k.2.2 p e R s m args below meth c H locs lv Q n0 s0 X P S z1 z2 L a1 a2 a3 a4 hend) (fun q2 => absurd q q2)⟩
  · have k := kf q
    exact ⟨k.1, k.2.1, fun p e R s m args below meth c H locs lv Q n0 s0 X P S z1 z2 L a1 a2 a3 a4 hend => lv_if_gt X.1 X.2.1 hd ht (fun q2 => absurd q2 q) (fun q2 => k.2.2 p e R s m args below meth c H locs lv Q n0 s0 X P S z1 z2 L a1 a2 a3 a4 hend)⟩
theorem z_if_le {x : Int32} {off : Int} {tgt : Nat} (hd : decode M.2.1 pc = .ok (.ifCond .le off, 3)) (ht : (pc : Int) + off = (tgt : Int)) (kt : (x ≤ 0) → Z l C mi M d tgt ls st h r h') (kf : ¬ x ≤ 0 → Z l C mi M d (pc + 3) ls st h r h') : Z l C mi M d pc ls (vi x :: st) h r h' := by
  by_cases q : (x ≤ 0)
  · have k := kt q
    exact ⟨k.1, k.2.1, fun p e R s m args below meth c H locs lv Q n0 s0 X P S z1 z2 L a1 a2 a3 a4 hend => lv_if_le X.1 X.2.1 hd ht (fun q2 => k.2.2 p e R s m args below meth c H locs lv Q n0 s0 X P S z1 z2 L a1 a2 a3 a4 hend) (fun q2 => absurd q q2)⟩
  · have k := kf q
    exact ⟨k.1, k.2.1, fun p e R s m args below meth c H locs lv Q n0 s0 X P S z1 z2 L a1 a2 a3 a4 hend => lv_if_le X.1 X.2.1 hd ht (fun q2 => absurd q2 q) (fun q2 => k.2.2 p e R s m args below meth c H locs lv Q n0 s0 X P S z1 z2 L a1 a2 a3 a4 hend)⟩
theorem z_icmp_eq {x y : Int32} {off : Int} {tgt : Nat} (hd : decode M.2.1 pc = .ok (.if_icmp .eq off, 3)) (ht : (pc : Int) + off = (tgt : Int)) (kt : (x = y) → Z l C mi M d tgt ls st h r h') (kf : ¬ x = y → Z l C mi M d (pc + 3) ls st h r h') : Z l C mi M d pc ls (vi y :: vi x :: st) h r h' := by
  by_cases q : (x = y)
  · have k := kt q
    exact ⟨k.1, k.2.1, fun p e R s m args below meth c H locs lv Q n0 s0 X P S z1 z2 L a1 a2 a3 a4 hend => lv_icmp_eq X.1 X.2.1 hd ht (fun q2 => k.2.2 p e R s m args below meth c H locs lv Q n0 s0 X P S z1 z2 L a1 a2 a3 a4 hend) (fun q2 => absurd q q2)⟩
  · have k := kf q
    exact ⟨k.1, k.2.1, fun p e R s m args below meth c H locs lv Q n0 s0 X P S z1 z2 L a1 a2 a3 a4 hend => lv_icmp_eq X.1 X.2.1 hd ht (fun q2 => absurd q2 q) (fun q2 => k.2.2 p e R s m args below meth c H locs lv Q n0 s0 X P S z1 z2 L a1 a2 a3 a4 hend)⟩
theorem z_icmp_ne {x y : Int32} {off : Int} {tgt : Nat} (hd : decode M.2.1 pc = .ok (.if_icmp .ne off, 3)) (ht : (pc : Int) + off = (tgt : Int)) (kt : ¬ x = y → Z l C mi M d tgt ls st h r h') (kf : (x = y) → Z l C mi M d (pc + 3) ls st h r h') : Z l C mi M d pc ls (vi y :: vi x :: st) h r h' := by
  by_cases q : (x = y)
  · have k := kf q
    exact ⟨k.1, k.2.1, fun p e R s m args below meth c H locs lv Q n0 s0 X P S z1 z2 L a1 a2 a3 a4 hend => lv_icmp_ne X.1 X.2.1 hd ht (fun q2 => absurd q q2) (fun q2 => k.2.2 p e R s m args below meth c H locs lv Q n0 s0 X P S z1 z2 L a1 a2 a3 a4 hend)⟩
  · have k := kt q
    exact ⟨k.1, k.2.1, fun p e R s m args below meth c H locs lv Q n0 s0 X P S z1 z2 L a1 a2 a3 a4 hend => lv_icmp_ne X.1 X.2.1 hd ht (fun q2 => k.2.2 p e R s m args below meth c H locs lv Q n0 s0 X P S z1 z2 L a1 a2 a3 a4 hend) (fun q2 => absurd q2 q)⟩
theorem z_icmp_lt {x y : Int32} {off : Int} {tgt : Nat} (hd : decode M.2.1 pc = .ok (.if_icmp .lt off, 3)) (ht : (pc : Int) + off = (tgt : Int)) (kt : (x < y) → Z l C mi M d tgt ls st h r h') (kf : ¬ x < y → Z l C mi M d (pc + 3) ls st h r h') : Z l C mi M d pc ls (vi y :: vi x :: st) h r h' := by
  by_cases q : (x < y)
  · have k := kt q
    exact ⟨k.1, k.2.1, fun p e R s m args below meth c H locs lv Q n0 s0 X P S z1 z2 L a1 a2 a3 a4 hend => lv_icmp_lt X.1 X.2.1 hd ht (fun q2 => k.2.2 p e R s m args below meth c H locs lv Q n0 s0 X P S z1 z2 L a1 a2 a3 a4 hend) (fun q2 => absurd q q2)⟩
  · have k := kf q
    exact ⟨k.1, k.2.1, fun p e R s m args below meth c H locs lv Q n0 s0 X P S z1 z2 L a1 a2 a3 a4 hend => lv_icmp_lt X.1 X.2.1 hd ht (fun q2 => absurd q2 q) (fun q2 => k.2.2 p e R s m args below meth c H locs lv Q n0 s0 X P S z1 z2 L a1 a2 a3 a4 hend)⟩
theorem z_icmp_ge {x y : Int32} {off : Int} {tgt : Nat} (hd : decode M.2.1 pc = .ok (.if_icmp .ge off, 3)) (ht : (pc : Int) + off = (tgt : Int)) (kt : (y ≤ x) → Z l C mi M d tgt ls st h r h') (kf : ¬ y ≤ x → Z l C mi M d (pc + 3) ls st h r h') : Z l C mi M d pc ls (vi y :: vi x :: st) h r h' := by
  by_cases q : (y ≤ x)
  · have k := kt q
    exact ⟨k.1, k.2.1, fun p e R s m args below meth c H locs lv Q n0 s0 X P S z1 z2 L a1 a2 a3 a4 hend => lv_icmp_ge X.1 X.2.1 hd ht (fun q2 => k.2.2 p e R s m args below meth c H locs lv Q n0 s0 X P S z1 z2 L a1 a2 a3 a4 hend) (fun q2 => absurd q q2)⟩
  · have k := kf q
    exact ⟨k.1, k.2.1, fun p e R s m args below meth c H locs lv Q n0 s0 X P S z1 z2 L a1 a2 a3 a4 hend => lv_icmp_ge X.1 X.2.1 hd ht (fun q2 => absurd q2 q) (fun q2 => k.2.2 p e R s m args below meth c H locs lv Q n0 s0 X P S z1 z2 L a1 a2 a3 a4 hend)⟩
theorem z_icmp_gt {x y : Int32} {off : Int} {tgt : Nat} (hd : decode M.2.1 pc = .ok (.if_icmp .gt off, 3)) (ht : (pc : Int) + off = (tgt : Int)) (kt : (y < x) → Z l C mi M d tgt ls st h r h') (kf : ¬ y < x → Z l C mi M d (pc + 3) ls st h r h') : Z l C mi M d pc ls (vi y :: vi x :: st) h r h' := by
  by_cases q : (y < x)
  · have k := kt q
    exact ⟨k.1, k.2.1, fun p e R s m args below meth c H locs lv Q n0 s0 X P S z1 z2 L a1 a2 a3 a4 hend => lv_icmp_gt X.1 X.2.1 hd ht (fun q2 => k.2.2 p e R s m args below meth c H locs lv Q n0 s0 X P S z1 z2 L a1 a2 a3 a4 hend) (fun q2 => absurd q q2)⟩
  · have k := kf q
    exact ⟨k.1, k.2.1, fun p e R s m args below meth c H locs lv Q n0 s0 X P S z1 z2 L a1 a2 a3 a4 hend => lv_icmp_gt X.1 X.2.1 hd ht (fun q2 => absurd q2 q) (fun q2 => k.2.2 p e R s m args below meth c H locs lv Q n0 s0 X P S z1 z2 L a1 a2 a3 a4 hend)⟩
theorem z_icmp_le {x y : Int32} {off : Int} {tgt : Nat} (hd : decode M.2.1 pc = .ok (.if_icmp .le off, 3)) (ht : (pc : Int) + off = (tgt : Int)) (kt : (x ≤ y) → Z l C mi M d tgt ls st h r h') (kf : ¬ x ≤ y → Z l C mi M d (pc + 3) ls st h r h') : Z l C mi M d pc ls (vi y :: vi x :: st) h r h' := by
  by_cases q : (x ≤ y)
  · have k := kt q
    exact ⟨k.1, k.2.1, fun p e R s m args below meth c H locs lv Q n0 s0 X P S z1 z2 L a1 a2 a3 a4 hend => lv_icmp_le X.1 X.2.1 hd ht (fun q2 => k.2.2 p e R s m args below meth c H locs lv Q n0 s0 X P S z1 z2 L a1 a2 a3 a4 hend) (fun q2 => absurd q q2)⟩
  · have k := kf q
    exact ⟨k.1, k.2.1, fun p e R s m args below meth c H locs lv Q n0 s0 X P S z1 z2 L a1 a2 a3 a4 hend => lv_icmp_le X.1 X.2.1 hd ht (fun q2 => absurd q2 q) (fun q2 => k.2.2 p e R s m args below meth c H locs lv Q n0 s0 X P S z1 z2 L a1 a2 a3 a4 hend)⟩
theorem z_acmp_eq {x y : Option Nat} {off : Int} {tgt : Nat} (hd : decode M.2.1 pc = .ok (.if_acmp .eq off, 3)) (ht : (pc : Int) + off = (tgt : Int)) (kt : (x = y) → Z l C mi M d tgt ls st h r h') (kf : ¬ x = y → Z l C mi M d (pc + 3) ls st h r h') : Z l C mi M d pc ls (vr y :: vr x :: st) h r h' := by
  by_cases q : (x = y)
  · have k := kt q
    exact ⟨k.1, k.2.1, fun p e R s m args below meth c H locs lv Q n0 s0 X P S z1 z2 L a1 a2 a3 a4 hend => lv_acmp_eq X.1 X.2.1 hd ht (fun q2 => k.2.2 p e R s m args below meth c H locs lv Q n0 s0 X P S z1 z2 L a1 a2 a3 a4 hend) (fun q2 => absurd q q2)⟩
  · have k := kf q
    exact ⟨k.1, k.2.1, fun p e R s m args below meth c H locs lv Q n0 s0 X P S z1 z2 L a1 a2 a3 a4 hend => lv_acmp_eq X.1 X.2.1 hd ht (fun q2 => absurd q2 q) (fun q2 => k.2.2 p e R s m args below meth c H locs lv Q n0 s0 X P S z1 z2 L a1 a2 a3 a4 hend)⟩
theorem z_acmp_ne {x y : Option Nat} {off : Int} {tgt : Nat} (hd : decode M.2.1 pc = .ok (.if_acmp .ne off, 3)) (ht : (pc : Int) + off = (tgt : Int)) (kt : ¬ x = y → Z l C mi M d tgt ls st h r h') (kf : (x = y) → Z l C mi M d (pc + 3) ls st h r h') : Z l C mi M d pc ls (vr y :: vr x :: st) h r h' := by
  by_cases q : (x = y)
  · have k := kf q
    exact ⟨k.1, k.2.1, fun p e R s m args below meth c H locs lv Q n0 s0 X P S z1 z2 L a1 a2 a3 a4 hend => lv_acmp_ne X.1 X.2.1 hd ht (fun q2 => absurd q q2) (fun q2 => k.2.2 p e R s m args below meth c H locs lv Q n0 s0 X P S z1 z2 L a1 a2 a3 a4 hend)⟩
  · have k := kt q
    exact ⟨k.1, k.2.1, fun p e R s m args below meth c H locs lv Q n0 s0 X P S z1 z2 L a1 a2 a3 a4 hend => lv_acmp_ne X.1 X.2.1 hd ht (fun q2 => k.2.2 p e R s m args below meth c H locs lv Q n0 s0 X P S z1 z2 L a1 a2 a3 a4 hend) (fun q2 => absurd q2 q)⟩
theorem z_ifnull {x : Option Nat} {off : Int} {tgt : Nat} (hd : decode M.2.1 pc = .ok (.ifnull off, 3)) (ht : (pc : Int) + off = (tgt : Int)) (kt : x = none → Z l C mi M d tgt ls st h r h') (kf : ¬ x = none → Z l C mi M d (pc + 3) ls st h r h') : Z l C mi M d pc ls (vr x :: st) h r h' := by
  cases x with
  | none => exact z_of (kt rfl) (fun p e R s m args below meth c H locs cells slots lv Q X P S L kk => lv_ifnullN X.1 X.2.1 hd ht (kk lv L))
  | some a => exact z_of (kf (fun q => by cases q)) (fun p e R s m args below meth c H locs cells slots lv Q X P S L kk => lv_ifnull X.1 X.2.1 hd (kk lv L))
theorem z_ifnonnull {x : Option Nat} {off : Int} {tgt : Nat} (hd : decode M.2.1 pc = .ok (.ifnonnull off, 3)) (ht : (pc : Int) + off = (tgt : Int)) (kt : ¬ x = none → Z l C mi M d tgt ls st h r h') (kf : x = none → Z l C mi M d (pc + 3) ls st h r h') : Z l C mi M d pc ls (vr x :: st) h r h' := by
  cases x with
  | none => exact z_of (kf rfl) (fun p e R s m args below meth c H locs cells slots lv Q X P S L kk => lv_ifnonnullN X.1 X.2.1 hd (kk lv L))
  | some a => exact z_of (kt (fun q => by cases q)) (fun p e R s m args below meth c H locs cells slots lv Q X P S L kk => lv_ifnonnull X.1 X.2.1 hd ht (kk lv L))
theorem z_tabIn {dflt lo hi : Int} {offs : Array Int} {len : Nat} {x : Int32} {off : Int} {tgt : Nat} (hd : decode M.2.1 pc = .ok (.tableswitch dflt lo hi offs, len)) (h1 : ¬ x.toInt < lo) (h2 : ¬ hi < x.toInt) (ho : offs[(x.toInt - lo).toNat]? = some off) (ht : (pc : Int) + off = (tgt : Int)) (k : Z l C mi M d tgt ls st h r h') : Z l C mi M d pc ls (vi x :: st) h r h' :=
  z_of k fun p e R s m args below meth c H locs cells slots lv Q X P S L kk => lv_tableIn X.1 X.2.1 hd h1 h2 ho ht (kk lv L)
theorem z_tabOut {dflt lo hi : Int} {offs : Array Int} {len : Nat} {x : Int32} {tgt : Nat} (hd : decode M.2.1 pc = .ok (.tableswitch dflt lo hi offs, len)) (hx : x.toInt < lo ∨ hi < x.toInt) (ht : (pc : Int) + dflt = (tgt : Int)) (k : Z l C mi M d tgt ls st h r h') : Z l C mi M d pc ls (vi x :: st) h r h' :=
  z_of k fun p e R s m args below meth c H locs cells slots lv Q X P S L kk => lv_tableOut X.1 X.2.1 hd hx ht (kk lv L)
/-- the return -/
theorem z_ret (hd : decode M.2.1 pc = .ok (M.2.2.2.2, 1)) (hst : st = r.toList) : Z l C mi M d pc ls st h r h :=
  ⟨Nat.le_refl _, Nat.le_refl _, fun p e R s m args below meth c H locs lv Q n0 s0 X P S z1 z2 L a1 a2 a3 a4 hend => by
    have k := hend pc H locs lv hd P S
    have e1 : (r.map tv).toList = st.map tv := by subst hst; cases r <;> rfl
    rw [e1] at k
    exact k⟩
theorem z_lload_n {j : Fin 4} {i : Nat} {x : Int64} (q : Nat) (hd : decode M.2.1 pc = .ok (.lload_n j, 1)) (hi : (j : Nat) = i) (hq : ls[q]? = some (i, vl x)) (k : Z l C mi M d (pc + 1) ls (vl x :: st) h r h') : Z l C mi M d pc ls st h r h' :=
  z_of k fun p e R s m args below meth c H locs cells slots lv Q X P S L kk => lv_lload_n X.1 X.2.1 hd hi (L.at q hq) (kk lv L)
def lf2 (i : Nat) (ls : List (Nat × Tv)) : List (Nat × Tv) := ls.filter (fun q => !(q.1 == i) && (!(q.1 == i + 1) && !(q.1 + 1 == i && cat2 q.2)))
theorem lf2_map (i : Nat) (ls : List (Nat × Tv)) : (ls.map fun q => (q.1, tv q.2)).filter (fun q => !(q.1 == i) && (!(q.1 == i + 1) && !(q.1 + 1 == i && q.2.category == 2))) = (lf2 i ls).map fun q => (q.1, tv q.2) := by
  unfold lf2
  rw [List.filter_map]
  congr 1
  apply List.filter_congr
  intro q _
  show (!(q.1 == i) && (!(q.1 == i + 1) && !(q.1 + 1 == i && ((tv q.2).category == 2)))) = _
  rw [tv_cat]
theorem z_lstore_n {j : Fin 4} {i : Nat} {x : Int64} {ls2 : List (Nat × Tv)} (hd : decode M.2.1 pc = .ok (.lstore_n j, 1)) (hi : (j : Nat) = i) (hn : i + 1 < M.2.2.1) (hl : (i, vl x) :: lf2 i ls = ls2) (k : Z l C mi M d (pc + 1) ls2 st h r h') : Z l C mi M d pc ls (vl x :: st) h r h' :=
  z_of k fun p e R s m args below meth c H locs cells slots lv Q X P S L kk => lv_lstore_n X.1 X.2.1 hd hi L hn rfl (fun lv2 L2 => kk lv2 (by rw [lf2_map] at L2; rw [← hl]; exact L2))
end Rules2
end
section
/-- the field k of kind κ is what entry idx of the class own links -/
def fl_ok (own : String) (idx κ k : Nat) : Prop := ∃ (ref : String) (q : vw_C), kcl[κ]? = some q ∧ k < q.2.2 ∧ Cond.fieldLink own idx ref (q.2.1 k).2.1 (q.2.1 k).2.2.1 ∈ lw_w ∧ (ref = (q.2.1 k).1 ∨ Cond.sameField ref (q.2.1 k).1 (q.2.1 k).2.1 (q.2.1 k).2.2.1 ∈ lw_w)
theorem fl_same {s : State} (K : KW s) {ref o n t : String} (h : ref = o ∨ Cond.sameField ref o n t ∈ lw_w) : ∀ x, s.fieldFound? o n t = some x → s.fieldFound? ref n t = some x := by
  intro x hx
  rcases h with h | h
  · rw [h]; exact hx
  · exact u_same (args := #[]) (K.use _ h) x hx
theorem kcl63 {κ : Nat} {q : vw_C} (h : kcl[κ]? = some q) : κ < 63 := Nat.lt_trans (kcl_lt h) (by decide)
section Mem
variable {l : Launch} {C : Ct} {mi : Nat} {M : Mi} {d pc : Nat} {ls : List (Nat × Tv)} {st : List Tv} {h h' : Hp} {r : Option Tv}
theorem w_get {p : Program} {e : Env} {R : Room} {s : State} {m : MethodId} {args : Array Value} {below : List Frame} {meth : Method} {c : Code} {H : Heap} {locs : List Loc} {cells slots : Nat} {lv : Array Slot} {Q : State → Prop} {rest : List Value}
    {a k idx : Nat} (X : Cx C mi M d p R s m args meth c) (P : HP C h H) (hd : decode M.2.1 pc = .ok (.getfield idx, 3)) (hl : fl_ok M.1.cls idx (hpT h a) k)
    (kk : W p l e R s m args below meth c H locs cells slots Q (F0 m (pc + 3) lv (fV h a k :: rest))) : W p l e R s m args below meth c H locs cells slots Q (F0 m pc lv (.ref a :: rest)) := by
  obtain ⟨ref, q, h1, h2, h3, h4⟩ := hl
  obtain ⟨q', g1, cell, g2, g3, g4, g5⟩ := P.obj rfl (kcl63 h1)
  cases h1.symm.trans g1
  obtain ⟨x1, x2, x3, x4, ⟨K1, K2, K3⟩, x6⟩ := X
  obtain ⟨hS, hfc, kC, hkC, hkind⟩ := K2.1 _ _ h1
  obtain ⟨cf, kf, fi, f, hi, hsl⟩ := hS k h2
  refine W.getf x1 x2 x4 (K1.use _ h3) (fl_same K1 h4 _ hi) (u_facts (args := args) hfc hkC (u_lays K1.use (kin h1) h2) hi).1 g2 (by rw [g4]; exact fun h => by cases h) (v := fV h a k) ?_ rfl rfl hd kk
  rw [hsl]
  exact g5 k h2
theorem z_getI {x : Option Nat} {a k idx : Nat} (hd : decode M.2.1 pc = .ok (.getfield idx, 3)) (hl : fl_ok M.1.cls idx (hpT h a) k) (hf : fint (hpT h a) k = true) (ha : x = some a) (kk : Z l C mi M d (pc + 3) ls (vi (hpI h a k) :: st) h r h') : Z l C mi M d pc ls (vr x :: st) h r h' := by
  subst ha
  refine z_of kk fun p e R s m args below meth c H locs cells slots lv Q X P S L k2 => w_get X P hd hl ?_
  have e1 : fV h a k = .int (hpI h a k) := by unfold fV; rw [hf]; rfl
  rw [e1]
  exact k2 lv L
theorem z_getR {x : Option Nat} {a k idx : Nat} (hd : decode M.2.1 pc = .ok (.getfield idx, 3)) (hl : fl_ok M.1.cls idx (hpT h a) k) (hf : fint (hpT h a) k = false) (ha : x = some a) (kk : Z l C mi M d (pc + 3) ls (vr (hpR h a k) :: st) h r h') : Z l C mi M d pc ls (vr x :: st) h r h' := by
  subst ha
  refine z_of kk fun p e R s m args below meth c H locs cells slots lv Q X P S L k2 => w_get X P hd hl ?_
  have e1 : fV h a k = va_rf (hpR h a k) := by unfold fV; rw [hf]; rfl
  rw [e1]
  exact k2 lv L
/-- may the method write the field? -/
def pu_ok (M : Mi) (κ k : Nat) : Prop := ∀ q : vw_C, kcl[κ]? = some q → (q.2.1 k).2.2.2 = false ∨ (M.1.name = "<init>" ∧ (q.2.1 k).1 = M.1.cls)
theorem w_put {p : Program} {e : Env} {R : Room} {s : State} {m : MethodId} {args : Array Value} {below : List Frame} {meth : Method} {c : Code} {H : Heap} {locs : List Loc} {cells slots : Nat} {lv : Array Slot} {Q : State → Prop} {rest : List Value} {v : Value}
    {a k idx : Nat} {h1 : Hp} (X : Cx C mi M d p R s m args meth c) (P : HP C h H) (S : va_S (fre C) s.heap H locs) (hd : decode M.2.1 pc = .ok (.putfield idx, 3)) (hl : fl_ok M.1.cls idx (hpT h a) k) (hp : pu_ok M (hpT h a) k)
    (hv : narrow (kty (hpT h a) k) v = v ∧ fits (kty (hpT h a) k) v = true) (e1 : hpN h1 = hpN h) (e2 : hpT h1 = hpT h) (e3 : hpL h1 = hpL h) (e4 : ∀ b, b ≠ a → hpI h1 b = hpI h b) (e5 : ∀ b, b ≠ a → hpR h1 b = hpR h b) (e6 : ∀ j, j ≠ k → fV h1 a j = fV h a j) (e7 : fV h1 a k = v)
    (kk : ∀ (H1 : Heap) (locs1 : List Loc), HP C h1 H1 → va_S (fre C) s.heap H1 locs1 → H1.size = H.size → W p l e R s m args below meth c H1 locs1 cells slots Q (F0 m (pc + 3) lv rest)) : W p l e R s m args below meth c H locs cells slots Q (F0 m pc lv (v :: .ref a :: rest)) := by
  obtain ⟨ref, q, f1, f2, f3, f4⟩ := hl
  have h63 := kcl63 f1
  obtain ⟨q', g1, cell, g2, g3, g4, g5⟩ := P.obj rfl h63
  cases f1.symm.trans g1
  obtain ⟨x1, x2, x3, x4, ⟨K1, K2, K3⟩, x6, x7, x8⟩ := X
  have hap := va_apart (own := M.1.cls) (args := args) K1.use (kin f1) (kty (hpT h a)) (kok f1) (knm f1) K2 f1
  obtain ⟨hS, hfc, kC, hkC, hkind⟩ := K2.1 _ _ f1
  obtain ⟨cf, kf, fi, f, hi, hsl⟩ := hS k f2
  have hst := (u_facts (args := args) hfc hkC (u_lays K1.use (kin f1) f2) hi).1
  have hown := P.own (a := a) rfl (Or.inl h63)
  have fin : ∀ H' : Heap, H'[a]? = some (cell.setSlot f.slot v) → H'.size = H.size → (∀ q, q ≠ a → H'[q]? = H[q]?) → W p l e R s m args below meth c H' (locs ++ [⟨a, f.slot⟩]) cells slots Q (F0 m (pc + 3) lv rest) := by
    intro H' o1 o2 o3
    refine kk H' _ (P.put (a := a) rfl (Or.inl h63) o2 o3 e1 e2 e3 e4 e5 ⟨fun _ => ?_, fun q => ?_⟩) (S.put o2 o3 hown.1) o2
    · rw [e2]
      refine ⟨_, f1, _, o1, g3, g4, ?_⟩
      rw [hsl]
      have t1 := t_set g5 hap f2 v
      intro j hj
      rw [t1 j hj]
      unfold updV
      by_cases hjk : j = k
      · rw [if_pos hjk, hjk, e7]
      · rw [if_neg hjk, e6 j hjk]
    · rw [e2] at q; omega
  have hlay := K1.use (A := args) _ (kin f1 _ (u_in_lay f2))
  unfold u_lay at hlay
  by_cases hfin : (q.2.1 k).2.2.2 = true
  · rw [if_pos hfin] at hlay
    rcases hp q f1 with hz | ⟨hz1, hz2⟩
    · rw [hfin] at hz; cases hz
    · have hcf : m.cls = cf := by
        obtain ⟨_, _, c', _, _, _, -, -, hf', -, -, -, hown2, -⟩ := Cond.laysFinal_spec hlay
        have e1 : c' = cf := by have := hi.symm.trans hf'; simp at this; exact this.1.symm
        rw [hz2] at hown2
        rw [← e1]; exact Option.some.inj (x4.symm.trans hown2)
      have h6 := u_fits (args := args) hfc hkC hkind (Or.inr hlay) hi (kok f1 k f2) hv.1 hv.2
      exact W.putFinK x1 x2 x4 (K1.use _ f3) (fl_same K1 f4 _ hi) hst hcf (x8 hz1) (by rw [g3]; exact h6) g2 g4 (by rw [hsl]; exact k2_hasslot (g5 k f2)) rfl rfl hd fin
  · rw [if_neg hfin] at hlay
    have h6 := u_store (args := args) hfc hkC hkind hlay hi (kok f1 k f2) hv.1 hv.2
    exact W.putK x1 x2 (f := f) ⟨x4, K1.use _ f3, ⟨_, _, _, fl_same K1 f4 _ hi⟩, hst⟩ (by rw [g3]; exact h6) g2 g4 (by rw [hsl]; exact k2_hasslot (g5 k f2)) rfl rfl hd fin
theorem z_store {pc2 : Nat} {st2 : List Tv} {h1 : Hp} (k : Z l C mi M d pc2 ls st2 h1 r h') (e1 : hpN h1 = hpN h) (e2 : hpS h1 = hpS h)
    (f : ∀ (p : Program) (e : Env) (R : Room) (s : State) (m : MethodId) (args : Array Value) (below : List Frame) (meth : Method) (c : Code) (H : Heap) (locs : List Loc) (cells slots : Nat) (lv : Array Slot) (Q : State → Prop), Cx C mi M d p R s m args meth c → HP C h H → va_S (fre C) s.heap H locs → LR lv M.2.2.1 ls →
      (∀ (H1 : Heap) (locs1 : List Loc), HP C h1 H1 → va_S (fre C) s.heap H1 locs1 → H1.size = H.size → W p l e R s m args below meth c H1 locs1 cells slots Q (F0 m pc2 lv (st2.map tv))) → W p l e R s m args below meth c H locs cells slots Q (F0 m pc lv (st.map tv))) : Z l C mi M d pc ls st h r h' :=
  ⟨e1 ▸ k.1, e2 ▸ k.2.1, fun p e R s m args below meth c H locs lv Q n0 s0 X P S z1 z2 L a1 a2 a3 a4 hend => f p e R s m args below meth c H locs _ _ lv Q X P S L (fun H1 locs1 P1 S1 zz => by
    have kk := k.2.2 p e R s m args below meth c H1 locs1 lv Q n0 s0 X P1 S1 (by rw [zz]; exact z1) z2 L (by rw [e1]; exact a1) (by rw [e2]; exact a2) a3 a4 hend
    rw [e1, e2] at kk
    exact kk)⟩
theorem z_putI {x : Option Nat} {a k idx : Nat} {v : Int32} (hd : decode M.2.1 pc = .ok (.putfield idx, 3)) (hl : fl_ok M.1.cls idx (hpT h a) k) (hp : pu_ok M (hpT h a) k) (hf : fint (hpT h a) k = true) (ha : x = some a) (kk : Z l C mi M d (pc + 3) ls st (wI h a k v) r h') : Z l C mi M d pc ls (vi v :: vr x :: st) h r h' := by
  subst ha
  refine z_store kk rfl rfl fun p e R s m args below meth c H locs cells slots lv Q X P S L k2 => ?_
  obtain ⟨ref, q, f1, f2, -⟩ := id hl
  have hty : kty (hpT h a) k = .int := by
    rcases kfo f1 k f2 with z | z
    · exact z.2
    · rw [hf] at z; cases z.1
  refine w_put (v := .int v) X P S hd hl hp (by rw [hty]; exact ⟨rfl, rfl⟩) (h1 := wI h a k v) rfl rfl rfl (fun b hb => ?_) (fun b hb => rfl) (fun j hj => ?_) ?_ k2
  · funext j; exact if_neg (fun q => hb q.1)
  · show (if fint (hpT h a) j then Value.int (if a = a ∧ j = k then v else hpI h a j) else va_rf (hpR h a j)) = fV h a j
    rw [if_neg (c := a = a ∧ j = k) (fun q => hj q.2)]; rfl
  · show (if fint (hpT h a) k then Value.int (if a = a ∧ k = k then v else hpI h a k) else va_rf (hpR h a k)) = _
    rw [hf, if_pos rfl, if_pos ⟨rfl, rfl⟩]
theorem z_putR {x v : Option Nat} {a k idx : Nat} (hd : decode M.2.1 pc = .ok (.putfield idx, 3)) (hl : fl_ok M.1.cls idx (hpT h a) k) (hp : pu_ok M (hpT h a) k) (hf : fint (hpT h a) k = false) (ha : x = some a) (kk : Z l C mi M d (pc + 3) ls st (wR h a k v) r h') : Z l C mi M d pc ls (vr v :: vr x :: st) h r h' := by
  subst ha
  refine z_store kk rfl rfl fun p e R s m args below meth c H locs cells slots lv Q X P S L k2 => ?_
  obtain ⟨ref, q, f1, f2, -⟩ := id hl
  have hty : (kty (hpT h a) k).isReference = true := by
    rcases kfo f1 k f2 with z | z
    · rw [hf] at z; cases z.1
    · exact z.2
  have hvv : narrow (kty (hpT h a) k) (va_rf v) = va_rf v ∧ fits (kty (hpT h a) k) (va_rf v) = true := by
    cases hk : kty (hpT h a) k <;> rw [hk] at hty <;> first | (cases hty; done) | (cases v <;> exact ⟨rfl, rfl⟩)
  refine w_put (v := va_rf v) X P S hd hl hp hvv (h1 := wR h a k v) rfl rfl rfl (fun b hb => rfl) (fun b hb => ?_) (fun j hj => ?_) ?_ k2
  · funext j; exact if_neg (fun q => hb q.1)
  · show (if fint (hpT h a) j then Value.int (hpI h a j) else va_rf (if a = a ∧ j = k then v else hpR h a j)) = fV h a j
    rw [if_neg (c := a = a ∧ j = k) (fun q => hj q.2)]; rfl
  · show (if fint (hpT h a) k then Value.int (hpI h a k) else va_rf (if a = a ∧ k = k then v else hpR h a k)) = _
    rw [hf, if_neg (by decide), if_pos ⟨rfl, rfl⟩]
end Mem
end
section
def aE : Nat → String
  | 2 => "VersionMaps$Chunk"
  | 3 => "VersionMaps$Page"
  | 4 => "VersionMaps$Root"
  | 5 => "VersionMaps$Leaf"
  | _ => "java/lang/Object"
theorem tys_r {ca : Nat → ClassId} {t : Nat} (h2 : 2 ≤ t) (h7 : t < 7) : (tys ca)[t]? = some (ca t, .object (aE t)) := by
  have : t = 2 ∨ t = 3 ∨ t = 4 ∨ t = 5 ∨ t = 6 := by omega
  rcases this with e | e | e | e | e <;> subst e <;> rfl
theorem aty_lt (κ : Nat) : aty κ < 7 := by
  unfold aty
  rw [List.getD_eq_getElem?_getD]
  cases hk : kat[κ - 64]? with
  | none => decide
  | some x =>
    have h1 : x ∈ kat := List.mem_of_getElem? hk
    have h2 : ∀ x ∈ kat, x < 7 := by decide
    exact h2 x h1
section Arr
variable {l : Launch} {C : Ct} {mi : Nat} {M : Mi} {d pc : Nat} {ls : List (Nat × Tv)} {st : List Tv} {h h' : Hp} {r : Option Tv}
theorem aV_i {h : Hp} {a : Nat} (ht : aty (hpT h a) < 2) (j : Nat) : aV h a j = .int (hpI h a j) := by
  unfold aV aref
  have : Nat.ble 2 (aty (hpT h a)) = false := by
    cases hb : Nat.ble 2 (aty (hpT h a)) with
    | false => rfl
    | true => have := Nat.le_of_ble_eq_true hb; omega
  rw [this]; rfl
theorem aV_r {h : Hp} {a : Nat} (ht : 2 ≤ aty (hpT h a)) (j : Nat) : aV h a j = va_rf (hpR h a j) := by
  unfold aV aref
  rw [Nat.ble_eq_true_of_le ht]; rfl
/-- a step that makes a cell -/
theorem z_made {pc2 κ n w : Nat} {st2 : List Tv} (k : Z l C mi M d pc2 ls st2 (nw h κ n w) r h')
    (f : ∀ (p : Program) (e : Env) (R : Room) (s : State) (m : MethodId) (args : Array Value) (below : List Frame) (meth : Method) (c : Code) (H : Heap) (locs : List Loc) (cells slots : Nat) (lv : Array Slot) (Q : State → Prop), Cx C mi M d p R s m args meth c → HP C h H → va_S (fre C) s.heap H locs → LR lv M.2.2.1 ls → cells + 1 ≤ R.cells → slots + w ≤ R.slots →
      (∀ (H1 : Heap), HP C (nw h κ n w) H1 → (∀ q : Nat, q < H.size → H1[q]? = H[q]?) → H1.size = H.size + 1 → W p l e R s m args below meth c H1 locs (cells + 1) (slots + w) Q (F0 m pc2 lv (st2.map tv))) → W p l e R s m args below meth c H locs cells slots Q (F0 m pc lv (st.map tv))) : Z l C mi M d pc ls st h r h' := by
  have e1 : hpN (nw h κ n w) = hpN h + 1 := rfl
  have e2 : hpS (nw h κ n w) = hpS h + w := rfl
  have b1 := k.1
  have b2 := k.2.1
  rw [e1] at b1
  rw [e2] at b2
  refine ⟨by omega, by omega, fun p e R s m args below meth c H locs lv Q n0 s0 X P S z1 z2 L a1 a2 a3 a4 hend => f p e R s m args below meth c H locs _ _ lv Q X P S L (by omega) (by omega) (fun H1 P1 oq zz => ?_)⟩
  have kk := k.2.2 p e R s m args below meth c H1 locs lv Q n0 s0 X P1 ⟨by rw [zz]; have := S.1; omega, fun q q1 q2 => by rw [oq q (Nat.lt_of_lt_of_le q1 S.1)]; exact S.2.1 q q1 q2, S.2.2⟩ (by omega) z2 L (by rw [e1]; omega) (by rw [e2]; omega) a3 a4 hend
  rw [e1, e2, show hpN h + 1 - n0 = hpN h - n0 + 1 by omega, show hpS h + w - s0 = hpS h - s0 + w by omega] at kk
  exact kk
theorem z_new {idx κ w : Nat} {cn : String} {T : u_T} (hd : decode M.2.1 pc = .ok (.new idx, 3)) (hq : kcl[κ]? = some (cn, T, w)) (hw : Cond.classLink M.1.cls idx cn ∈ lw_w) (k : Z l C mi M d (pc + 3) ls (vr (some (hpN h)) :: st) (nw h κ 0 w) r h') : Z l C mi M d pc ls st h r h' := by
  refine z_made k fun p e R s m args below meth c H locs cells slots lv Q X P S L hc hs kk => ?_
  obtain ⟨x1, x2, x3, x4, ⟨K1, K2, K3⟩, x6⟩ := X
  have hKn := K2.1 κ _ hq
  have hsz := P.1
  refine W.newcK x1 x2 x4 (K1.use _ hw) (K1.use _ (kis hq)) (K1.use _ (kii hq)) rfl hd hc hs hKn.2.1 rfl fun H1 kC hkC o1 o2 o3 => ?_
  have k2 := kk H1 (P.new (κ := κ) (n := 0) (w := w) o2 o3 (Or.inl (kcl63 hq)) ?_) o3 o2
  · rw [hsz]
    exact k2
  · have eT : hpT (nw h κ 0 w) (hpN h) = κ := if_pos rfl
    refine ⟨fun _ => ?_, fun q => ?_⟩
    · rw [eT]
      refine ⟨_, hq, (u_born (args := args) (kty κ) K1.use (kin hq) hKn hkC (by rw [← hsz]; exact o1) (kok hq)).to (fun j hj => ?_)⟩
      unfold fV
      rw [eT]
      have eI : hpI (nw h κ 0 w) (hpN h) j = 0 := if_pos rfl
      have eR : hpR (nw h κ 0 w) (hpN h) j = none := if_pos rfl
      rw [eI, eR]
      rcases kfo hq j hj with z | z
      · rw [z.1, z.2]; rfl
      · rw [z.1]
        have z2 := z.2
        cases hk : kty κ j <;> rw [hk] at z2 <;> first | (cases z2; done) | rfl
    · rw [eT] at q
      have := kcl63 hq
      omega
theorem w_newat {H H1 : Heap} {κ t N : Nat} {v : Value} (P : HP C h H) (hk : 66 ≤ κ) (ht : aty κ = t) (o1 : H1[H.size]? = some (arrV (cA C t) N (fun _ => v))) (hv : v = if 2 ≤ t then .null else .int 0) : atH C (nw h κ N N) H1 (hpN h) := by
  have eT : hpT (nw h κ N N) (hpN h) = κ := if_pos rfl
  refine ⟨fun q => by rw [eT] at q; omega, fun _ => ?_⟩
  have eL : hpL (nw h κ N N) (hpN h) = N := if_pos rfl
  rw [eT, eL, ht, ← P.1, o1]
  congr 2
  funext j
  have eI : hpI (nw h κ N N) (hpN h) j = 0 := if_pos rfl
  have eR : hpR (nw h κ N N) (hpN h) j = none := if_pos rfl
  rw [P.1]
  by_cases h2 : 2 ≤ t
  · rw [aV_r (by rw [eT, ht]; exact h2), eR, hv, if_pos h2]; rfl
  · rw [aV_i (by rw [eT, ht]; omega), eI, hv, if_neg h2]
theorem z_newI {n : Int32} {κ N : Nat} (hd : decode M.2.1 pc = .ok (.newarray .int, 2)) (hk : 66 ≤ κ) (ht : aty κ = 0) (hn : ¬ n < 0) (hN : n.toNatClampNeg = N) (hb : N ≤ 65536) (k : Z l C mi M d (pc + 2) ls (vr (some (hpN h)) :: st) (nw h κ N N) r h') : Z l C mi M d pc ls (vi n :: st) h r h' := by
  refine z_made k fun p e R s m args below meth c H locs cells slots lv Q X P S L hc hs kk => ?_
  obtain ⟨x1, x2, x3, x4, ⟨K1, K2, K3⟩, x6⟩ := X
  refine va_newaK x1 x2 (atype := .int) (K1.use _ (show Cond.arrayClass .int ∈ lw_w by decide +kernel)) rfl hd rfl hn hN (by show N * 4 ≤ _; omega) hc hs P.1 fun H1 cA' o1 o2 o3 oA oN => ?_
  have e0 : cA' = cA C 0 := Option.some.inj (oN.symm.trans (K2.2 0 _ rfl).2)
  subst e0
  rw [← P.1] at o1 o2 o3
  exact kk H1 (P.new o2 o3 (Or.inr hk) (w_newat P hk ht o1 rfl)) o3 o2
theorem z_newZ {n : Int32} {κ N : Nat} (hd : decode M.2.1 pc = .ok (.newarray .boolean, 2)) (hk : 66 ≤ κ) (ht : aty κ = 1) (hn : ¬ n < 0) (hN : n.toNatClampNeg = N) (hb : N ≤ 65536) (k : Z l C mi M d (pc + 2) ls (vr (some (hpN h)) :: st) (nw h κ N N) r h') : Z l C mi M d pc ls (vi n :: st) h r h' := by
  refine z_made k fun p e R s m args below meth c H locs cells slots lv Q X P S L hc hs kk => ?_
  obtain ⟨x1, x2, x3, x4, ⟨K1, K2, K3⟩, x6⟩ := X
  refine va_newaK x1 x2 (atype := .boolean) (K1.use _ (show Cond.arrayClass .boolean ∈ lw_w by decide +kernel)) rfl hd rfl hn hN (by show N * 1 ≤ _; omega) hc hs P.1 fun H1 cA' o1 o2 o3 oA oN => ?_
  have e0 : cA' = cA C 1 := Option.some.inj (oN.symm.trans (K2.2 1 _ rfl).2)
  subst e0
  rw [← P.1] at o1 o2 o3
  exact kk H1 (P.new o2 o3 (Or.inr hk) (w_newat P hk ht o1 rfl)) o3 o2
theorem z_newR {n : Int32} {κ t idx N : Nat} (hd : decode M.2.1 pc = .ok (.anewarray idx, 3)) (hw : Cond.classLink M.1.cls idx (aE t) ∈ lw_w) (ho : Cond.arrayOver (.object (aE t)) ∈ lw_w) (h2 : 2 ≤ t) (hk : 66 ≤ κ) (ht : aty κ = t) (hn : ¬ n < 0) (hN : n.toNatClampNeg = N) (hb : N ≤ 65536) (k : Z l C mi M d (pc + 3) ls (vr (some (hpN h)) :: st) (nw h κ N N) r h') : Z l C mi M d pc ls (vi n :: st) h r h' := by
  refine z_made k fun p e R s m args below meth c H locs cells slots lv Q X P S L hc hs kk => ?_
  obtain ⟨x1, x2, x3, x4, ⟨K1, K2, K3⟩, x6⟩ := X
  subst hN
  refine W.anew x1 x2 x4 (K1.use _ hw) (K1.use _ ho) rfl hd rfl hn (by omega) hc hs fun cA' kA comp f1 f2 f3 f4 => ?_
  have h7 : t < 7 := by rw [← ht]; exact aty_lt κ
  have hRA := (K2.2 t _ (tys_r h2 h7)).2
  obtain ⟨kA0, comp0, r1, r2, r3, r4⟩ := hRA
  have e0 : cA' = cA C t := Option.some.inj (f1.symm.trans r4)
  subst e0
  generalize hH1 : H.push ({ cls := cA C t, slots := Array.replicate n.toNatClampNeg .null, vm := .none } : Cell) = H1
  have o2 : H1.size = H.size + 1 := by rw [← hH1, Array.size_push]
  have o1 : H1[H.size]? = some (arrV (cA C t) n.toNatClampNeg (fun _ => .null)) := by rw [← hH1, Array.getElem?_push_size, ← arrV_new]
  have o3 : ∀ q : Nat, q < H.size → H1[q]? = H[q]? := fun q hq => by rw [← hH1, Array.getElem?_push, if_neg (Nat.ne_of_lt hq)]
  have k2 := kk H1 (P.new o2 o3 (Or.inr hk) (w_newat P hk ht o1 (by rw [if_pos h2]))) o3 o2
  rw [← P.1] at k2
  exact k2
theorem z_alen {x : Option Nat} {a : Nat} (hd : decode M.2.1 pc = .ok (.arraylength, 1)) (ha : x = some a) (hk : 64 ≤ hpT h a) (k : Z l C mi M d (pc + 1) ls (vi (Int32.ofNat (hpL h a)) :: st) h r h') : Z l C mi M d pc ls (vr x :: st) h r h' := by
  subst ha
  refine z_of k fun p e R s m args below meth c H locs cells slots lv Q X P S L kk => ?_
  obtain ⟨x1, x2, x3, x4, K, x6⟩ := X
  have hA : ∃ (cell : Cell) (ty : FieldType), H[a]? = some cell ∧ s.isArrayOf cell ty ∧ cell.slots.size.toInt32 = Int32.ofNat (hpL h a) := by
    obtain ⟨g1, g2⟩ := K.at S
    have K2 := K.2.1
    by_cases e4 : hpT h a = 64
    · obtain ⟨cell, c1, c2, c3⟩ := g2
      have ea := (P.ext (a := a)).1 e4
      refine ⟨cell, _, by rw [ea]; exact c1, c2, ?_⟩
      rw [ea, P.2.2.2.2.2.2.1, c3]; rfl
    · by_cases e5 : hpT h a = 65
      · obtain ⟨cell, c1, c2, c3, c4, c5⟩ := g1
        have ea := (P.ext (a := a)).2 e5
        refine ⟨cell, _, by rw [ea]; exact c1, c2, ?_⟩
        rw [ea, P.2.2.2.2.2.2.2.1, c4]
      · have hA := P.arr (a := a) rfl (by omega)
        have h7 := aty_lt (hpT h a)
        have harr : ∃ ty, s.isArrayOf (arrV (cA C (aty (hpT h a))) (hpL h a) (aV h a)) ty := by
          by_cases h2 : 2 ≤ aty (hpT h a)
          · exact ⟨_, (K2.2 _ _ (tys_r h2 h7)).1 _ _⟩
          · have : aty (hpT h a) = 0 ∨ aty (hpT h a) = 1 := by omega
            rcases this with q | q <;> rw [q]
            · exact ⟨_, (K2.2 0 _ rfl).1 _ _⟩
            · exact ⟨_, (K2.2 1 _ rfl).1 _ _⟩
        obtain ⟨ty, harr⟩ := harr
        exact ⟨_, ty, hA, harr, by rw [arrV_size] <;> rfl⟩
  obtain ⟨cell, ty, c1, c2, c3⟩ := hA
  exact W.alen (n := Int32.ofNat (hpL h a)) x1 x2 c1 c2 c3 rfl rfl hd (kk lv L)
theorem z_iald {x : Option Nat} {a : Nat} {i : Int32} (hd : decode M.2.1 pc = .ok (.iaload, 1)) (ha : x = some a) (hk : 64 ≤ hpT h a) (ht : aty (hpT h a) = 0) (hin : vp_in i (hpL h a)) (k : Z l C mi M d (pc + 1) ls (vi (hpI h a i.toNatClampNeg) :: st) h r h') : Z l C mi M d pc ls (vi i :: vr x :: st) h r h' := by
  subst ha
  refine z_of k fun p e R s m args below meth c H locs cells slots lv Q X P S L kk => ?_
  obtain ⟨x1, x2, x3, x4, K, x6⟩ := X
  have hlt : i.toNatClampNeg < hpL h a := Nat.not_le.mp fun q => hin (Or.inr q)
  have hA : ∃ cell : Cell, H[a]? = some cell ∧ s.isArrayOf cell .int ∧ cell.vm ≠ .unknown ∧ cell.slots.size = hpL h a ∧ cell.slots[i.toNatClampNeg]? = some (.int (hpI h a i.toNatClampNeg)) := by
    obtain ⟨g1, g2⟩ := K.at S
    have K2 := K.2.1
    by_cases e4 : hpT h a = 64
    · rw [e4] at ht; exact absurd ht (by decide)
    · by_cases e5 : hpT h a = 65
      · obtain ⟨cell, c1, c2, c3, c4, c5⟩ := g1
        have ea := (P.ext (a := a)).2 e5
        have eL := P.2.2.2.2.2.2.2.1
        have eI := P.2.2.2.2.2.2.2.2.1
        rw [ea] at hlt ⊢
        rw [eL] at hlt
        exact ⟨cell, c1, c2, c3, by rw [c4, eL], by rw [c5 _ hlt, eI]⟩
      · have hA := P.arr (a := a) rfl (by omega)
        refine ⟨_, hA, by rw [ht]; exact (K2.2 0 _ rfl).1 _ _, (fun q => by cases q), arrV_size _ _ _, ?_⟩
        rw [arrV_read _ _ hlt, aV_i (by omega)]
  obtain ⟨cell, c1, c2, c3, c4, c5⟩ := hA
  exact W.iald (v := .int (hpI h a i.toNatClampNeg)) x1 x2 c1 c2 c3 (by rw [c4]; exact hin) c5 rfl rfl hd (kk lv L)
theorem z_zald {x : Option Nat} {a : Nat} {i : Int32} (hd : decode M.2.1 pc = .ok (.baload, 1)) (ha : x = some a) (hk : 66 ≤ hpT h a) (ht : aty (hpT h a) = 1) (hin : vp_in i (hpL h a)) (k : Z l C mi M d (pc + 1) ls (vi (hpI h a i.toNatClampNeg) :: st) h r h') : Z l C mi M d pc ls (vi i :: vr x :: st) h r h' := by
  subst ha
  refine z_of k fun p e R s m args below meth c H locs cells slots lv Q X P S L kk => ?_
  obtain ⟨x1, x2, x3, x4, ⟨K1, K2, K3⟩, x6⟩ := X
  have hA := P.arr (a := a) rfl hk
  have hlt : i.toNatClampNeg < hpL h a := Nat.not_le.mp fun q => hin (Or.inr q)
  exact W.zald (v := .int (hpI h a i.toNatClampNeg)) x1 x2 hA (by rw [ht]; exact (K2.2 1 _ rfl).1 _ _) (fun q => by cases q) (by rw [arrV_size]; exact hin) (by rw [arrV_read _ _ hlt, aV_i (by omega)]) rfl rfl hd (kk lv L)
theorem z_aald {x : Option Nat} {a : Nat} {i : Int32} (hd : decode M.2.1 pc = .ok (.aaload, 1)) (ha : x = some a) (hk : 66 ≤ hpT h a) (ht : 2 ≤ aty (hpT h a)) (hin : vp_in i (hpL h a)) (k : Z l C mi M d (pc + 1) ls (vr (hpR h a i.toNatClampNeg) :: st) h r h') : Z l C mi M d pc ls (vi i :: vr x :: st) h r h' := by
  subst ha
  refine z_of k fun p e R s m args below meth c H locs cells slots lv Q X P S L kk => ?_
  obtain ⟨x1, x2, x3, x4, ⟨K1, K2, K3⟩, x6⟩ := X
  have hA := P.arr (a := a) rfl hk
  have hlt : i.toNatClampNeg < hpL h a := Nat.not_le.mp fun q => hin (Or.inr q)
  exact W.aald (v := va_rf (hpR h a i.toNatClampNeg)) x1 x2 hA ((K2.2 _ _ (tys_r ht (aty_lt _))).1 _ _) rfl (fun q => by cases q) (by rw [arrV_size]; exact hin) (by rw [arrV_read _ _ hlt, aV_r ht]) rfl rfl hd (kk lv L)
/-- an array of ours after a store -/
theorem w_sta {H H1 : Heap} {h1 : Hp} {a j : Nat} {v : Value} (P : HP C h H) (hk : 66 ≤ hpT h a) (o1 : H1[a]? = some ((arrV (cA C (aty (hpT h a))) (hpL h a) (aV h a)).setSlot j v)) (o2 : H1.size = H.size) (o3 : ∀ q, q ≠ a → H1[q]? = H[q]?)
    (e1 : hpN h1 = hpN h) (e2 : hpT h1 = hpT h) (e3 : hpL h1 = hpL h) (e4 : ∀ b, b ≠ a → hpI h1 b = hpI h b) (e5 : ∀ b, b ≠ a → hpR h1 b = hpR h b) (e6 : ∀ q, aV h1 a q = updV (aV h a) j v q) : HP C h1 H1 := by
  refine P.put (a := a) rfl (Or.inr hk) o2 o3 e1 e2 e3 e4 e5 ⟨fun q => by rw [e2] at q; omega, fun _ => ?_⟩
  rw [e2, e3, o1, arrV_store]
  congr 2
  funext q
  exact (e6 q).symm
theorem z_iast {x : Option Nat} {a : Nat} {i v : Int32} (hd : decode M.2.1 pc = .ok (.iastore, 1)) (ha : x = some a) (hk : 66 ≤ hpT h a) (ht : aty (hpT h a) = 0) (hin : vp_in i (hpL h a)) (k : Z l C mi M d (pc + 1) ls st (wI h a i.toNatClampNeg v) r h') : Z l C mi M d pc ls (vi v :: vi i :: vr x :: st) h r h' := by
  subst ha
  refine z_store k rfl rfl fun p e R s m args below meth c H locs cells slots lv Q X P S L kk => ?_
  obtain ⟨x1, x2, x3, x4, ⟨K1, K2, K3⟩, x6⟩ := X
  have hA := P.arr (a := a) rfl (by omega)
  refine W.iast x1 x2 hA (by rw [ht]; exact (K2.2 0 _ rfl).1 _ _) (fun q => by cases q) (by rw [arrV_size]; exact hin) rfl rfl hd fun H1 o1 o2 o3 => ?_
  refine kk H1 _ (w_sta P hk o1 o2 o3 rfl rfl rfl (fun b hb => by funext j; exact if_neg (fun q => hb q.1)) (fun b hb => rfl) (fun q => ?_)) (S.put o2 o3 (P.own (a := a) rfl (Or.inr hk)).1) o2
  rw [aV_i (h := wI h a i.toNatClampNeg v) (a := a) (by show aty (hpT h a) < 2; omega)]
  unfold updV
  by_cases hq : q = i.toNatClampNeg
  · rw [if_pos hq]; exact congrArg Value.int (if_pos ⟨rfl, hq⟩)
  · rw [if_neg hq, aV_i (by omega)]; exact congrArg Value.int (if_neg (fun z => hq z.2))
theorem nar_b (v : Int32) : narrow .boolean (.int v) = .int (vp_nar .boolean v) := rfl
theorem z_zast {x : Option Nat} {a : Nat} {i v : Int32} (hd : decode M.2.1 pc = .ok (.bastore, 1)) (ha : x = some a) (hk : 66 ≤ hpT h a) (ht : aty (hpT h a) = 1) (hin : vp_in i (hpL h a)) (k : Z l C mi M d (pc + 1) ls st (wI h a i.toNatClampNeg (vp_nar .boolean v)) r h') : Z l C mi M d pc ls (vi v :: vi i :: vr x :: st) h r h' := by
  subst ha
  refine z_store k rfl rfl fun p e R s m args below meth c H locs cells slots lv Q X P S L kk => ?_
  obtain ⟨x1, x2, x3, x4, ⟨K1, K2, K3⟩, x6⟩ := X
  have hA := P.arr (a := a) rfl (by omega)
  refine W.zast x1 x2 hA (by rw [ht]; exact (K2.2 1 _ rfl).1 _ _) (fun q => by cases q) (by rw [arrV_size]; exact hin) rfl rfl hd fun H1 o1 o2 o3 => ?_
  rw [nar_b] at o1
  refine kk H1 _ (w_sta P hk o1 o2 o3 rfl rfl rfl (fun b hb => by funext j; exact if_neg (fun q => hb q.1)) (fun b hb => rfl) (fun q => ?_)) (S.put o2 o3 (P.own (a := a) rfl (Or.inr hk)).1) o2
  rw [aV_i (h := wI h a i.toNatClampNeg (vp_nar .boolean v)) (a := a) (by show aty (hpT h a) < 2; omega)]
  unfold updV
  by_cases hq : q = i.toNatClampNeg
  · rw [if_pos hq]; exact congrArg Value.int (if_pos ⟨rfl, hq⟩)
  · rw [if_neg hq, aV_i (by omega)]; exact congrArg Value.int (if_neg (fun z => hq z.2))
/-- an object of kind κ may stand in an array of type t -/
def as_ok (κ t : Nat) : Prop := ∃ q : vw_C, kcl[κ]? = some q ∧ (q.1 = aE t ∨ Cond.castable q.1 (aE t) ∈ lw_w)
theorem w_any {s : State} {H : Heap} {b t : Nat} (K : KK C mi s) (P : HP C h H) (ha : as_ok (hpT h b) t) : va_Any (aE t) s H b := by
  obtain ⟨q, h1, h2⟩ := ha
  obtain ⟨q', g1, cell, g2, g3, g4, g5⟩ := P.obj rfl (kcl63 h1)
  cases h1.symm.trans g1
  have hC := (K.2.1.1 _ _ h1).2
  obtain ⟨kC, hkC, -⟩ := hC.2
  refine ⟨cell, g2, by rw [g4]; rfl, ⟨kC, by rw [g3]; exact hkC⟩, fun comp hcomp => ?_⟩
  rw [g3]
  rcases h2 with h2 | h2
  · rw [← h2] at hcomp
    cases hC.1.symm.trans hcomp
    exact va_assign hC
  · obtain ⟨c0, t0, f1, f2, f3⟩ := Cond.castable_spec (K.1.use (A := #[]) _ h2)
    cases hC.1.symm.trans f1
    cases hcomp.symm.trans f2
    exact f3
theorem z_aast {x v : Option Nat} {a : Nat} {i : Int32} (hd : decode M.2.1 pc = .ok (.aastore, 1)) (ha : x = some a) (hk : 66 ≤ hpT h a) (ht : 2 ≤ aty (hpT h a)) (hv : ∀ b, v = some b → as_ok (hpT h b) (aty (hpT h a))) (hin : vp_in i (hpL h a)) (k : Z l C mi M d (pc + 1) ls st (wR h a i.toNatClampNeg v) r h') : Z l C mi M d pc ls (vr v :: vi i :: vr x :: st) h r h' := by
  subst ha
  refine z_store k rfl rfl fun p e R s m args below meth c H locs cells slots lv Q X P S L kk => ?_
  obtain ⟨x1, x2, x3, x4, K, x6⟩ := X
  have hA := P.arr (a := a) rfl (by omega)
  have hlt : i.toNatClampNeg < hpL h a := Nat.not_le.mp fun q => hin (Or.inr q)
  have h0 : ¬ i < 0 := fun q => hin (Or.inl q)
  have hT := K.2.1.2 _ _ (tys_r ht (aty_lt _))
  have fin : ∀ H1 : Heap, H1[a]? = some ((arrV (cA C (aty (hpT h a))) (hpL h a) (aV h a)).setSlot i.toNatClampNeg (va_rf v)) → H1.size = H.size → (∀ q, q ≠ a → H1[q]? = H[q]?) → W p l e R s m args below meth c H1 (locs ++ [⟨a, i.toNatClampNeg⟩]) cells slots Q (F0 m (pc + 1) lv (st.map tv)) := by
    intro H1 o1 o2 o3
    refine kk H1 _ (w_sta P hk o1 o2 o3 rfl rfl rfl (fun b hb => rfl) (fun b hb => by funext j; exact if_neg (fun q => hb q.1)) (fun q => ?_)) (S.put o2 o3 (P.own (a := a) rfl (Or.inr hk)).1) o2
    rw [aV_r (h := wR h a i.toNatClampNeg v) (a := a) ht]
    unfold updV
    by_cases hq : q = i.toNatClampNeg
    · rw [if_pos hq]; exact congrArg va_rf (if_pos ⟨rfl, hq⟩)
    · rw [if_neg hq, aV_r ht]; exact congrArg va_rf (if_neg (fun z => hq z.2))
  cases v with
  | none => exact va_WaastN (C := aE (aty (hpT h a))) x1 x2 hA (hT.1 _ _) (fun q => by cases q) (by rw [arrV_size]; exact hin) rfl rfl hd fin
  | some b =>
    obtain ⟨cellV, g1, g3, ⟨kC, hkC⟩, hasg⟩ := w_any K P (hv b rfl)
    obtain ⟨kA, comp, k1, k2, k3, -⟩ := hT.2
    obtain ⟨kE, hkE, -⟩ := Vm.findClass_spec k3
    exact W.aast x1 x2 hA (fun q h => by cases h) (fun h => by cases h) k1 k2 rfl hkE ⟨h0, by rw [arrV_size]; exact hlt⟩ g1 (fun q h => by rw [h] at g3; cases g3) hkC (hasg _ k3) rfl rfl hd fin
end Arr
end
section
section Cpy
variable {l : Launch} {C : Ct} {mi : Nat} {M : Mi} {d pc : Nat} {ls : List (Nat × Tv)} {st : List Tv} {h h' : Hp} {r : Option Tv}
theorem st_cat (st : List Tv) : ((st.map tv).map fun v => v.category).sum = (st.map fun t => bif cat2 t then 2 else 1).sum := by
  rw [List.map_map]
  congr 1
  apply List.map_congr_left
  intro t _
  have h1 := tv_cat t
  show (tv t).category = _
  rcases lv_cat (tv t) with q | q <;> rw [q] at h1 ⊢
  · rw [← h1]; rfl
  · rw [← h1]; rfl
theorem nnI {z : Int32} (hz : ¬ z < 0) : z.toInt = (z.toNatClampNeg : Int) := by
  have hz0 : (0 : Int) ≤ z.toInt := by
    have := Int32.not_lt.mp hz
    simpa using Int32.le_iff_toInt_le.mp this
  show z.toInt = ((z.toInt.toNat : Nat) : Int)
  omega
def cp_ok (M : Mi) (idx : Nat) : Prop := Cond.methodLink M.1.cls idx arraycopyName ∈ lw_w
theorem cp_w1 : Cond.native arraycopyName ∈ lw_w := by decide +kernel
theorem cp_w2 : Cond.static arraycopyName ∈ lw_w := by decide +kernel
theorem cp_w3 : Cond.initialized "java/lang/System" ∈ lw_w := by decide +kernel
/-- behind a copy: the cells -/
theorem w_cpy {H : Heap} {h1 : Hp} {b : Nat} {f : Nat → Value} (P : HP C h H) (hk : 66 ≤ hpT h b)
    (e1 : hpN h1 = hpN h) (e2 : hpT h1 = hpT h) (e3 : hpL h1 = hpL h) (e4 : ∀ x, x ≠ b → hpI h1 x = hpI h x) (e5 : ∀ x, x ≠ b → hpR h1 x = hpR h x) (e6 : ∀ q, aV h1 b q = f q) : HP C h1 (H.setIfInBounds b (arrV (cA C (aty (hpT h b))) (hpL h b) f)) := by
  have hA := P.arr (a := b) rfl (by omega)
  have hl : b < H.size := (Array.getElem?_eq_some_iff.mp hA).1
  refine P.put (a := b) rfl (Or.inr hk) (by simp) (fun q hq => by simp [Array.getElem?_setIfInBounds, Ne.symm hq]) e1 e2 e3 e4 e5 ⟨fun q => by rw [e2] at q; omega, fun _ => ?_⟩
  rw [e2, e3]
  have : (H.setIfInBounds b (arrV (cA C (aty (hpT h b))) (hpL h b) f))[b]? = some (arrV (cA C (aty (hpT h b))) (hpL h b) f) := by simp [Array.getElem?_setIfInBounds, hl]
  rw [this]
  congr 2
  funext q
  exact (e6 q).symm
theorem z_copyI {x y : Option Nat} {a b idx : Nat} {sp dp n : Int32} (hd : decode M.2.1 pc = .ok (.invokestatic idx, 3)) (hw : cp_ok M idx) (hd1 : 1 ≤ d) (hst : (st.map fun t => bif cat2 t then 2 else 1).sum ≤ 8) (ha : x = some a) (hb : y = some b) (hk : 66 ≤ hpT h a) (ht : aty (hpT h a) = 0) (hkb : 66 ≤ hpT h b) (htb : aty (hpT h b) = 0)
    (h1 : ¬ sp < 0) (h2 : ¬ dp < 0) (h3 : ¬ n < 0) (h4 : sp.toNatClampNeg + n.toNatClampNeg ≤ hpL h a) (h5 : dp.toNatClampNeg + n.toNatClampNeg ≤ hpL h b)
    (k : Z l C mi M d (pc + 3) ls st (cpI h a sp.toNatClampNeg b dp.toNatClampNeg n.toNatClampNeg) r h') : Z l C mi M d pc ls (vi n :: vi dp :: vr y :: vi sp :: vr x :: st) h r h' := by
  subst ha; subst hb
  refine z_store k rfl rfl fun p e R s m args below meth c H locs cells slots lv Q X P S L kk => ?_
  obtain ⟨x1, x2, x3, x4, ⟨K1, K2, K3⟩, x6, x7, x8⟩ := X
  have hc0 := P.arr (a := a) rfl hk
  have hc1 := P.arr (a := b) rfl (by omega)
  have f0 : aV h a = fun j => .int (hpI h a j) := by funext j; exact aV_i (by omega) j
  have f1 : aV h b = fun j => .int (hpI h b j) := by funext j; exact aV_i (by omega) j
  rw [ht, f0] at hc0
  rw [htb, f1] at hc1
  intro T hT X0
  obtain ⟨-, k0, hk0, cm0, hkk0⟩ := (K2.2 0 _ rfl).1 (hpL h a) (fun j => .int (hpI h a j))
  obtain ⟨vm', X', step⟩ := X0.arraycopy x1 x4 (K1.use _ hw) (K1.use _ cp_w1) (K1.use _ cp_w2) (K1.use _ cp_w3) (src := a) (dst := b) (cs := arrV (cA C 0) (hpL h a) (fun j => .int (hpI h a j))) (cd := arrV (cA C 0) (hpL h b) (fun j => .int (hpI h b j))) (srcPos := sp) (destPos := dp) (n := n) (by rw [hT]; exact hc0) (by rw [hT]; exact hc1)
    (fun _ h => by cases h) (fun _ h => by cases h) (fun h => by cases h) (fun h => by cases h) hk0 hk0 hkk0 hkk0 (by simp [refKind]) h1 h2 h3
    (by rw [nnI h1, nnI h3, arrV_size]; omega)
    (by rw [nnI h2, nnI h3, arrV_size]; omega)
    (fun vm₁ _ i hi => by
      have e : (arrV (cA C 0) (hpL h a) (fun j => Value.int (hpI h a j))).slots.getD (sp.toNatClampNeg + i) .null = .int (hpI h a (sp.toNatClampNeg + i)) := by
        rw [Array.getD_eq_getD_getElem?, arrV_read _ _ (by omega)]
        rfl
      refine ⟨?_, ?_⟩
      · rw [e]; rfl
      · rw [e]; exact trivial)
    (g := F0 m pc lv (.int n :: .int dp :: .ref b :: .int sp :: .ref a :: st.map tv)) rfl (by rw [x3]; exact L.1) (rest := st.map tv) rfl (by rw [x2]; exact hd) (by omega) (by
      show 2 * 0 + _ + _ ≤ _
      rw [st_cat]
      have hw5 : nativeFrameWords "java/lang/System" "arraycopy" 5 ≤ 16 := by decide
      omega)
  have e1 : copied (arrV (cA C 0) (hpL h a) (fun j => Value.int (hpI h a j))) (arrV (cA C 0) (hpL h b) (fun j => Value.int (hpI h b j))) sp dp n = arrV (cA C 0) (hpL h b) (fun j => Value.int (va_cpy (hpI h a) (hpI h b) sp.toNatClampNeg dp.toNatClampNeg n.toNatClampNeg j)) := va_copied (fun z => Value.int z) _ _ (hpI h a) (hpI h b) h4
  rw [e1] at X' step
  have hl : b < H.size := (Array.getElem?_eq_some_iff.mp hc1).1
  have hP1 : HP C (cpI h a sp.toNatClampNeg b dp.toNatClampNeg n.toNatClampNeg) (H.setIfInBounds b (arrV (cA C (aty (hpT h b))) (hpL h b) (fun j => Value.int (va_cpy (hpI h a) (hpI h b) sp.toNatClampNeg dp.toNatClampNeg n.toNatClampNeg j)))) := by
    refine w_cpy P hkb rfl rfl rfl (fun x hx => ?_) (fun x hx => rfl) (fun q => ?_)
    · funext j; exact if_neg (fun z => hx z.1)
    · rw [aV_i (h := cpI h a sp.toNatClampNeg b dp.toNatClampNeg n.toNatClampNeg) (a := b) (by show aty (hpT h b) < 2; omega)]
      refine congrArg Value.int ?_
      show (if b = b ∧ _ then _ else _) = if _ then _ else _
      by_cases hq : dp.toNatClampNeg ≤ q ∧ q < dp.toNatClampNeg + n.toNatClampNeg
      · rw [if_pos ⟨rfl, hq⟩, if_pos hq]
      · rw [if_neg (fun z => hq z.2), if_neg hq]
  rw [htb] at hP1
  have hown := (P.own (a := b) rfl (Or.inr hkb)).1
  have oq : ∀ q : Nat, q ≠ b → (H.setIfInBounds b (arrV (cA C 0) (hpL h b) (fun j => Value.int (va_cpy (hpI h a) (hpI h b) sp.toNatClampNeg dp.toNatClampNeg n.toNatClampNeg j))))[q]? = H[q]? := fun q hq => by simp [Array.getElem?_setIfInBounds, Ne.symm hq]
  obtain ⟨t, a1, b1⟩ := kk _ _ hP1 ⟨by simp; exact S.1, fun q g1 g2 => by
      rw [oq q (fun e => g2 (by rw [e]; exact hown))]
      exact S.2.1 q g1 g2, fun q hq => by
      rcases List.mem_append.mp hq with h | h
      · exact S.2.2 q h
      · obtain ⟨z, -, hz⟩ := List.mem_map.mp h
        rw [← hz]
        exact hown⟩ (by simp) ((T.setVm vm').setCell b (arrV (cA C 0) (hpL h b) (fun j => Value.int (va_cpy (hpI h a) (hpI h b) sp.toNatClampNeg dp.toNatClampNeg n.toNatClampNeg j)))) (by rw [← hT]; rfl) X'
  exact ⟨t, step t a1, b1⟩
theorem z_copyR {x y : Option Nat} {a b idx : Nat} {sp dp n : Int32} (hd : decode M.2.1 pc = .ok (.invokestatic idx, 3)) (hw : cp_ok M idx) (hd1 : 1 ≤ d) (hst : (st.map fun t => bif cat2 t then 2 else 1).sum ≤ 8) (ha : x = some a) (hb : y = some b) (hk : 66 ≤ hpT h a) (ht : aty (hpT h a) = 6) (hkb : 66 ≤ hpT h b) (htb : aty (hpT h b) = 6)
    (h1 : ¬ sp < 0) (h2 : ¬ dp < 0) (h3 : ¬ n < 0) (h4 : sp.toNatClampNeg + n.toNatClampNeg ≤ hpL h a) (h5 : dp.toNatClampNeg + n.toNatClampNeg ≤ hpL h b)
    (hel : ∀ i, i < n.toNatClampNeg → ∀ y, hpR h a (sp.toNatClampNeg + i) = some y → as_ok (hpT h y) 6)
    (k : Z l C mi M d (pc + 3) ls st (cpR h a sp.toNatClampNeg b dp.toNatClampNeg n.toNatClampNeg) r h') : Z l C mi M d pc ls (vi n :: vi dp :: vr y :: vi sp :: vr x :: st) h r h' := by
  subst ha; subst hb
  refine z_store k rfl rfl fun p e R s m args below meth c H locs cells slots lv Q X P S L kk => ?_
  obtain ⟨x1, x2, x3, x4, K, x6, x7, x8⟩ := X
  have hc0 := P.arr (a := a) rfl hk
  have hc1 := P.arr (a := b) rfl (by omega)
  have f0 : aV h a = fun j => va_rf (hpR h a j) := by funext j; exact aV_r (by omega) j
  have f1 : aV h b = fun j => va_rf (hpR h b j) := by funext j; exact aV_r (by omega) j
  rw [ht, f0] at hc0
  rw [htb, f1] at hc1
  have K1 := K.1
  have K2 := K.2.1
  intro T hT X0
  obtain ⟨-, k0, hk0, cm0, hkk0⟩ := (K2.2 6 _ rfl).1 (hpL h a) (fun j => va_rf (hpR h a j))
  obtain ⟨vm', X', step⟩ := X0.arraycopy x1 x4 (K1.use _ hw) (K1.use _ cp_w1) (K1.use _ cp_w2) (K1.use _ cp_w3) (src := a) (dst := b) (cs := arrV (cA C 6) (hpL h a) (fun j => va_rf (hpR h a j))) (cd := arrV (cA C 6) (hpL h b) (fun j => va_rf (hpR h b j))) (srcPos := sp) (destPos := dp) (n := n) (by rw [hT]; exact hc0) (by rw [hT]; exact hc1)
    (fun _ h => by cases h) (fun _ h => by cases h) (fun h => by cases h) (fun h => by cases h) hk0 hk0 hkk0 hkk0 rfl h1 h2 h3
    (by rw [nnI h1, nnI h3, arrV_size]; omega)
    (by rw [nnI h2, nnI h3, arrV_size]; omega)
    (fun vm₁ hal i hi => by
      have e : (arrV (cA C 6) (hpL h a) (fun j => va_rf (hpR h a j))).slots.getD (sp.toNatClampNeg + i) .null = va_rf (hpR h a (sp.toNatClampNeg + i)) := by
        rw [Array.getD_eq_getD_getElem?, arrV_read _ _ (by omega)]
        rfl
      rw [e]
      cases hy : hpR h a (sp.toNatClampNeg + i) with
      | none => exact ⟨rfl, trivial⟩
      | some y =>
        obtain ⟨cellV, g1, g2, ⟨kC, hkC⟩, hasg⟩ := w_any K P (hel i hi y hy)
        obtain ⟨kA, comp, r1, r2, r3, -⟩ := (K2.2 6 _ rfl).2
        cases hk0.symm.trans r1
        cases hkk0.symm.trans r2
        obtain ⟨kE, hkE, -⟩ := Vm.findClass_spec r3
        obtain ⟨kC', hkC', -⟩ := hal.2.2 _ _ hkC
        obtain ⟨kE', hkE', -⟩ := hal.2.2 _ _ hkE
        refine ⟨rfl, cellV, (show T.heap[y]? = some cellV by rw [hT]; exact g1), (fun q h => by rw [h] at g2; cases g2), ⟨kC', hkC'⟩, ?_, ?_⟩
        · exact ⟨kE', hkE'⟩
        · show vm₁.assignable _ _ = true
          rw [hal.assignable]
          exact hasg _ r3)
    (g := F0 m pc lv (.int n :: .int dp :: .ref b :: .int sp :: .ref a :: st.map tv)) rfl (by rw [x3]; exact L.1) (rest := st.map tv) rfl (by rw [x2]; exact hd) (by omega) (by
      show 2 * 0 + _ + _ ≤ _
      rw [st_cat]
      have hw5 : nativeFrameWords "java/lang/System" "arraycopy" 5 ≤ 16 := by decide
      omega)
  have e1 : copied (arrV (cA C 6) (hpL h a) (fun j => va_rf (hpR h a j))) (arrV (cA C 6) (hpL h b) (fun j => va_rf (hpR h b j))) sp dp n = arrV (cA C 6) (hpL h b) (fun j => va_rf (va_cpy (hpR h a) (hpR h b) sp.toNatClampNeg dp.toNatClampNeg n.toNatClampNeg j)) := va_copied (fun z => va_rf z) _ _ (hpR h a) (hpR h b) h4
  rw [e1] at X' step
  have hl : b < H.size := (Array.getElem?_eq_some_iff.mp hc1).1
  have hP1 : HP C (cpR h a sp.toNatClampNeg b dp.toNatClampNeg n.toNatClampNeg) (H.setIfInBounds b (arrV (cA C (aty (hpT h b))) (hpL h b) (fun j => va_rf (va_cpy (hpR h a) (hpR h b) sp.toNatClampNeg dp.toNatClampNeg n.toNatClampNeg j)))) := by
    refine w_cpy P hkb rfl rfl rfl (fun x hx => rfl) (fun x hx => ?_) (fun q => ?_)
    · funext j; exact if_neg (fun z => hx z.1)
    · rw [aV_r (h := cpR h a sp.toNatClampNeg b dp.toNatClampNeg n.toNatClampNeg) (a := b) (by show 2 ≤ aty (hpT h b); omega)]
      refine congrArg va_rf ?_
      show (if b = b ∧ _ then _ else _) = if _ then _ else _
      by_cases hq : dp.toNatClampNeg ≤ q ∧ q < dp.toNatClampNeg + n.toNatClampNeg
      · rw [if_pos ⟨rfl, hq⟩, if_pos hq]
      · rw [if_neg (fun z => hq z.2), if_neg hq]
  rw [htb] at hP1
  have hown := (P.own (a := b) rfl (Or.inr hkb)).1
  have oq : ∀ q : Nat, q ≠ b → (H.setIfInBounds b (arrV (cA C 6) (hpL h b) (fun j => va_rf (va_cpy (hpR h a) (hpR h b) sp.toNatClampNeg dp.toNatClampNeg n.toNatClampNeg j))))[q]? = H[q]? := fun q hq => by simp [Array.getElem?_setIfInBounds, Ne.symm hq]
  obtain ⟨t, a1, b1⟩ := kk _ _ hP1 ⟨by simp; exact S.1, fun q g1 g2 => by
      rw [oq q (fun e => g2 (by rw [e]; exact hown))]
      exact S.2.1 q g1 g2, fun q hq => by
      rcases List.mem_append.mp hq with h | h
      · exact S.2.2 q h
      · obtain ⟨z, -, hz⟩ := List.mem_map.mp h
        rw [← hz]
        exact hown⟩ (by simp) ((T.setVm vm').setCell b (arrV (cA C 6) (hpL h b) (fun j => va_rf (va_cpy (hpR h a) (hpR h b) sp.toNatClampNeg dp.toNatClampNeg n.toNatClampNeg j)))) (by rw [← hT]; rfl) X'
  exact ⟨t, step t a1, b1⟩
/-- the static of ArrayList -/
theorem z_gets {idx : Nat} (hd : decode M.2.1 pc = .ok (.getstatic idx, 3)) (hw : Cond.fieldLink M.1.cls idx "java/util/ArrayList" "DEFAULTCAPACITY_EMPTY_ELEMENTDATA" "[Ljava/lang/Object;" ∈ lw_w) (k : Z l C mi M d (pc + 3) ls (vr (some (cE C)) :: st) h r h') : Z l C mi M d pc ls st h r h' :=
  z_of k fun p e R s m args below meth c H locs cells slots lv Q X P S L kk => va_gets X.1 X.2.1 X.2.2.2.2.1.2.2.1 S X.2.2.2.1 (X.2.2.2.2.1.1.use _ hw) (fun _ z => z) hd (kk lv L)
/-- checkcast of an object of a known class -/
theorem z_cast {x : Option Nat} {idx : Nat} {nm : String} (hd : decode M.2.1 pc = .ok (.checkcast idx, 3)) (hw : Cond.classLink M.1.cls idx nm ∈ lw_w) (hc : ∀ a, x = some a → ∃ q : vw_C, kcl[hpT h a]? = some q ∧ Cond.castable q.1 nm ∈ lw_w) (k : Z l C mi M d (pc + 3) ls (vr x :: st) h r h') : Z l C mi M d pc ls (vr x :: st) h r h' :=
  z_of k fun p e R s m args below meth c H locs cells slots lv Q X P S L kk => by
    cases x with
    | none => exact lv_castN X.1 X.2.1 hd (kk lv L)
    | some a =>
      obtain ⟨q, h1, h2⟩ := hc a rfl
      obtain ⟨q', g1, cell, g2, g3, g4, g5⟩ := P.obj rfl (kcl63 h1)
      cases h1.symm.trans g1
      exact va_castY X.1 X.2.1 X.2.2.2.1 (X.2.2.2.2.1.1.use _ hw) (X.2.2.2.2.1.1 _ h2) ⟨cell, g2, by rw [g4]; rfl, by rw [g3]; exact (X.2.2.2.2.1.2.1.1 _ _ h1).2.1⟩ hd (kk lv L)
/-- the mirror of Object[] -/
theorem z_ldcM {idx : Nat} (hd : decode M.2.1 pc = .ok (.ldc idx, 2)) (hw : Cond.classLink M.1.cls idx "[Ljava/lang/Object;" ∈ lw_w) (k : Z l C mi M d (pc + 2) ls (vr (some mi) :: st) h r h') : Z l C mi M d pc ls st h r h' :=
  z_of k fun p e R s m args below meth c H locs cells slots lv Q X P S L kk => va_ldcM X.1 X.2.1 X.2.2.2.1 (X.2.2.2.2.1.1.use _ hw) X.2.2.2.2.1.2.2.2.1 hd (kk lv L)
/-- Object.<init> -/
theorem z_oinit {x : Option Nat} {a idx : Nat} (hd : decode M.2.1 pc = .ok (.invokespecial idx, 3)) (hw : Cond.methodLink M.1.cls idx Lib.objectInit ∈ lw_w) (ha : x = some a) (hd1 : 1 ≤ d) (hst : (st.map fun t => bif cat2 t then 2 else 1).sum ≤ 8) (k : Z l C mi M d (pc + 3) ls st h r h') : Z l C mi M d pc ls (vr x :: st) h r h' := by
  subst ha
  refine z_of k fun p e R s m args below meth c H locs cells slots lv Q X P S L kk => ?_
  obtain ⟨x1, x2, x3, x4, K, x6, x7, x8⟩ := X
  refine W.objInit x1 x2 x4 (K.1.use _ hw) (K.1.use _ (show Cond.instanceMethod Lib.objectInit ∈ lw_w by decide +kernel)) (K.1.use _ (show Cond.code Lib.objectInit ⟨#[0xb1]⟩ 1 none ∈ lw_w by decide +kernel)) rfl (by rw [x3]; exact L.1) (a := a) (rest := st.map tv) rfl hd (by omega) ?_ (kk lv L)
  show 2 * 0 + _ + _ ≤ _
  rw [st_cat]
  omega
end Cpy
end
section
/-! CALLS -/
def lvT : Nat → List Tv → List (Nat × Tv)
  | _, [] => []
  | i, t :: vs => (i, t) :: lvT (bif cat2 t then i + 2 else i + 1) vs
theorem lvT_map : ∀ (av : List Tv) (i : Nat), lv_args i (av.map tv) = (lvT i av).map fun q => (q.1, tv q.2)
  | [], _ => rfl
  | t :: vs, i => by
    show (i, tv t) :: lv_args (if (tv t).category = 2 then i + 2 else i + 1) (vs.map tv) = (i, tv t) :: (lvT (bif cat2 t then i + 2 else i + 1) vs).map _
    have h1 := tv_cat t
    have e : (if (tv t).category = 2 then i + 2 else i + 1) = (bif cat2 t then i + 2 else i + 1) := by
      rw [← h1]
      by_cases q : (tv t).category = 2
      · rw [if_pos q, q]; rfl
      · rw [if_neg q]
        rcases lv_cat (tv t) with z | z
        · rw [z]; rfl
        · exact absurd z q
    rw [e, lvT_map vs]
def szT : List Tv → Nat
  | [] => 0
  | t :: vs => (bif cat2 t then 2 else 1) + szT vs
theorem szT_sl : ∀ av : List Tv, (lg_sl (av.map tv)).length = szT av
  | [] => rfl
  | t :: vs => by
    have ih := szT_sl vs
    have h1 := tv_cat t
    show (lg_sl (tv t :: vs.map tv)).length = _
    unfold szT
    rw [← ih, ← h1]
    rcases t with x | x | x
    · simp [tv, lg_sl, Value.category]; omega
    · rcases x with _ | x <;> simp [tv, va_rf, lg_sl, Value.category] <;> omega
    · simp [tv, lg_sl, Value.category]; omega
section Call
variable {l : Launch} {C : Ct} {mi : Nat} {M : Mi} {d pc : Nat} {ls : List (Nat × Tv)} {st : List Tv} {h h' : Hp} {r : Option Tv}
/-- a method's contract out of its walk -/
theorem mt_of {av : List Tv} (hp : plainName M.1.cls = true) (hsz : szT av ≤ M.2.2.1) (hz : Z l C mi M d 0 (lvT 0 av) [] h r h')
    (hb : ∀ H : Heap, HP C h H → True)
    (hret : ∀ (p : Program) (e : Env) (R : Room) (s : State) (m : MethodId) (args : Array Value) (below : List Frame) (meth : Method) (c : Code) (pc' : Nat) (H' : Heap) (locs' : List Loc) (lv' : Array Slot), p.tables.exec = Jvm.exec → c.code = M.2.1 → meth.sig.returnType = M.2.2.2.1 → meth.locks = false → decode M.2.1 pc' = .ok (M.2.2.2.2, 1) → HP C h' H' → va_S (fre C) s.heap H' locs' →
      W p l e R s m args below meth c H' locs' (hpN h' - hpN h) (hpS h' - hpS h) (MQ below (fun _ st oc t => oc = .returned (r.map tv) ∧ HP C h' t.heap ∧ va_F (fre C) st t) args s (hpN h' - hpN h) (hpS h' - hpS h) (fre C)) (F0 m pc' lv' ((r.map tv).toList))) : Mt l C mi M d av h r h' := by
  refine ⟨hz.1, hz.2.1, ?_⟩
  refine Met.ofW (cc := M.2.1) (maxL := M.2.2.1) (ret := M.2.2.2.1) hp rfl ?_
  intro p e s m args below meth c s₁ B hml hv
  obtain ⟨rfl, hP, hK⟩ := hv
  have hx := B.exec
  have hbb := B.bytes
  have hr := B.returns
  have hown : s.vm.findClass M.1.cls = some m.cls := findClass_of_methodNamed B.named
  have hlocks := B.notSynchronized
  have hname : meth.name = M.1.name := (name_of_methodNamed B.named B.method).1
  have hl := lv_entry (av.map tv) (n := M.2.2.1) (by rw [szT_sl]; exact hsz)
  rw [lg_entry_eq]
  generalize (lg_sl (av.map tv) ++ List.replicate (M.2.2.1 - (lg_sl (av.map tv)).length) Slot.unset).toArray = lv at hl ⊢
  have hL : LR lv M.2.2.1 (lvT 0 av) := by unfold LR; rw [← lvT_map]; exact hl
  have k := hz.2.2 p e { frames := d, cells := hpN h' - hpN h, slots := hpS h' - hpS h, locals := 36 * d } s m (av.map tv).toArray below meth c s.heap [] lv (MQ below (fun _ st oc t => oc = .returned (r.map tv) ∧ HP C h' t.heap ∧ va_F (fre C) st t) (av.map tv).toArray s (hpN h' - hpN h) (hpS h' - hpS h) (fre C)) (hpN h) (hpS h)
    ⟨hx, hbb, hml, hown, hK, Nat.le_refl _, Nat.le_refl _, fun q => hname.trans q⟩ hP va_S.rf (Nat.le_refl _) (by rw [hP.1]; exact hP.2.1) hL (Nat.le_refl _) (Nat.le_refl _) (by show hpN h' ≤ hpN h + (hpN h' - hpN h); have := hz.1; omega) (by show hpS h' ≤ hpS h + (hpS h' - hpS h); have := hz.2.1; omega)
    (fun pc' H' locs' lv' g1 g2 g3 => hret p e _ s m _ below meth c pc' H' locs' lv' hx hbb hr hlocks g1 g2 g3)
  rw [Nat.sub_self, Nat.sub_self] at k
  exact k
theorem mt_I {av : List Tv} {v : Int32} {ty : FieldType} (hm1 : M.2.2.2.1 = some ty) (hm2 : M.2.2.2.2 = .ireturn) (hn : narrow ty (.int v) = .int v) (hp : plainName M.1.cls = true) (hsz : szT av ≤ M.2.2.1) (hz : Z l C mi M d 0 (lvT 0 av) [] h (some (vi v)) h') : Mt l C mi M d av h (some (vi v)) h' :=
  mt_of hp hsz hz (fun _ _ => trivial) fun p e R s m args below meth c pc' H' locs' lv' hx hb hr hlocks hd P S => by
    rw [hm2] at hd
    exact W.zret (ty := ty) hx hb (hr.trans hm1) hn (fun t ht hW => ⟨rfl, by rw [ht]; exact P, S.F ht⟩) S.2.2 hd hlocks
theorem mt_L {av : List Tv} {v : Int64} (hm1 : M.2.2.2.1 = some .long) (hm2 : M.2.2.2.2 = .lreturn) (hp : plainName M.1.cls = true) (hsz : szT av ≤ M.2.2.1) (hz : Z l C mi M d 0 (lvT 0 av) [] h (some (vl v)) h') : Mt l C mi M d av h (some (vl v)) h' :=
  mt_of hp hsz hz (fun _ _ => trivial) fun p e R s m args below meth c pc' H' locs' lv' hx hb hr hlocks hd P S => by
    rw [hm2] at hd
    exact W.lret hx hb (hr.trans hm1) (fun t ht hW => ⟨rfl, by rw [ht]; exact P, S.F ht⟩) S.2.2 hd hlocks
theorem mt_V {av : List Tv} (hm1 : M.2.2.2.1 = none) (hm2 : M.2.2.2.2 = .return_) (hp : plainName M.1.cls = true) (hsz : szT av ≤ M.2.2.1) (hz : Z l C mi M d 0 (lvT 0 av) [] h none h') : Mt l C mi M d av h none h' :=
  mt_of hp hsz hz (fun _ _ => trivial) fun p e R s m args below meth c pc' H' locs' lv' hx hb hr hlocks hd P S => by
    rw [hm2] at hd
    exact W.vret hx hb (hr.trans hm1) (fun t ht hW => ⟨rfl, by rw [ht]; exact P, S.F ht⟩) S.2.2 hd hlocks
theorem mt_R {av : List Tv} {v : Option Nat} {ty : FieldType} (hm1 : M.2.2.2.1 = some ty) (hty : (∃ n, ty = .object n) ∨ ∃ t, ty = .array t) (hm2 : M.2.2.2.2 = .areturn) (hp : plainName M.1.cls = true) (hsz : szT av ≤ M.2.2.1) (hz : Z l C mi M d 0 (lvT 0 av) [] h (some (vr v)) h') : Mt l C mi M d av h (some (vr v)) h' :=
  mt_of hp hsz hz (fun _ _ => trivial) fun p e R s m args below meth c pc' H' locs' lv' hx hb hr hlocks hd P S => by
    rw [hm2] at hd
    exact W.aret hx hb (hr.trans hm1) hty (v := va_rf v) (by cases v with | none => exact Or.inl rfl | some a => exact Or.inr ⟨a, rfl⟩) (fun t ht hW => ⟨rfl, by rw [ht]; exact P, S.F ht⟩) S.2.2 hd hlocks
/-- behind a call -/
theorem z_ran {pc : Nat} {st0 : List Tv} {av : List Tv} {h1 : Hp} {r1 : Option Tv} {N : Mi} {d1 : Nat} (hM : Mt l C mi N d1 av h r1 h1) (k : Z l C mi M d (pc + 3) ls (r1.toList ++ st) h1 r h')
    (f : ∀ (p : Program) (e : Env) (R : Room) (s : State) (m : MethodId) (args : Array Value) (below : List Frame) (meth : Method) (c : Code) (H : Heap) (locs : List Loc) (cells slots : Nat) (lv : Array Slot), Cx C mi M d p R s m args meth c → HP C h H → va_S (fre C) s.heap H locs → LR lv M.2.2.1 ls → cells + (hpN h1 - hpN h) ≤ R.cells → slots + (hpS h1 - hpS h) ≤ R.slots → PreS s H (va_Pc (av.map tv) (fun U => HP C h U.heap ∧ KK C mi U)) (av.map tv) →
      va_Run p l e R s m args below meth c H locs cells slots (hpN h1 - hpN h) (hpS h1 - hpS h) (F0 m pc lv (st0.map tv)) (st.map tv) ((fun _ st oc t => oc = .returned (r1.map tv) ∧ HP C h1 t.heap ∧ va_F (fre C) st t) (av.map tv).toArray) (fre C)) : Z l C mi M d pc ls st0 h r h' := by
  have b1 := hM.1
  have b2 := hM.2.1
  have b3 := k.1
  have b4 := k.2.1
  refine ⟨by omega, by omega, fun p e R s m args below meth c H locs lv Q n0 s0 X P S z1 z2 L a1 a2 a3 a4 hend => ?_⟩
  have hrun := f p e R s m args below meth c H locs (hpN h - n0) (hpS h - s0) lv X P S L (by omega) (by omega) ⟨fun a U g mk q => ⟨q.1, q.2.1, q.2.2.calling⟩, fun U hU hW => ⟨rfl, by rw [hU]; exact P, X.2.2.2.2.1.warm hW hU S⟩⟩
  intro T hT XS
  obtain ⟨v, st₀, t, T', L', g0, X', hL', e1, e2, ⟨gv, gP, gz, gk⟩, step⟩ := hrun T hT XS
  cases gv
  rw [g0] at gz gk
  have e3 : (hpN h - n0) + (hpN h1 - hpN h) = hpN h1 - n0 := by omega
  have e4 : (hpS h - s0) + (hpS h1 - hpS h) = hpS h1 - s0 := by omega
  have kk := k.2.2 p e R s m args below meth c T'.heap (locs ++ L') lv Q n0 s0 X (by rw [e1]; exact gP) ⟨Nat.le_trans S.1 (by rw [e1]; exact gz), fun q h1 h2 => by rw [e1, gk q (Nat.lt_of_lt_of_le h1 S.1) h2]; exact S.2.1 q h1 h2, fun q hq => by
      rcases List.mem_append.mp hq with h | h
      · exact S.2.2 q h
      · exact hL' q h⟩ (Nat.le_trans z1 (by rw [e1]; exact gz)) z2 L (by omega) (by omega) a3 a4 hend
  rw [← e3, ← e4] at kk
  obtain ⟨t2, a5, b5⟩ := kk T' rfl X'
  refine ⟨t2, step t2 ?_, b5⟩
  have e5 : (r1.map tv).toList ++ st.map tv = (r1.toList ++ st).map tv := by cases r1 <;> rfl
  show Steps p.tables e below (T'.setTop { F0 m pc lv (st0.map tv) with pc := pc + 3, stack := (r1.map tv).toList ++ st.map tv }) t2
  rw [e5]
  exact a5
/-- what the tables say of a call's target -/
def cw_ok (N : Mi) (n : Nat) : Prop := Cond.code N.1 N.2.1 N.2.2.1 N.2.2.2.1 ∈ lw_w ∧ Cond.initialized N.1.cls ∈ lw_w ∧ (N.1.cls ≠ "java/lang/invoke/MethodHandle" ∧ N.1.cls ≠ "java/lang/invoke/VarHandle") ∧ (parseMethodDescriptor N.1.desc).map (fun d => d.parameters.length) = some n
theorem code_good (N : Mi) : goodWord (Cond.code N.1 N.2.1 N.2.2.1 N.2.2.2.1) = true := rfl
theorem w_B {p : Program} {R : Room} {s : State} {m : MethodId} {args : Array Value} {meth : Method} {c : Code} {N : Mi} {n idx d1 mc ms : Nat} (X : Cx C mi M d p R s m args meth c) (hw : cw_ok N n) (hR : d1 + 1 ≤ d ∧ N.2.2.1 ≤ 17) :
    (({ frames := d1, cells := mc, slots := ms, locals := 36 * d1 } : Room).frames + 1 ≤ R.frames ∧ 8 + (N.2.2.1 + 11) + ({ frames := d1, cells := mc, slots := ms, locals := 36 * d1 } : Room).locals ≤ R.locals ∧ (∀ w ∈ [Cond.code N.1 N.2.1 N.2.2.1 N.2.2.2.1], ∀ (a' : Array Value) (U : State), s.WarmedH U.vm → w.before a' U = true) ∧ Cond.code N.1 N.2.1 N.2.2.1 N.2.2.2.1 ∈ [Cond.code N.1 N.2.1 N.2.2.1 N.2.2.2.1]) ∧
    (Cond.code N.1 N.2.1 N.2.2.1 N.2.2.2.1).before args s = true ∧ (Cond.initialized N.1.cls).before args s = true ∧ (N.1.cls ≠ "java/lang/invoke/MethodHandle" ∧ N.1.cls ≠ "java/lang/invoke/VarHandle") ∧ (∀ sig, parseMethodDescriptor N.1.desc = some sig → n = sig.parameters.length) := by
  obtain ⟨x1, x2, x3, x4, K, x6, x7, x8⟩ := X
  obtain ⟨w1, w2, w3, w4⟩ := hw
  refine ⟨⟨by show d1 + 1 ≤ _; omega, by show 8 + _ + 36 * d1 ≤ _; omega, fun w hw' a' U hW => ?_, List.mem_cons_self⟩, K.1.use _ w1, K.1.use _ w2, w3, fun sig hs => ?_⟩
  · rw [List.mem_singleton.mp hw']
    exact word_at hW (good_of_word (code_good N)) (K.1.use (A := args) _ w1)
  · rw [hs] at w4
    exact (Option.some.inj w4).symm
theorem st_rev {av st st0 : List Tv} (hst : st0 = av.reverse ++ st) : st0.map tv = (av.map tv).reverse ++ st.map tv := by rw [hst, List.map_append, List.map_reverse]
theorem st_rev1 {av st st0 : List Tv} {b : Nat} (hst : st0 = (vr (some b) :: av).reverse ++ st) : st0.map tv = (av.map tv).reverse ++ .ref b :: st.map tv := by
  rw [hst, List.reverse_cons, List.append_assoc, List.map_append, List.map_reverse]; rfl
theorem st_room {st : List Tv} {m : MethodId} {pc : Nat} {lv : Array Slot} {st0 : List Value} (h : (st.map fun t => bif cat2 t then 2 else 1).sum ≤ 8) : 2 * (F0 m pc lv st0).monitorRoom + ((st.map tv).map fun v => v.category).sum ≤ 8 := by
  rw [st_cat]; show 2 * 0 + _ ≤ 8; omega
theorem cat_room {st : List Tv} (h : (st.map fun t => bif cat2 t then 2 else 1).sum ≤ 8) : ((st.map tv).map fun v => v.category).sum ≤ 8 := by rw [st_cat]; exact h
/-- static -/
theorem z_callS {N : Mi} {d1 idx : Nat} {av st0 : List Tv} {r1 : Option Tv} {h1 : Hp} (hM : Mt l C mi N d1 av h r1 h1) (hd : decode M.2.1 pc = .ok (.invokestatic idx, 3)) (hw : cw_ok N av.length) (hl : Cond.methodLink M.1.cls idx N.1 ∈ lw_w) (hs : Cond.static N.1 ∈ lw_w) (hR : d1 + 1 ≤ d ∧ N.2.2.1 ≤ 17) (hc : (st.map fun t => bif cat2 t then 2 else 1).sum ≤ 8) (hst : st0 = av.reverse ++ st)
    (k : Z l C mi M d (pc + 3) ls (r1.toList ++ st) h1 r h') : Z l C mi M d pc ls st0 h r h' :=
  z_ran hM k fun p e R s m args below meth c H locs cells slots lv X P S L b1 b2 hp => by
    have q := w_B (n := av.length) (idx := idx) (mc := hpN h1 - hpN h) (ms := hpS h1 - hpS h) X hw hR
    have K := X.2.2.2.2.1.1
    exact va_runS (Ts := lw_w) (As := av.map tv) ⟨X.1, X.2.1, X.2.2.1, X.2.2.2.1, K.use⟩ hM.2.2 (n := av.length) ⟨⟨rfl, rfl, q.1.1, q.1.2.1, q.1.2.2.1, q.1.2.2.2, q.2.1, q.2.2.1, q.2.2.2.1, q.2.2.2.2, K.use _ hl⟩, K.use _ hs⟩ hp rfl (List.length_map ..) L.1 (st_rev hst) (st_room hc) hd ⟨b1, b2⟩
theorem z_callSN {N : Mi} {d1 idx : Nat} {host : String} {av st0 : List Tv} {r1 : Option Tv} {h1 : Hp} (hM : Mt l C mi N d1 av h r1 h1) (hd : decode M.2.1 pc = .ok (.invokestatic idx, 3)) (hw : cw_ok N av.length) (hl : Cond.methodLinkNest M.1.cls idx N.1 host ∈ lw_w) (hs : Cond.static N.1 ∈ lw_w) (hR : d1 + 1 ≤ d ∧ N.2.2.1 ≤ 17) (hc : (st.map fun t => bif cat2 t then 2 else 1).sum ≤ 8) (hst : st0 = av.reverse ++ st)
    (k : Z l C mi M d (pc + 3) ls (r1.toList ++ st) h1 r h') : Z l C mi M d pc ls st0 h r h' :=
  z_ran hM k fun p e R s m args below meth c H locs cells slots lv X P S L b1 b2 hp => by
    have q := w_B (n := av.length) (idx := idx) (mc := hpN h1 - hpN h) (ms := hpS h1 - hpS h) X hw hR
    have K := X.2.2.2.2.1.1
    exact va_runSN (Ts := lw_w) (As := av.map tv) ⟨X.1, X.2.1, X.2.2.1, X.2.2.2.1, K.use⟩ hM.2.2 (n := av.length) ⟨⟨⟨rfl, rfl, q.1.1, q.1.2.1, q.1.2.2.1, q.1.2.2.2⟩, q.2.1, q.2.2.1, q.2.2.2.1, q.2.2.2.2, K.use _ hl⟩, K.use _ hs, trivial⟩ hp rfl (List.length_map ..) L.1 (st_rev hst) (st_room hc) hd ⟨b1, b2⟩
/-- virtual: the receiver is of the method's own class -/
theorem z_callV {N : Mi} {d1 idx b : Nat} {q0 : vw_C} {av st0 : List Tv} {r1 : Option Tv} {h1 : Hp} (hM : Mt l C mi N d1 (vr (some b) :: av) h r1 h1) (hd : decode M.2.1 pc = .ok (.invokevirtual idx, 3)) (hw : cw_ok N av.length) (hl : Cond.methodLink M.1.cls idx N.1 ∈ lw_w) (hi : Cond.instanceMethod N.1 ∈ lw_w) (hs : Cond.selects q0.1 N.1 N.1 ∈ lw_w) (hb : kcl[hpT h b]? = some q0) (hR : d1 + 1 ≤ d ∧ N.2.2.1 ≤ 17) (hc : (st.map fun t => bif cat2 t then 2 else 1).sum ≤ 8) (hst : st0 = (vr (some b) :: av).reverse ++ st)
    (k : Z l C mi M d (pc + 3) ls (r1.toList ++ st) h1 r h') : Z l C mi M d pc ls st0 h r h' :=
  z_ran hM k fun p e R s m args below meth c H locs cells slots lv X P S L b1 b2 hp => by
    have q := w_B (n := av.length) (idx := idx) (mc := hpN h1 - hpN h) (ms := hpS h1 - hpS h) X hw hR
    have K := X.2.2.2.2.1.1
    obtain ⟨q', g1, cell, g2, g3, g4, g5⟩ := P.obj rfl (kcl63 hb)
    cases hb.symm.trans g1
    exact va_runV (Ts := lw_w) (C := q0.1) (b := b) (As := av.map tv) ⟨X.1, X.2.1, X.2.2.1, X.2.2.2.1, K.use⟩ hM.2.2 (n := av.length) ⟨⟨rfl, rfl, q.1.1, q.1.2.1, q.1.2.2.1, q.1.2.2.2, q.2.1, q.2.2.1, q.2.2.2.1, q.2.2.2.2, K.use _ hl⟩, K.use _ hi, K.use _ hs⟩ ⟨hp.1, ⟨cell, g2, by rw [g4]; rfl, by rw [g3]; exact (X.2.2.2.2.1.2.1.1 _ _ hb).2.1⟩, hp.2⟩ rfl (List.length_map ..) L.1 (st_rev1 hst) (st_room hc) hd ⟨b1, b2⟩
/-- a constructor -/
theorem z_callI {N : Mi} {d1 idx b : Nat} {av st0 : List Tv} {h1 : Hp} (hM : Mt l C mi N d1 (vr (some b) :: av) h none h1) (hd : decode M.2.1 pc = .ok (.invokespecial idx, 3)) (hv : N.2.2.2.1 = none) (hw : cw_ok N av.length) (hl : Cond.methodLink M.1.cls idx N.1 ∈ lw_w) (hi : Cond.instanceMethod N.1 ∈ lw_w) (hn : N.1.name = "<init>") (hR : d1 + 1 ≤ d ∧ N.2.2.1 ≤ 17) (hc : (st.map fun t => bif cat2 t then 2 else 1).sum ≤ 8) (hst : st0 = (vr (some b) :: av).reverse ++ st)
    (k : Z l C mi M d (pc + 3) ls st h1 r h') : Z l C mi M d pc ls st0 h r h' :=
  z_ran hM (r1 := none) k fun p e R s m args below meth c H locs cells slots lv X P S L b1 b2 hp => by
    have q := w_B (n := av.length) (idx := idx) (mc := hpN h1 - hpN h) (ms := hpS h1 - hpS h) X hw hR
    rw [hv] at q
    have hm := hM.2.2
    rw [hv] at hm
    have K := X.2.2.2.2.1.1
    exact va_runI (Ts := lw_w) (b := b) (As := av.map tv) ⟨X.1, X.2.1, X.2.2.1, X.2.2.2.1, K.use⟩ hm (n := av.length) ⟨⟨rfl, rfl, q.1.1, q.1.2.1, q.1.2.2.1, q.1.2.2.2, q.2.1, q.2.2.1, q.2.2.2.1, q.2.2.2.2, K.use _ hl⟩, hn, K.use _ hi⟩ hp rfl (List.length_map ..) L.1 (st_rev1 hst) (st_room hc) hd ⟨b1, b2⟩
theorem z_callIN {N : Mi} {d1 idx b : Nat} {host : String} {av st0 : List Tv} {h1 : Hp} (hM : Mt l C mi N d1 (vr (some b) :: av) h none h1) (hd : decode M.2.1 pc = .ok (.invokespecial idx, 3)) (hv : N.2.2.2.1 = none) (hw : cw_ok N av.length) (hl : Cond.methodLinkNest M.1.cls idx N.1 host ∈ lw_w) (hi : Cond.instanceMethod N.1 ∈ lw_w) (hn : N.1.name = "<init>") (hR : d1 + 1 ≤ d ∧ N.2.2.1 ≤ 17) (hc : (st.map fun t => bif cat2 t then 2 else 1).sum ≤ 8) (hst : st0 = (vr (some b) :: av).reverse ++ st)
    (k : Z l C mi M d (pc + 3) ls st h1 r h') : Z l C mi M d pc ls st0 h r h' :=
  z_ran hM (r1 := none) k fun p e R s m args below meth c H locs cells slots lv X P S L b1 b2 hp => by
    have q := w_B (n := av.length) (idx := idx) (mc := hpN h1 - hpN h) (ms := hpS h1 - hpS h) X hw hR
    rw [hv] at q
    have hm := hM.2.2
    rw [hv] at hm
    have K := X.2.2.2.2.1.1
    exact va_runIN (Ts := lw_w) (b := b) (As := av.map tv) ⟨X.1, X.2.1, X.2.2.1, X.2.2.2.1, K.use⟩ hm (n := av.length) ⟨⟨⟨rfl, rfl, q.1.1, q.1.2.1, q.1.2.2.1, q.1.2.2.2⟩, q.2.1, q.2.2.1, q.2.2.2.1, q.2.2.2.2, K.use _ hl⟩, hn, K.use _ hi⟩ hp rfl (List.length_map ..) L.1 (st_rev1 hst) (st_room hc) hd ⟨b1, b2⟩
end Call
end
section
/-! COMBINATORS of the functions, and what a result says of them -/
def gd {α : Type} (c : Bool) (k : Option α) : Option α := bif c then k else none
def dr {α : Type} (x : Option Nat) (f : Nat → Option α) : Option α := x.bind f
def nm {α β : Type} (v : α) (f : α → Option β) : Option β := f v
def cl {α β : Type} (o : Option (α × Hp)) (f : α → Hp → Option β) : Option β := o.bind fun q => f q.1 q.2
def cv {β : Type} (o : Option Hp) (f : Hp → Option β) : Option β := o.bind f
def bd {α β : Type} (o : Option α) (f : α → Option β) : Option β := o.bind f
def lk {α β γ : Type} (o : Option (α ⊕ β)) (f : α → Option γ) (g : β → Option γ) : Option γ := o.bind (Sum.elim f g)
def lp {S R : Type} (b : S → Option (S ⊕ R)) : Nat → S → Option R
  | 0, _ => none
  | n + 1, s => (b s).bind (Sum.elim (lp b n) some)
theorem gd_some {α : Type} {c : Bool} {k : Option α} {z : α} (h : gd c k = some z) : c = true ∧ k = some z := by
  cases c with
  | true => exact ⟨rfl, h⟩
  | false => cases h
theorem dr_some {α : Type} {x : Option Nat} {f : Nat → Option α} {z : α} (h : dr x f = some z) : ∃ a, x = some a ∧ f a = some z := by
  cases x with
  | none => cases h
  | some a => exact ⟨a, rfl, h⟩
theorem nm_some {α β : Type} {v : α} {f : α → Option β} {z : β} (h : nm v f = some z) : ∃ x, x = v ∧ f x = some z := ⟨v, rfl, h⟩
theorem cl_some {α β : Type} {o : Option (α × Hp)} {f : α → Hp → Option β} {z : β} (h : cl o f = some z) : ∃ v h1, o = some (v, h1) ∧ f v h1 = some z := by
  cases o with
  | none => cases h
  | some q => exact ⟨q.1, q.2, rfl, h⟩
theorem cv_some {β : Type} {o : Option Hp} {f : Hp → Option β} {z : β} (h : cv o f = some z) : ∃ h1, o = some h1 ∧ f h1 = some z := by
  cases o with
  | none => cases h
  | some q => exact ⟨q, rfl, h⟩
theorem bd_some {α β : Type} {o : Option α} {f : α → Option β} {z : β} (h : bd o f = some z) : ∃ x, o = some x ∧ f x = some z := by
  cases o with
  | none => cases h
  | some q => exact ⟨q, rfl, h⟩
theorem lk_some {α β γ : Type} {o : Option (α ⊕ β)} {f : α → Option γ} {g : β → Option γ} {z : γ} (h : lk o f g = some z) : (∃ x, o = some (.inl x) ∧ f x = some z) ∨ ∃ y, o = some (.inr y) ∧ g y = some z := by
  cases o with
  | none => cases h
  | some q =>
    cases q with
    | inl x => exact Or.inl ⟨x, rfl, h⟩
    | inr y => exact Or.inr ⟨y, rfl, h⟩
theorem lp_some {S R : Type} {b : S → Option (S ⊕ R)} {n : Nat} {s : S} {z : R} (h : lp b (n + 1) s = some z) : (∃ s', b s = some (.inl s') ∧ lp b n s' = some z) ∨ b s = some (.inr z) := by
  have h0 : (b s).bind (Sum.elim (lp b n) some) = some z := h
  cases hb : b s with
  | none => rw [hb] at h0; cases h0
  | some q =>
    rw [hb] at h0
    cases q with
    | inl x => exact Or.inl ⟨x, rfl, h0⟩
    | inr y => exact Or.inr (by cases h0; rfl)
/-- how often a loop may turn -/
def FU : Nat := 4096
/-! GUARDS -/
def inb (i : Int32) (n : Nat) : Bool := !(decide (i < 0) || Nat.ble n i.toNatClampNeg)
theorem inb_vp {i : Int32} {n : Nat} (h : inb i n = true) : vp_in i n := by
  unfold inb at h
  intro q
  rcases q with q | q
  · rw [decide_eq_true q] at h; cases h
  · rw [Nat.ble_eq_true_of_le q, Bool.or_true] at h; cases h
def isK (h : Hp) (a κ : Nat) : Bool := hpT h a == κ
theorem isK_eq {h : Hp} {a κ : Nat} (g : isK h a κ = true) : hpT h a = κ := eq_of_beq g
def isPg (h : Hp) (a : Nat) : Bool := hpT h a == 3 || (hpT h a == 4 || hpT h a == 6)
theorem isPg_eq {h : Hp} {a : Nat} (g : isPg h a = true) : hpT h a = 3 ∨ hpT h a = 4 ∨ hpT h a = 6 := by
  unfold isPg at g
  simp only [Bool.or_eq_true, beq_iff_eq] at g
  exact g
/-- an array of type t -/
def isA (h : Hp) (a t : Nat) : Bool := Nat.ble 64 (hpT h a) && aty (hpT h a) == t
/-- one that is ours -/
def isO (h : Hp) (a t : Nat) : Bool := Nat.ble 66 (hpT h a) && aty (hpT h a) == t
theorem isA_eq {h : Hp} {a t : Nat} (g : isA h a t = true) : 64 ≤ hpT h a ∧ aty (hpT h a) = t := by
  unfold isA at g
  simp only [Bool.and_eq_true, beq_iff_eq] at g
  exact ⟨Nat.le_of_ble_eq_true g.1, g.2⟩
theorem isO_eq {h : Hp} {a t : Nat} (g : isO h a t = true) : 66 ≤ hpT h a ∧ aty (hpT h a) = t := by
  unfold isO at g
  simp only [Bool.and_eq_true, beq_iff_eq] at g
  exact ⟨Nat.le_of_ble_eq_true g.1, g.2⟩
/-- may an object of kind κ stand in an array of type t -/
def asK (κ t : Nat) : Bool := match t with
  | 2 => κ == 2
  | 3 => κ == 3 || (κ == 4 || κ == 6)
  | 4 => κ == 6
  | 5 => κ == 3
  | 6 => Nat.ble κ 8
  | _ => false
def asV (h : Hp) (v : Option Nat) (a : Nat) : Bool := match v with
  | none => true
  | some b => asK (hpT h b) (aty (hpT h a))
theorem asK_ok {κ t : Nat} (g : asK κ t = true) : as_ok κ t := by
  unfold asK at g
  split at g
  · cases eq_of_beq g; exact ⟨_, rfl, Or.inl rfl⟩
  · simp only [Bool.or_eq_true, beq_iff_eq] at g
    rcases g with e | e | e <;> subst e
    · exact ⟨_, rfl, Or.inr (by decide +kernel)⟩
    · exact ⟨_, rfl, Or.inr (by decide +kernel)⟩
    · exact ⟨_, rfl, Or.inr (by decide +kernel)⟩
  · cases eq_of_beq g; exact ⟨_, rfl, Or.inl rfl⟩
  · cases eq_of_beq g; exact ⟨_, rfl, Or.inl rfl⟩
  · have h8 := Nat.le_of_ble_eq_true g
    have : κ = 0 ∨ κ = 1 ∨ κ = 2 ∨ κ = 3 ∨ κ = 4 ∨ κ = 5 ∨ κ = 6 ∨ κ = 7 ∨ κ = 8 := by omega
    rcases this with e | e | e | e | e | e | e | e | e <;> subst e <;> exact ⟨_, rfl, Or.inr (by decide +kernel)⟩
  · cases g
theorem asV_ok {h : Hp} {v : Option Nat} {a : Nat} (g : asV h v a = true) : ∀ b, v = some b → as_ok (hpT h b) (aty (hpT h a)) := by
  intro b hb
  subst hb
  exact asK_ok g
/-- places to be copied -/
def cpB (h : Hp) (a b : Nat) (sp dp n : Int32) : Bool := !decide (sp < 0) && (!decide (dp < 0) && (!decide (n < 0) && (Nat.ble (sp.toNatClampNeg + n.toNatClampNeg) (hpL h a) && Nat.ble (dp.toNatClampNeg + n.toNatClampNeg) (hpL h b))))
theorem cpB_eq {h : Hp} {a b : Nat} {sp dp n : Int32} (g : cpB h a b sp dp n = true) : ¬ sp < 0 ∧ ¬ dp < 0 ∧ ¬ n < 0 ∧ sp.toNatClampNeg + n.toNatClampNeg ≤ hpL h a ∧ dp.toNatClampNeg + n.toNatClampNeg ≤ hpL h b := by
  unfold cpB at g
  simp only [Bool.and_eq_true, Bool.not_eq_true', decide_eq_false_iff_not] at g
  exact ⟨g.1, g.2.1, g.2.2.1, Nat.le_of_ble_eq_true g.2.2.2.1, Nat.le_of_ble_eq_true g.2.2.2.2⟩
/-- the elements that are copied are objects -/
def cpE (h : Hp) (a : Nat) (sp n : Int32) : Bool := (List.range n.toNatClampNeg).all fun i => match hpR h a (sp.toNatClampNeg + i) with
  | none => true
  | some y => asK (hpT h y) 6
theorem cpE_ok {h : Hp} {a : Nat} {sp n : Int32} (g : cpE h a sp n = true) : ∀ i, i < n.toNatClampNeg → ∀ y, hpR h a (sp.toNatClampNeg + i) = some y → as_ok (hpT h y) 6 := by
  intro i hi y hy
  have h1 := List.all_eq_true.mp g i (List.mem_range.mpr hi)
  rw [hy] at h1
  exact asK_ok h1
/-- a length that may be made -/
def lnB (n : Int32) : Bool := !decide (n < 0) && Nat.ble n.toNatClampNeg 65536
theorem lnB_eq {n : Int32} (g : lnB n = true) : ¬ n < 0 ∧ n.toNatClampNeg ≤ 65536 := by
  unfold lnB at g
  simp only [Bool.and_eq_true, Bool.not_eq_true', decide_eq_false_iff_not] at g
  exact ⟨g.1, Nat.le_of_ble_eq_true g.2⟩
def zb (v : Int32) : Bool := vp_nar .boolean v == v
theorem zb_eq {v : Int32} (g : zb v = true) : narrow .boolean (.int v) = .int v := by
  rw [nar_b, eq_of_beq g]
/-- checkcast to class t (Version 7, Chunk 2) -/
def caB (h : Hp) (x : Option Nat) (κ : Nat) : Bool := match x with
  | none => true
  | some a => hpT h a == κ
theorem caB_ok {h : Hp} {x : Option Nat} {κ : Nat} {nm' : String} {q : vw_C} (g : caB h x κ = true) (hq : kcl[κ]? = some q) (hc : Cond.castable q.1 nm' ∈ lw_w) : ∀ a, x = some a → ∃ q : vw_C, kcl[hpT h a]? = some q ∧ Cond.castable q.1 nm' ∈ lw_w := by
  intro a ha
  subst ha
  have e : hpT h a = κ := eq_of_beq g
  rw [e]
  exact ⟨q, hq, hc⟩
section Glue
variable {l : Launch} {C : Ct} {mi : Nat} {M : Mi} {d pc : Nat} {ls : List (Nat × Tv)} {st : List Tv} {h h' : Hp} {r : Option Tv}
theorem z_hp {h1 : Hp} (e : h1 = h) (k : Z l C mi M d pc ls st h1 r h') : Z l C mi M d pc ls st h r h' := e ▸ k
theorem z_topi {x y : Int32} (e : y = x) (k : Z l C mi M d pc ls (vi y :: st) h r h') : Z l C mi M d pc ls (vi x :: st) h r h' := e ▸ k
theorem z_topr {x y : Option Nat} (e : y = x) (k : Z l C mi M d pc ls (vr y :: st) h r h') : Z l C mi M d pc ls (vr x :: st) h r h' := e ▸ k
theorem fl_K {own : String} {idx κ k : Nat} {a : Nat} (e : hpT h a = κ) (f : fl_ok own idx κ k) : fl_ok own idx (hpT h a) k := e.symm ▸ f
theorem fl_P {own : String} {idx k : Nat} {a : Nat} (g : isPg h a = true) (f3 : fl_ok own idx 3 k) (f4 : fl_ok own idx 4 k) (f6 : fl_ok own idx 6 k) : fl_ok own idx (hpT h a) k := by
  rcases isPg_eq g with e | e | e <;> rw [e] <;> assumption
theorem fi_K {κ k : Nat} {a : Nat} {b : Bool} (e : hpT h a = κ) (f : fint κ k = b) : fint (hpT h a) k = b := e.symm ▸ f
theorem fi_P {k : Nat} {a : Nat} {b : Bool} (g : isPg h a = true) (f3 : fint 3 k = b) (f4 : fint 4 k = b) (f6 : fint 6 k = b) : fint (hpT h a) k = b := by
  rcases isPg_eq g with e | e | e <;> rw [e] <;> assumption
theorem pu_K {κ k : Nat} {a : Nat} (e : hpT h a = κ) (f : pu_ok M κ k) : pu_ok M (hpT h a) k := e.symm ▸ f
theorem pu_P {k : Nat} {a : Nat} (g : isPg h a = true) (f3 : pu_ok M 3 k) (f4 : pu_ok M 4 k) (f6 : pu_ok M 6 k) : pu_ok M (hpT h a) k := by
  rcases isPg_eq g with e | e | e <;> rw [e] <;> assumption
theorem kc_K {κ : Nat} {a : Nat} {q : vw_C} (e : hpT h a = κ) (f : kcl[κ]? = some q) : kcl[hpT h a]? = some q := e.symm ▸ f
theorem isK_wI {h1 : Hp} {a k b κ : Nat} {v : Int32} (e : h1 = wI h a k v) (g : isK h b κ = true) : isK h1 b κ = true := by rw [e]; exact g
theorem isK_wR {h1 : Hp} {a k b κ : Nat} {v : Option Nat} (e : h1 = wR h a k v) (g : isK h b κ = true) : isK h1 b κ = true := by rw [e]; exact g
theorem isPg_wI {h1 : Hp} {a k b : Nat} {v : Int32} (e : h1 = wI h a k v) (g : isPg h b = true) : isPg h1 b = true := by rw [e]; exact g
theorem isPg_wR {h1 : Hp} {a k b : Nat} {v : Option Nat} (e : h1 = wR h a k v) (g : isPg h b = true) : isPg h1 b = true := by rw [e]; exact g
theorem z_callVx {N : Mi} {d1 idx b : Nat} {x : Option Nat} {q0 : vw_C} {av st0 : List Tv} {r1 : Option Tv} {h1 : Hp} (ha : x = some b) (hM : Mt l C mi N d1 (vr (some b) :: av) h r1 h1) (hd : decode M.2.1 pc = .ok (.invokevirtual idx, 3)) (hw : cw_ok N av.length) (hl : Cond.methodLink M.1.cls idx N.1 ∈ lw_w) (hi : Cond.instanceMethod N.1 ∈ lw_w) (hs : Cond.selects q0.1 N.1 N.1 ∈ lw_w) (hb : kcl[hpT h b]? = some q0) (hR : d1 + 1 ≤ d ∧ N.2.2.1 ≤ 17) (hc : (st.map fun t => bif cat2 t then 2 else 1).sum ≤ 8) (hst : st0 = (vr x :: av).reverse ++ st)
    (k : Z l C mi M d (pc + 3) ls (r1.toList ++ st) h1 r h') : Z l C mi M d pc ls st0 h r h' := by
  subst ha
  exact z_callV hM hd hw hl hi hs hb hR hc hst k
theorem z_getC {x : Option Nat} {a idx : Nat} (hd : decode M.2.1 pc = .ok (.invokevirtual idx, 3)) (hl : Cond.methodLink M.1.cls idx ⟨"java/lang/Object", "getClass", "()Ljava/lang/Class;"⟩ ∈ lw_w) (hs : Cond.selects "[Ljava/lang/Object;" ⟨"java/lang/Object", "getClass", "()Ljava/lang/Class;"⟩ ⟨"java/lang/Object", "getClass", "()Ljava/lang/Class;"⟩ ∈ lw_w) (ha : x = some a) (hk : 66 ≤ hpT h a) (ht : aty (hpT h a) = 6) (hd1 : 1 ≤ d) (hst : (st.map fun t => bif cat2 t then 2 else 1).sum ≤ 8) (k : Z l C mi M d (pc + 3) ls (vr (some mi) :: st) h r h') : Z l C mi M d pc ls (vr x :: st) h r h' := by
  subst ha
  refine z_of k fun p e R s m args below meth c H locs cells slots lv Q X P S L kk => ?_
  obtain ⟨x1, x2, x3, x4, K, x6, x7, x8⟩ := X
  have hA := P.arr (a := a) rfl hk
  rw [ht] at hA
  refine va_getC x1 x2 (by rw [x3]; exact L.1.symm) (C := "[Ljava/lang/Object;") x4 (K.1.use _ hl) (K.1.use _ (show Cond.declares ⟨"java/lang/Object", "getClass", "()Ljava/lang/Class;"⟩ ∈ lw_w by decide +kernel)) (K.1.use _ hs) (K.1.use _ (show Cond.instanceMethod ⟨"java/lang/Object", "getClass", "()Ljava/lang/Class;"⟩ ∈ lw_w by decide +kernel)) (K.1.use _ (show Cond.native ⟨"java/lang/Object", "getClass", "()Ljava/lang/Class;"⟩ ∈ lw_w by decide +kernel)) K.2.2.2.1 ⟨_, hA, rfl, ?_⟩ (by omega) (by rw [st_cat]; omega) hd (kk lv L)
  exact va_nmO (K.2.1.2 6 _ rfl).2 rfl
theorem ts_out {x : Int32} (n : Nat) (hn : n < 1000) (hx : ∀ j, j < n → ¬ x = Int32.ofNat j) : x.toInt < 0 ∨ (n : Int) - 1 < x.toInt := by
  rcases Int.lt_or_le x.toInt 0 with q | q
  · exact Or.inl q
  · rcases Int.lt_or_le ((n : Int) - 1) x.toInt with q2 | q2
    · exact Or.inr q2
    · exfalso
      obtain ⟨j, hj⟩ := Int.eq_ofNat_of_zero_le q
      refine hx j (by omega) ?_
      apply Int32.toInt_inj.mp
      have e : (Int32.ofNat j).toInt = (j : Int) := nI_toInt (n := j) (by omega)
      rw [e]
      exact hj
end Glue
end
section
def zbw (o : Option (Int32 × Hp)) : Option (Int32 × Hp) := o.bind fun q => gd (zb q.1) (some q)
theorem zbw_some {o : Option (Int32 × Hp)} {v : Int32} {h : Hp} (e : zbw o = some (v, h)) : zb v = true ∧ o = some (v, h) := by
  cases o with
  | none => cases e
  | some q =>
    have e2 : gd (zb q.1) (some q) = some (v, h) := e
    obtain ⟨g, e3⟩ := gd_some e2
    cases (Option.some.inj e3)
    exact ⟨g, rfl⟩
theorem kc_0 : kcl[0]? = some ("VersionMaps", kT0, 8) := rfl
theorem kc_1 : kcl[1]? = some ("VersionMaps$BlockFile", kT1, 6) := rfl
theorem kc_2 : kcl[2]? = some ("VersionMaps$Chunk", kT2, 5) := rfl
theorem kc_3 : kcl[3]? = some ("VersionMaps$Leaf", kT3, 5) := rfl
theorem kc_4 : kcl[4]? = some ("VersionMaps$Meta", kT4, 5) := rfl
theorem kc_5 : kcl[5]? = some ("VersionMaps$Present", kT5, 4) := rfl
theorem kc_6 : kcl[6]? = some ("VersionMaps$Root", kT6, 4) := rfl
theorem kc_7 : kcl[7]? = some ("VersionMaps$Version", kT7, 3) := rfl
theorem kc_8 : kcl[8]? = some ("VersionMapsModel", kT8, 34) := rfl
theorem kc_9 : kcl[9]? = some ("java/util/ArrayList", kT9, 3) := rfl
theorem fl_X_10_0 : fl_ok "VersionMaps" 10 0 0 := ⟨"VersionMaps", _, rfl, by decide, by decide +kernel, Or.inl rfl⟩
theorem fl_X_19_0 : fl_ok "VersionMaps" 19 0 1 := ⟨"VersionMaps", _, rfl, by decide, by decide +kernel, Or.inl rfl⟩
theorem fl_X_26_0 : fl_ok "VersionMaps" 26 0 2 := ⟨"VersionMaps", _, rfl, by decide, by decide +kernel, Or.inl rfl⟩
theorem fl_X_30_0 : fl_ok "VersionMaps" 30 0 3 := ⟨"VersionMaps", _, rfl, by decide, by decide +kernel, Or.inl rfl⟩
theorem fl_X_38_0 : fl_ok "VersionMaps" 38 0 4 := ⟨"VersionMaps", _, rfl, by decide, by decide +kernel, Or.inl rfl⟩
theorem fl_X_42_0 : fl_ok "VersionMaps" 42 0 5 := ⟨"VersionMaps", _, rfl, by decide, by decide +kernel, Or.inl rfl⟩
theorem fl_X_46_0 : fl_ok "VersionMaps" 46 0 6 := ⟨"VersionMaps", _, rfl, by decide, by decide +kernel, Or.inl rfl⟩
theorem fl_X_49_0 : fl_ok "VersionMaps" 49 0 7 := ⟨"VersionMaps", _, rfl, by decide, by decide +kernel, Or.inl rfl⟩
theorem fl_X_83_7 : fl_ok "VersionMaps" 83 7 1 := ⟨"VersionMaps$Version", _, rfl, by decide, by decide +kernel, Or.inl rfl⟩
theorem fl_X_105_7 : fl_ok "VersionMaps" 105 7 0 := ⟨"VersionMaps$Version", _, rfl, by decide, by decide +kernel, Or.inl rfl⟩
theorem fl_X_130_2 : fl_ok "VersionMaps" 130 2 4 := ⟨"VersionMaps$Chunk", _, rfl, by decide, by decide +kernel, Or.inl rfl⟩
theorem fl_X_153_2 : fl_ok "VersionMaps" 153 2 0 := ⟨"VersionMaps$Chunk", _, rfl, by decide, by decide +kernel, Or.inl rfl⟩
theorem fl_X_156_7 : fl_ok "VersionMaps" 156 7 2 := ⟨"VersionMaps$Version", _, rfl, by decide, by decide +kernel, Or.inl rfl⟩
theorem fl_X_159_1 : fl_ok "VersionMaps" 159 1 5 := ⟨"VersionMaps$BlockFile", _, rfl, by decide, by decide +kernel, Or.inl rfl⟩
theorem fl_X_190_2 : fl_ok "VersionMaps" 190 2 1 := ⟨"VersionMaps$Chunk", _, rfl, by decide, by decide +kernel, Or.inl rfl⟩
theorem fl_X_196_2 : fl_ok "VersionMaps" 196 2 2 := ⟨"VersionMaps$Chunk", _, rfl, by decide, by decide +kernel, Or.inl rfl⟩
theorem fl_X_203_4 : fl_ok "VersionMaps" 203 4 3 := ⟨"VersionMaps$Meta", _, rfl, by decide, by decide +kernel, Or.inl rfl⟩
theorem fl_X_206_1 : fl_ok "VersionMaps" 206 1 0 := ⟨"VersionMaps$BlockFile", _, rfl, by decide, by decide +kernel, Or.inl rfl⟩
theorem fl_X_210_1 : fl_ok "VersionMaps" 210 1 2 := ⟨"VersionMaps$BlockFile", _, rfl, by decide, by decide +kernel, Or.inl rfl⟩
theorem fl_X_214_1 : fl_ok "VersionMaps" 214 1 3 := ⟨"VersionMaps$BlockFile", _, rfl, by decide, by decide +kernel, Or.inl rfl⟩
theorem fl_X_220_5 : fl_ok "VersionMaps" 220 5 2 := ⟨"VersionMaps$Present", _, rfl, by decide, by decide +kernel, Or.inl rfl⟩
theorem fl_X_228_5 : fl_ok "VersionMaps" 228 5 3 := ⟨"VersionMaps$Present", _, rfl, by decide, by decide +kernel, Or.inl rfl⟩
theorem fl_X_237_4 : fl_ok "VersionMaps" 237 4 4 := ⟨"VersionMaps$Meta", _, rfl, by decide, by decide +kernel, Or.inl rfl⟩
theorem fl_F_11_1 : fl_ok "VersionMaps$BlockFile" 11 1 0 := ⟨"VersionMaps$BlockFile", _, rfl, by decide, by decide +kernel, Or.inl rfl⟩
theorem fl_F_17_1 : fl_ok "VersionMaps$BlockFile" 17 1 1 := ⟨"VersionMaps$BlockFile", _, rfl, by decide, by decide +kernel, Or.inl rfl⟩
theorem fl_F_20_1 : fl_ok "VersionMaps$BlockFile" 20 1 2 := ⟨"VersionMaps$BlockFile", _, rfl, by decide, by decide +kernel, Or.inl rfl⟩
theorem fl_F_24_1 : fl_ok "VersionMaps$BlockFile" 24 1 3 := ⟨"VersionMaps$BlockFile", _, rfl, by decide, by decide +kernel, Or.inl rfl⟩
theorem fl_F_27_1 : fl_ok "VersionMaps$BlockFile" 27 1 4 := ⟨"VersionMaps$BlockFile", _, rfl, by decide, by decide +kernel, Or.inl rfl⟩
theorem fl_F_31_1 : fl_ok "VersionMaps$BlockFile" 31 1 5 := ⟨"VersionMaps$BlockFile", _, rfl, by decide, by decide +kernel, Or.inl rfl⟩
theorem fl_F_39_2 : fl_ok "VersionMaps$BlockFile" 39 2 1 := ⟨"VersionMaps$Chunk", _, rfl, by decide, by decide +kernel, Or.inl rfl⟩
theorem fl_F_45_2 : fl_ok "VersionMaps$BlockFile" 45 2 0 := ⟨"VersionMaps$Chunk", _, rfl, by decide, by decide +kernel, Or.inl rfl⟩
theorem fl_F_52_2 : fl_ok "VersionMaps$BlockFile" 52 2 4 := ⟨"VersionMaps$Chunk", _, rfl, by decide, by decide +kernel, Or.inl rfl⟩
theorem fl_F_66_4 : fl_ok "VersionMaps$BlockFile" 66 4 4 := ⟨"VersionMaps$Meta", _, rfl, by decide, by decide +kernel, Or.inl rfl⟩
theorem fl_F_80_3 : fl_ok "VersionMaps$BlockFile" 80 3 0 := ⟨"VersionMaps$Page", _, rfl, by decide, by decide +kernel, Or.inl rfl⟩
theorem fl_F_80_4 : fl_ok "VersionMaps$BlockFile" 80 4 0 := ⟨"VersionMaps$Page", _, rfl, by decide, by decide +kernel, Or.inl rfl⟩
theorem fl_F_80_6 : fl_ok "VersionMaps$BlockFile" 80 6 0 := ⟨"VersionMaps$Page", _, rfl, by decide, by decide +kernel, Or.inl rfl⟩
theorem fl_F_86_3 : fl_ok "VersionMaps$BlockFile" 86 3 1 := ⟨"VersionMaps$Page", _, rfl, by decide, by decide +kernel, Or.inl rfl⟩
theorem fl_F_86_4 : fl_ok "VersionMaps$BlockFile" 86 4 1 := ⟨"VersionMaps$Page", _, rfl, by decide, by decide +kernel, Or.inl rfl⟩
theorem fl_F_86_6 : fl_ok "VersionMaps$BlockFile" 86 6 1 := ⟨"VersionMaps$Page", _, rfl, by decide, by decide +kernel, Or.inl rfl⟩
theorem fl_K_7_2 : fl_ok "VersionMaps$Chunk" 7 2 3 := ⟨"VersionMaps$Chunk", _, rfl, by decide, by decide +kernel, Or.inl rfl⟩
theorem fl_K_13_2 : fl_ok "VersionMaps$Chunk" 13 2 4 := ⟨"VersionMaps$Chunk", _, rfl, by decide, by decide +kernel, Or.inl rfl⟩
theorem fl_K_17_2 : fl_ok "VersionMaps$Chunk" 17 2 0 := ⟨"VersionMaps$Chunk", _, rfl, by decide, by decide +kernel, Or.inl rfl⟩
theorem fl_K_20_2 : fl_ok "VersionMaps$Chunk" 20 2 1 := ⟨"VersionMaps$Chunk", _, rfl, by decide, by decide +kernel, Or.inl rfl⟩
theorem fl_K_25_2 : fl_ok "VersionMaps$Chunk" 25 2 2 := ⟨"VersionMaps$Chunk", _, rfl, by decide, by decide +kernel, Or.inl rfl⟩
theorem fl_K_29_3 : fl_ok "VersionMaps$Chunk" 29 3 0 := ⟨"VersionMaps$Page", _, rfl, by decide, by decide +kernel, Or.inl rfl⟩
theorem fl_K_29_4 : fl_ok "VersionMaps$Chunk" 29 4 0 := ⟨"VersionMaps$Page", _, rfl, by decide, by decide +kernel, Or.inl rfl⟩
theorem fl_K_29_6 : fl_ok "VersionMaps$Chunk" 29 6 0 := ⟨"VersionMaps$Page", _, rfl, by decide, by decide +kernel, Or.inl rfl⟩
theorem fl_K_33_3 : fl_ok "VersionMaps$Chunk" 33 3 1 := ⟨"VersionMaps$Page", _, rfl, by decide, by decide +kernel, Or.inl rfl⟩
theorem fl_K_33_4 : fl_ok "VersionMaps$Chunk" 33 4 1 := ⟨"VersionMaps$Page", _, rfl, by decide, by decide +kernel, Or.inl rfl⟩
theorem fl_K_33_6 : fl_ok "VersionMaps$Chunk" 33 6 1 := ⟨"VersionMaps$Page", _, rfl, by decide, by decide +kernel, Or.inl rfl⟩
theorem fl_K_46_3 : fl_ok "VersionMaps$Chunk" 46 3 2 := ⟨"VersionMaps$Page", _, rfl, by decide, by decide +kernel, Or.inl rfl⟩
theorem fl_K_46_4 : fl_ok "VersionMaps$Chunk" 46 4 2 := ⟨"VersionMaps$Page", _, rfl, by decide, by decide +kernel, Or.inl rfl⟩
theorem fl_K_46_6 : fl_ok "VersionMaps$Chunk" 46 6 2 := ⟨"VersionMaps$Page", _, rfl, by decide, by decide +kernel, Or.inl rfl⟩
theorem fl_L_9_3 : fl_ok "VersionMaps$Leaf" 9 3 3 := ⟨"VersionMaps$Leaf", _, rfl, by decide, by decide +kernel, Or.inl rfl⟩
theorem fl_L_15_3 : fl_ok "VersionMaps$Leaf" 15 3 4 := ⟨"VersionMaps$Leaf", _, rfl, by decide, by decide +kernel, Or.inl rfl⟩
theorem fl_E_11_4 : fl_ok "VersionMaps$Meta" 11 4 4 := ⟨"VersionMaps$Meta", _, rfl, by decide, by decide +kernel, Or.inl rfl⟩
theorem fl_E_17_4 : fl_ok "VersionMaps$Meta" 17 4 3 := ⟨"VersionMaps$Meta", _, rfl, by decide, by decide +kernel, Or.inl rfl⟩
theorem fl_E_21_6 : fl_ok "VersionMaps$Meta" 21 6 3 := ⟨"VersionMaps$Root", _, rfl, by decide, by decide +kernel, Or.inl rfl⟩
theorem fl_E_29_3 : fl_ok "VersionMaps$Meta" 29 3 4 := ⟨"VersionMaps$Leaf", _, rfl, by decide, by decide +kernel, Or.inl rfl⟩
theorem fl_E_36_3 : fl_ok "VersionMaps$Meta" 36 3 3 := ⟨"VersionMaps$Leaf", _, rfl, by decide, by decide +kernel, Or.inl rfl⟩
theorem fl_E_40_4 : fl_ok "VersionMaps$Meta" 40 4 2 := ⟨"VersionMaps$Meta", _, rfl, by decide, by decide +kernel, Or.inr (by decide +kernel)⟩
theorem fl_G_7_3 : fl_ok "VersionMaps$Page" 7 3 0 := ⟨"VersionMaps$Page", _, rfl, by decide, by decide +kernel, Or.inl rfl⟩
theorem fl_G_7_4 : fl_ok "VersionMaps$Page" 7 4 0 := ⟨"VersionMaps$Page", _, rfl, by decide, by decide +kernel, Or.inl rfl⟩
theorem fl_G_7_6 : fl_ok "VersionMaps$Page" 7 6 0 := ⟨"VersionMaps$Page", _, rfl, by decide, by decide +kernel, Or.inl rfl⟩
theorem fl_G_13_3 : fl_ok "VersionMaps$Page" 13 3 1 := ⟨"VersionMaps$Page", _, rfl, by decide, by decide +kernel, Or.inl rfl⟩
theorem fl_G_13_4 : fl_ok "VersionMaps$Page" 13 4 1 := ⟨"VersionMaps$Page", _, rfl, by decide, by decide +kernel, Or.inl rfl⟩
theorem fl_G_13_6 : fl_ok "VersionMaps$Page" 13 6 1 := ⟨"VersionMaps$Page", _, rfl, by decide, by decide +kernel, Or.inl rfl⟩
theorem fl_G_17_3 : fl_ok "VersionMaps$Page" 17 3 2 := ⟨"VersionMaps$Page", _, rfl, by decide, by decide +kernel, Or.inl rfl⟩
theorem fl_G_17_4 : fl_ok "VersionMaps$Page" 17 4 2 := ⟨"VersionMaps$Page", _, rfl, by decide, by decide +kernel, Or.inl rfl⟩
theorem fl_G_17_6 : fl_ok "VersionMaps$Page" 17 6 2 := ⟨"VersionMaps$Page", _, rfl, by decide, by decide +kernel, Or.inl rfl⟩
theorem fl_P_9_5 : fl_ok "VersionMaps$Present" 9 5 0 := ⟨"VersionMaps$Present", _, rfl, by decide, by decide +kernel, Or.inl rfl⟩
theorem fl_P_15_5 : fl_ok "VersionMaps$Present" 15 5 1 := ⟨"VersionMaps$Present", _, rfl, by decide, by decide +kernel, Or.inl rfl⟩
theorem fl_P_18_5 : fl_ok "VersionMaps$Present" 18 5 2 := ⟨"VersionMaps$Present", _, rfl, by decide, by decide +kernel, Or.inl rfl⟩
theorem fl_P_22_5 : fl_ok "VersionMaps$Present" 22 5 3 := ⟨"VersionMaps$Present", _, rfl, by decide, by decide +kernel, Or.inl rfl⟩
theorem fl_P_35_4 : fl_ok "VersionMaps$Present" 35 4 4 := ⟨"VersionMaps$Meta", _, rfl, by decide, by decide +kernel, Or.inl rfl⟩
theorem fl_P_41_6 : fl_ok "VersionMaps$Present" 41 6 0 := ⟨"VersionMaps$Root", _, rfl, by decide, by decide +kernel, Or.inr (by decide +kernel)⟩
theorem fl_P_51_3 : fl_ok "VersionMaps$Present" 51 3 0 := ⟨"VersionMaps$Leaf", _, rfl, by decide, by decide +kernel, Or.inr (by decide +kernel)⟩
theorem fl_P_57_3 : fl_ok "VersionMaps$Present" 57 3 4 := ⟨"VersionMaps$Leaf", _, rfl, by decide, by decide +kernel, Or.inl rfl⟩
theorem fl_P_59_3 : fl_ok "VersionMaps$Present" 59 3 3 := ⟨"VersionMaps$Leaf", _, rfl, by decide, by decide +kernel, Or.inl rfl⟩
theorem fl_P_91_6 : fl_ok "VersionMaps$Present" 91 6 3 := ⟨"VersionMaps$Root", _, rfl, by decide, by decide +kernel, Or.inl rfl⟩
theorem fl_O_11_6 : fl_ok "VersionMaps$Root" 11 6 3 := ⟨"VersionMaps$Root", _, rfl, by decide, by decide +kernel, Or.inl rfl⟩
theorem fl_O_17_6 : fl_ok "VersionMaps$Root" 17 6 2 := ⟨"VersionMaps$Root", _, rfl, by decide, by decide +kernel, Or.inr (by decide +kernel)⟩
theorem fl_O_21_3 : fl_ok "VersionMaps$Root" 21 3 2 := ⟨"VersionMaps$Leaf", _, rfl, by decide, by decide +kernel, Or.inr (by decide +kernel)⟩
theorem fl_V_7_7 : fl_ok "VersionMaps$Version" 7 7 2 := ⟨"VersionMaps$Version", _, rfl, by decide, by decide +kernel, Or.inl rfl⟩
theorem fl_V_13_7 : fl_ok "VersionMaps$Version" 13 7 0 := ⟨"VersionMaps$Version", _, rfl, by decide, by decide +kernel, Or.inl rfl⟩
theorem fl_V_16_7 : fl_ok "VersionMaps$Version" 16 7 1 := ⟨"VersionMaps$Version", _, rfl, by decide, by decide +kernel, Or.inl rfl⟩
theorem fl_M_7_8 : fl_ok "VersionMapsModel" 7 8 0 := ⟨"VersionMapsModel", _, rfl, by decide, by decide +kernel, Or.inl rfl⟩
theorem fl_M_13_8 : fl_ok "VersionMapsModel" 13 8 1 := ⟨"VersionMapsModel", _, rfl, by decide, by decide +kernel, Or.inl rfl⟩
theorem fl_M_16_8 : fl_ok "VersionMapsModel" 16 8 2 := ⟨"VersionMapsModel", _, rfl, by decide, by decide +kernel, Or.inl rfl⟩
theorem fl_M_19_8 : fl_ok "VersionMapsModel" 19 8 3 := ⟨"VersionMapsModel", _, rfl, by decide, by decide +kernel, Or.inl rfl⟩
theorem fl_M_23_8 : fl_ok "VersionMapsModel" 23 8 4 := ⟨"VersionMapsModel", _, rfl, by decide, by decide +kernel, Or.inl rfl⟩
theorem fl_M_26_8 : fl_ok "VersionMapsModel" 26 8 5 := ⟨"VersionMapsModel", _, rfl, by decide, by decide +kernel, Or.inl rfl⟩
theorem fl_M_29_8 : fl_ok "VersionMapsModel" 29 8 6 := ⟨"VersionMapsModel", _, rfl, by decide, by decide +kernel, Or.inl rfl⟩
theorem fl_M_32_8 : fl_ok "VersionMapsModel" 32 8 7 := ⟨"VersionMapsModel", _, rfl, by decide, by decide +kernel, Or.inl rfl⟩
theorem fl_M_35_8 : fl_ok "VersionMapsModel" 35 8 8 := ⟨"VersionMapsModel", _, rfl, by decide, by decide +kernel, Or.inl rfl⟩
theorem fl_M_38_8 : fl_ok "VersionMapsModel" 38 8 9 := ⟨"VersionMapsModel", _, rfl, by decide, by decide +kernel, Or.inl rfl⟩
theorem fl_M_41_8 : fl_ok "VersionMapsModel" 41 8 10 := ⟨"VersionMapsModel", _, rfl, by decide, by decide +kernel, Or.inl rfl⟩
theorem fl_M_44_8 : fl_ok "VersionMapsModel" 44 8 11 := ⟨"VersionMapsModel", _, rfl, by decide, by decide +kernel, Or.inl rfl⟩
theorem fl_M_47_8 : fl_ok "VersionMapsModel" 47 8 12 := ⟨"VersionMapsModel", _, rfl, by decide, by decide +kernel, Or.inl rfl⟩
theorem fl_M_50_8 : fl_ok "VersionMapsModel" 50 8 13 := ⟨"VersionMapsModel", _, rfl, by decide, by decide +kernel, Or.inl rfl⟩
theorem fl_M_53_8 : fl_ok "VersionMapsModel" 53 8 14 := ⟨"VersionMapsModel", _, rfl, by decide, by decide +kernel, Or.inl rfl⟩
theorem fl_M_56_8 : fl_ok "VersionMapsModel" 56 8 15 := ⟨"VersionMapsModel", _, rfl, by decide, by decide +kernel, Or.inl rfl⟩
theorem fl_M_59_8 : fl_ok "VersionMapsModel" 59 8 16 := ⟨"VersionMapsModel", _, rfl, by decide, by decide +kernel, Or.inl rfl⟩
theorem fl_M_62_8 : fl_ok "VersionMapsModel" 62 8 17 := ⟨"VersionMapsModel", _, rfl, by decide, by decide +kernel, Or.inl rfl⟩
theorem fl_M_65_8 : fl_ok "VersionMapsModel" 65 8 18 := ⟨"VersionMapsModel", _, rfl, by decide, by decide +kernel, Or.inl rfl⟩
theorem fl_M_68_8 : fl_ok "VersionMapsModel" 68 8 20 := ⟨"VersionMapsModel", _, rfl, by decide, by decide +kernel, Or.inl rfl⟩
theorem fl_M_71_8 : fl_ok "VersionMapsModel" 71 8 21 := ⟨"VersionMapsModel", _, rfl, by decide, by decide +kernel, Or.inl rfl⟩
theorem fl_M_74_8 : fl_ok "VersionMapsModel" 74 8 22 := ⟨"VersionMapsModel", _, rfl, by decide, by decide +kernel, Or.inl rfl⟩
theorem fl_M_77_8 : fl_ok "VersionMapsModel" 77 8 23 := ⟨"VersionMapsModel", _, rfl, by decide, by decide +kernel, Or.inl rfl⟩
theorem fl_M_80_8 : fl_ok "VersionMapsModel" 80 8 24 := ⟨"VersionMapsModel", _, rfl, by decide, by decide +kernel, Or.inl rfl⟩
theorem fl_M_83_8 : fl_ok "VersionMapsModel" 83 8 26 := ⟨"VersionMapsModel", _, rfl, by decide, by decide +kernel, Or.inl rfl⟩
theorem fl_M_87_8 : fl_ok "VersionMapsModel" 87 8 27 := ⟨"VersionMapsModel", _, rfl, by decide, by decide +kernel, Or.inl rfl⟩
theorem fl_M_90_8 : fl_ok "VersionMapsModel" 90 8 28 := ⟨"VersionMapsModel", _, rfl, by decide, by decide +kernel, Or.inl rfl⟩
theorem fl_M_93_8 : fl_ok "VersionMapsModel" 93 8 29 := ⟨"VersionMapsModel", _, rfl, by decide, by decide +kernel, Or.inl rfl⟩
theorem fl_M_96_8 : fl_ok "VersionMapsModel" 96 8 30 := ⟨"VersionMapsModel", _, rfl, by decide, by decide +kernel, Or.inl rfl⟩
theorem fl_M_99_8 : fl_ok "VersionMapsModel" 99 8 32 := ⟨"VersionMapsModel", _, rfl, by decide, by decide +kernel, Or.inl rfl⟩
theorem fl_M_102_8 : fl_ok "VersionMapsModel" 102 8 33 := ⟨"VersionMapsModel", _, rfl, by decide, by decide +kernel, Or.inl rfl⟩
theorem fl_M_119_8 : fl_ok "VersionMapsModel" 119 8 31 := ⟨"VersionMapsModel", _, rfl, by decide, by decide +kernel, Or.inl rfl⟩
theorem fl_M_153_8 : fl_ok "VersionMapsModel" 153 8 25 := ⟨"VersionMapsModel", _, rfl, by decide, by decide +kernel, Or.inl rfl⟩
theorem fl_M_156_8 : fl_ok "VersionMapsModel" 156 8 19 := ⟨"VersionMapsModel", _, rfl, by decide, by decide +kernel, Or.inl rfl⟩
theorem fl_AL_7_9 : fl_ok "java/util/AbstractList" 7 9 2 := ⟨"java/util/AbstractList", _, rfl, by decide, by decide +kernel, Or.inl rfl⟩
theorem fl_A_9_9 : fl_ok "java/util/ArrayList" 9 9 0 := ⟨"java/util/ArrayList", _, rfl, by decide, by decide +kernel, Or.inl rfl⟩
theorem fl_A_48_9 : fl_ok "java/util/ArrayList" 48 9 1 := ⟨"java/util/ArrayList", _, rfl, by decide, by decide +kernel, Or.inl rfl⟩
theorem fl_A_63_9 : fl_ok "java/util/ArrayList" 63 9 2 := ⟨"java/util/ArrayList", _, rfl, by decide, by decide +kernel, Or.inr (by decide +kernel)⟩
theorem lk_F_35 : Cond.methodLink "VersionMaps$BlockFile" 35 ⟨"VersionMaps$Chunk", "blockCount", "()I"⟩ ∈ lw_w := by decide +kernel
theorem lk_F_42 : Cond.methodLink "VersionMaps$BlockFile" 42 ⟨"VersionMaps$BlockFile", "settlePending", "()V"⟩ ∈ lw_w := by decide +kernel
theorem lk_F_48 : Cond.methodLink "VersionMaps$BlockFile" 48 ⟨"VersionMaps$BlockFile", "isWhole", "(LVersionMaps$Chunk;)Z"⟩ ∈ lw_w := by decide +kernel
theorem lk_F_56 : Cond.methodLink "VersionMaps$BlockFile" 56 ⟨"VersionMaps$BlockFile", "holdsAllOf", "(LVersionMaps$Meta;)Z"⟩ ∈ lw_w := by decide +kernel
theorem lk_F_72 : Cond.methodLink "VersionMaps$BlockFile" 72 ⟨"VersionMaps$BlockFile", "holdsPage", "(LVersionMaps$Page;)Z"⟩ ∈ lw_w := by decide +kernel
theorem lk_F_76 : Cond.methodLink "VersionMaps$BlockFile" 76 ⟨"VersionMaps$Meta", "leafOf", "(II)LVersionMaps$Leaf;"⟩ ∈ lw_w := by decide +kernel
theorem lk_K_36 : Cond.methodLink "VersionMaps$Chunk" 36 ⟨"VersionMaps$Chunk", "append", "(LVersionMaps$Page;)V"⟩ ∈ lw_w := by decide +kernel
theorem lk_K_40 : Cond.methodLinkNest "VersionMaps$Chunk" 40 ⟨"VersionMaps", "blocksFor", "(I)I"⟩ "VersionMaps" ∈ lw_w := by decide +kernel
theorem lk_L_3 : Cond.methodLinkNest "VersionMaps$Leaf" 3 ⟨"VersionMaps$Page", "<init>", "()V"⟩ "VersionMaps" ∈ lw_w := by decide +kernel
theorem lk_E_25 : Cond.methodLink "VersionMaps$Meta" 25 ⟨"VersionMaps$Meta", "leafOf", "(II)LVersionMaps$Leaf;"⟩ ∈ lw_w := by decide +kernel
theorem lk_E_3 : Cond.methodLinkNest "VersionMaps$Meta" 3 ⟨"VersionMaps$Page", "<init>", "()V"⟩ "VersionMaps" ∈ lw_w := by decide +kernel
theorem lk_E_43 : Cond.methodLink "VersionMaps$Meta" 43 ⟨"VersionMaps$Root", "markLive", "(I)V"⟩ ∈ lw_w := by decide +kernel
theorem lk_P_102 : Cond.methodLink "VersionMaps$Present" 102 ⟨"VersionMaps$Chunk", "append", "(LVersionMaps$Page;)V"⟩ ∈ lw_w := by decide +kernel
theorem lk_P_106 : Cond.methodLinkNest "VersionMaps$Present" 106 ⟨"VersionMaps$Leaf", "<init>", "()V"⟩ "VersionMaps" ∈ lw_w := by decide +kernel
theorem lk_P_107 : Cond.methodLink "VersionMaps$Present" 107 ⟨"VersionMaps$Present", "leafKeys", "(II)I"⟩ ∈ lw_w := by decide +kernel
theorem lk_P_25 : Cond.methodLink "VersionMaps$Present" 25 ⟨"VersionMaps$Present", "touchLeaf", "(II)V"⟩ ∈ lw_w := by decide +kernel
theorem lk_P_29 : Cond.methodLink "VersionMaps$Present" 29 ⟨"java/lang/Integer", "bitCount", "(I)I"⟩ ∈ lw_w := by decide +kernel
theorem lk_P_47 : Cond.methodLink "VersionMaps$Present" 47 ⟨"VersionMaps$Meta", "leafOf", "(II)LVersionMaps$Leaf;"⟩ ∈ lw_w := by decide +kernel
theorem lk_P_54 : Cond.methodLink "VersionMaps$Present" 54 ⟨"VersionMaps$Present", "forgetTouched", "()V"⟩ ∈ lw_w := by decide +kernel
theorem lk_P_66 : Cond.methodLink "VersionMaps$Present" 66 ⟨"VersionMaps$Present", "needsRoot", "(I)Z"⟩ ∈ lw_w := by decide +kernel
theorem lk_P_70 : Cond.methodLink "VersionMaps$Present" 70 ⟨"VersionMaps$Present", "needsLeaf", "(II)Z"⟩ ∈ lw_w := by decide +kernel
theorem lk_P_74 : Cond.methodLink "VersionMaps$Present" 74 ⟨"VersionMaps$Meta", "<init>", "(I)V"⟩ ∈ lw_w := by decide +kernel
theorem lk_P_77 : Cond.methodLink "VersionMaps$Present" 77 ⟨"VersionMaps$Present", "isMapChanged", "(I)Z"⟩ ∈ lw_w := by decide +kernel
theorem lk_P_80 : Cond.methodLink "VersionMaps$Present" 80 ⟨"VersionMaps$Present", "writeMap", "(LVersionMaps$Chunk;ILVersionMaps$Meta;)LVersionMaps$Root;"⟩ ∈ lw_w := by decide +kernel
theorem lk_P_84 : Cond.methodLink "VersionMaps$Present" 84 ⟨"VersionMaps$Chunk", "close", "(LVersionMaps$Meta;)V"⟩ ∈ lw_w := by decide +kernel
theorem lk_P_90 : Cond.methodLinkNest "VersionMaps$Present" 90 ⟨"VersionMaps$Root", "<init>", "()V"⟩ "VersionMaps" ∈ lw_w := by decide +kernel
theorem lk_P_95 : Cond.methodLink "VersionMaps$Present" 95 ⟨"VersionMaps$Present", "writeLeaf", "(LVersionMaps$Chunk;II)LVersionMaps$Leaf;"⟩ ∈ lw_w := by decide +kernel
theorem lk_P_99 : Cond.methodLink "VersionMaps$Present" 99 ⟨"VersionMaps$Present", "isLeafTouched", "(II)Z"⟩ ∈ lw_w := by decide +kernel
theorem lk_O_3 : Cond.methodLinkNest "VersionMaps$Root" 3 ⟨"VersionMaps$Page", "<init>", "()V"⟩ "VersionMaps" ∈ lw_w := by decide +kernel
theorem lk_X_101 : Cond.methodLink "VersionMaps" 101 ⟨"VersionMaps$Present", "isTouched", "()Z"⟩ ∈ lw_w := by decide +kernel
theorem lk_X_108 : Cond.methodLink "VersionMaps" 108 ⟨"VersionMaps$Present", "pagesToWrite", "()I"⟩ ∈ lw_w := by decide +kernel
theorem lk_X_112 : Cond.methodLink "VersionMaps" 112 ⟨"VersionMaps", "blocksFor", "(I)I"⟩ ∈ lw_w := by decide +kernel
theorem lk_X_116 : Cond.methodLink "VersionMaps" 116 ⟨"VersionMaps$BlockFile", "findFreeRow", "(I)I"⟩ ∈ lw_w := by decide +kernel
theorem lk_X_121 : Cond.methodLink "VersionMaps" 121 ⟨"VersionMaps$Chunk", "<init>", "(III)V"⟩ ∈ lw_w := by decide +kernel
theorem lk_X_123 : Cond.methodLink "VersionMaps" 123 ⟨"VersionMaps$Present", "writeTouched", "(LVersionMaps$Chunk;ILVersionMaps$Meta;)V"⟩ ∈ lw_w := by decide +kernel
theorem lk_X_127 : Cond.methodLink "VersionMaps" 127 ⟨"VersionMaps$Present", "forgetTouched", "()V"⟩ ∈ lw_w := by decide +kernel
theorem lk_X_131 : Cond.methodLink "VersionMaps" 131 ⟨"VersionMaps", "writeToFile", "(LVersionMaps$Chunk;)V"⟩ ∈ lw_w := by decide +kernel
theorem lk_X_135 : Cond.methodLink "VersionMaps" 135 ⟨"VersionMaps", "dropUnkept", "()V"⟩ ∈ lw_w := by decide +kernel
theorem lk_X_138 : Cond.methodLink "VersionMaps" 138 ⟨"VersionMaps", "copyOf", "(LVersionMaps$Version;)LVersionMaps$Meta;"⟩ ∈ lw_w := by decide +kernel
theorem lk_X_142 : Cond.methodLink "VersionMaps" 142 ⟨"VersionMaps$Chunk", "close", "(LVersionMaps$Meta;)V"⟩ ∈ lw_w := by decide +kernel
theorem lk_X_146 : Cond.methodLink "VersionMaps" 146 ⟨"VersionMaps$Present", "load", "(LVersionMaps$Meta;)V"⟩ ∈ lw_w := by decide +kernel
theorem lk_X_149 : Cond.methodLink "VersionMaps" 149 ⟨"VersionMaps", "dropAbove", "(I)V"⟩ ∈ lw_w := by decide +kernel
theorem lk_X_162 : Cond.methodLink "VersionMaps" 162 ⟨"VersionMaps$BlockFile", "settlePending", "()V"⟩ ∈ lw_w := by decide +kernel
theorem lk_X_165 : Cond.methodLink "VersionMaps" 165 ⟨"VersionMaps", "freeDeadChunks", "()V"⟩ ∈ lw_w := by decide +kernel
theorem lk_X_168 : Cond.methodLink "VersionMaps" 168 ⟨"VersionMaps", "findSparsest", "(I)LVersionMaps$Chunk;"⟩ ∈ lw_w := by decide +kernel
theorem lk_X_172 : Cond.methodLink "VersionMaps" 172 ⟨"VersionMaps$Present", "touchPagesIn", "(LVersionMaps$Chunk;LVersionMaps$Meta;)I"⟩ ∈ lw_w := by decide +kernel
theorem lk_X_177 : Cond.methodLink "VersionMaps" 177 ⟨"VersionMaps$BlockFile", "losePending", "(II)V"⟩ ∈ lw_w := by decide +kernel
theorem lk_X_18 : Cond.methodLink "VersionMaps" 18 ⟨"VersionMaps$BlockFile", "<init>", "()V"⟩ ∈ lw_w := by decide +kernel
theorem lk_X_180 : Cond.methodLink "VersionMaps" 180 ⟨"VersionMaps", "reopen", "()V"⟩ ∈ lw_w := by decide +kernel
theorem lk_X_183 : Cond.methodLink "VersionMaps" 183 ⟨"java/util/ArrayList", "size", "()I"⟩ ∈ lw_w := by decide +kernel
theorem lk_X_186 : Cond.methodLink "VersionMaps" 186 ⟨"java/util/ArrayList", "get", "(I)Ljava/lang/Object;"⟩ ∈ lw_w := by decide +kernel
theorem lk_X_193 : Cond.methodLink "VersionMaps" 193 ⟨"VersionMaps$Chunk", "blockCount", "()I"⟩ ∈ lw_w := by decide +kernel
theorem lk_X_200 : Cond.methodLink "VersionMaps" 200 ⟨"VersionMaps$Chunk", "livePages", "(I)I"⟩ ∈ lw_w := by decide +kernel
theorem lk_X_217 : Cond.methodLink "VersionMaps" 217 ⟨"VersionMaps$BlockFile", "freeCount", "()I"⟩ ∈ lw_w := by decide +kernel
theorem lk_X_223 : Cond.methodLink "VersionMaps" 223 ⟨"java/lang/Integer", "bitCount", "(I)I"⟩ ∈ lw_w := by decide +kernel
theorem lk_X_231 : Cond.methodLink "VersionMaps" 231 ⟨"VersionMaps", "allLivePages", "()I"⟩ ∈ lw_w := by decide +kernel
theorem lk_X_234 : Cond.methodLink "VersionMaps" 234 ⟨"VersionMaps$Present", "size", "()I"⟩ ∈ lw_w := by decide +kernel
theorem lk_X_235 : Cond.methodLink "VersionMaps" 235 ⟨"VersionMaps$Meta", "<init>", "(I)V"⟩ ∈ lw_w := by decide +kernel
theorem lk_X_241 : Cond.methodLink "VersionMaps" 241 ⟨"VersionMaps$BlockFile", "write", "(LVersionMaps$Chunk;)V"⟩ ∈ lw_w := by decide +kernel
theorem lk_X_244 : Cond.methodLink "VersionMaps" 244 ⟨"java/util/ArrayList", "remove", "(I)Ljava/lang/Object;"⟩ ∈ lw_w := by decide +kernel
theorem lk_X_247 : Cond.methodLink "VersionMaps" 247 ⟨"VersionMaps", "markLivePages", "()V"⟩ ∈ lw_w := by decide +kernel
theorem lk_X_25 : Cond.methodLink "VersionMaps" 25 ⟨"java/util/ArrayList", "<init>", "()V"⟩ ∈ lw_w := by decide +kernel
theorem lk_X_250 : Cond.methodLink "VersionMaps" 250 ⟨"VersionMaps$Meta", "markLive", "(I)V"⟩ ∈ lw_w := by decide +kernel
theorem lk_X_253 : Cond.methodLink "VersionMaps" 253 ⟨"VersionMaps$BlockFile", "release", "(LVersionMaps$Chunk;)V"⟩ ∈ lw_w := by decide +kernel
theorem lk_X_256 : Cond.methodLink "VersionMaps" 256 ⟨"VersionMaps$BlockFile", "newestReadable", "()LVersionMaps$Chunk;"⟩ ∈ lw_w := by decide +kernel
theorem lk_X_260 : Cond.methodLink "VersionMaps" 260 ⟨"java/util/ArrayList", "clear", "()V"⟩ ∈ lw_w := by decide +kernel
theorem lk_X_263 : Cond.methodLink "VersionMaps" 263 ⟨"VersionMaps$BlockFile", "greatestId", "()I"⟩ ∈ lw_w := by decide +kernel
theorem lk_X_35 : Cond.methodLink "VersionMaps" 35 ⟨"VersionMaps$Version", "<init>", "(ILVersionMaps$Meta;)V"⟩ ∈ lw_w := by decide +kernel
theorem lk_X_52 : Cond.methodLink "VersionMaps" 52 ⟨"java/util/ArrayList", "add", "(Ljava/lang/Object;)Z"⟩ ∈ lw_w := by decide +kernel
theorem lk_X_56 : Cond.methodLink "VersionMaps" 56 ⟨"VersionMaps", "isKey", "(II)Z"⟩ ∈ lw_w := by decide +kernel
theorem lk_X_60 : Cond.methodLink "VersionMaps" 60 ⟨"VersionMaps$Present", "has", "(II)Z"⟩ ∈ lw_w := by decide +kernel
theorem lk_X_63 : Cond.methodLink "VersionMaps" 63 ⟨"VersionMaps$Present", "assign", "(III)V"⟩ ∈ lw_w := by decide +kernel
theorem lk_X_67 : Cond.methodLink "VersionMaps" 67 ⟨"VersionMaps$Present", "erase", "(II)V"⟩ ∈ lw_w := by decide +kernel
theorem lk_X_73 : Cond.methodLink "VersionMaps" 73 ⟨"VersionMaps$Present", "valueOf", "(II)I"⟩ ∈ lw_w := by decide +kernel
theorem lk_X_79 : Cond.methodLink "VersionMaps" 79 ⟨"VersionMaps", "findVersion", "(I)LVersionMaps$Version;"⟩ ∈ lw_w := by decide +kernel
theorem lk_X_87 : Cond.methodLink "VersionMaps" 87 ⟨"VersionMaps$Meta", "valueOf", "(II)J"⟩ ∈ lw_w := by decide +kernel
theorem lk_X_9 : Cond.methodLinkNest "VersionMaps" 9 ⟨"VersionMaps$Present", "<init>", "()V"⟩ "VersionMaps" ∈ lw_w := by decide +kernel
theorem lk_X_92 : Cond.methodLink "VersionMaps" 92 ⟨"VersionMaps", "isMap", "(I)Z"⟩ ∈ lw_w := by decide +kernel
theorem lk_Law_12 : Cond.methodLink "VersionMapsLaw" 12 ⟨"VersionMapsModel", "<init>", "()V"⟩ ∈ lw_w := by decide +kernel
theorem lk_Law_13 : Cond.methodLink "VersionMapsLaw" 13 ⟨"VersionMaps", "put", "(III)I"⟩ ∈ lw_w := by decide +kernel
theorem lk_Law_17 : Cond.methodLink "VersionMapsLaw" 17 ⟨"VersionMapsModel", "put", "(III)I"⟩ ∈ lw_w := by decide +kernel
theorem lk_Law_18 : Cond.methodLink "VersionMapsLaw" 18 ⟨"VersionMaps", "remove", "(II)I"⟩ ∈ lw_w := by decide +kernel
theorem lk_Law_22 : Cond.methodLink "VersionMapsLaw" 22 ⟨"VersionMapsModel", "remove", "(II)I"⟩ ∈ lw_w := by decide +kernel
theorem lk_Law_23 : Cond.methodLink "VersionMapsLaw" 23 ⟨"VersionMaps", "get", "(II)J"⟩ ∈ lw_w := by decide +kernel
theorem lk_Law_27 : Cond.methodLink "VersionMapsLaw" 27 ⟨"VersionMapsModel", "get", "(II)J"⟩ ∈ lw_w := by decide +kernel
theorem lk_Law_28 : Cond.methodLink "VersionMapsLaw" 28 ⟨"VersionMaps", "at", "(III)J"⟩ ∈ lw_w := by decide +kernel
theorem lk_Law_32 : Cond.methodLink "VersionMapsLaw" 32 ⟨"VersionMapsModel", "at", "(III)J"⟩ ∈ lw_w := by decide +kernel
theorem lk_Law_33 : Cond.methodLink "VersionMapsLaw" 33 ⟨"VersionMaps", "next", "(II)I"⟩ ∈ lw_w := by decide +kernel
theorem lk_Law_36 : Cond.methodLink "VersionMapsLaw" 36 ⟨"VersionMapsModel", "next", "(II)I"⟩ ∈ lw_w := by decide +kernel
theorem lk_Law_37 : Cond.methodLink "VersionMapsLaw" 37 ⟨"VersionMaps", "commit", "()I"⟩ ∈ lw_w := by decide +kernel
theorem lk_Law_41 : Cond.methodLink "VersionMapsLaw" 41 ⟨"VersionMapsModel", "commit", "()I"⟩ ∈ lw_w := by decide +kernel
theorem lk_Law_42 : Cond.methodLink "VersionMapsLaw" 42 ⟨"VersionMaps", "rollback", "(I)I"⟩ ∈ lw_w := by decide +kernel
theorem lk_Law_46 : Cond.methodLink "VersionMapsLaw" 46 ⟨"VersionMapsModel", "rollback", "(I)I"⟩ ∈ lw_w := by decide +kernel
theorem lk_Law_47 : Cond.methodLink "VersionMapsLaw" 47 ⟨"VersionMaps", "pin", "(I)I"⟩ ∈ lw_w := by decide +kernel
theorem lk_Law_50 : Cond.methodLink "VersionMapsLaw" 50 ⟨"VersionMapsModel", "pin", "(I)I"⟩ ∈ lw_w := by decide +kernel
theorem lk_Law_51 : Cond.methodLink "VersionMapsLaw" 51 ⟨"VersionMaps", "unpin", "(I)I"⟩ ∈ lw_w := by decide +kernel
theorem lk_Law_54 : Cond.methodLink "VersionMapsLaw" 54 ⟨"VersionMapsModel", "unpin", "(I)I"⟩ ∈ lw_w := by decide +kernel
theorem lk_Law_55 : Cond.methodLink "VersionMapsLaw" 55 ⟨"VersionMaps", "hold", "(I)I"⟩ ∈ lw_w := by decide +kernel
theorem lk_Law_58 : Cond.methodLink "VersionMapsLaw" 58 ⟨"VersionMapsModel", "hold", "(I)I"⟩ ∈ lw_w := by decide +kernel
theorem lk_Law_59 : Cond.methodLink "VersionMapsLaw" 59 ⟨"VersionMaps", "sync", "()I"⟩ ∈ lw_w := by decide +kernel
theorem lk_Law_62 : Cond.methodLink "VersionMapsLaw" 62 ⟨"VersionMapsModel", "sync", "()I"⟩ ∈ lw_w := by decide +kernel
theorem lk_Law_63 : Cond.methodLink "VersionMapsLaw" 63 ⟨"VersionMaps", "compact", "(I)I"⟩ ∈ lw_w := by decide +kernel
theorem lk_Law_66 : Cond.methodLink "VersionMapsLaw" 66 ⟨"VersionMapsModel", "compact", "(I)I"⟩ ∈ lw_w := by decide +kernel
theorem lk_Law_67 : Cond.methodLink "VersionMapsLaw" 67 ⟨"VersionMaps", "crash", "(II)I"⟩ ∈ lw_w := by decide +kernel
theorem lk_Law_70 : Cond.methodLink "VersionMapsLaw" 70 ⟨"VersionMapsModel", "crash", "(II)I"⟩ ∈ lw_w := by decide +kernel
theorem lk_Law_71 : Cond.methodLink "VersionMapsLaw" 71 ⟨"VersionMaps", "chunk", "(II)I"⟩ ∈ lw_w := by decide +kernel
theorem lk_Law_74 : Cond.methodLink "VersionMapsLaw" 74 ⟨"VersionMapsModel", "chunk", "(II)I"⟩ ∈ lw_w := by decide +kernel
theorem lk_Law_75 : Cond.methodLink "VersionMapsLaw" 75 ⟨"VersionMaps", "block", "(II)I"⟩ ∈ lw_w := by decide +kernel
theorem lk_Law_78 : Cond.methodLink "VersionMapsLaw" 78 ⟨"VersionMapsModel", "block", "(II)I"⟩ ∈ lw_w := by decide +kernel
theorem lk_Law_79 : Cond.methodLink "VersionMapsLaw" 79 ⟨"VersionMaps", "kept", "(I)I"⟩ ∈ lw_w := by decide +kernel
theorem lk_Law_82 : Cond.methodLink "VersionMapsLaw" 82 ⟨"VersionMapsModel", "kept", "(I)I"⟩ ∈ lw_w := by decide +kernel
theorem lk_Law_83 : Cond.methodLink "VersionMapsLaw" 83 ⟨"VersionMaps", "count", "(I)I"⟩ ∈ lw_w := by decide +kernel
theorem lk_Law_86 : Cond.methodLink "VersionMapsLaw" 86 ⟨"VersionMapsModel", "count", "(I)I"⟩ ∈ lw_w := by decide +kernel
theorem lk_Law_9 : Cond.methodLink "VersionMapsLaw" 9 ⟨"VersionMaps", "<init>", "()V"⟩ ∈ lw_w := by decide +kernel
theorem lk_M_105 : Cond.methodLink "VersionMapsModel" 105 ⟨"VersionMapsModel", "holds", "(IIZ)Z"⟩ ∈ lw_w := by decide +kernel
theorem lk_M_108 : Cond.methodLink "VersionMapsModel" 108 ⟨"VersionMapsModel", "page", "(I)I"⟩ ∈ lw_w := by decide +kernel
theorem lk_M_112 : Cond.methodLink "VersionMapsModel" 112 ⟨"VersionMapsModel", "markNone", "()V"⟩ ∈ lw_w := by decide +kernel
theorem lk_M_115 : Cond.methodLink "VersionMapsModel" 115 ⟨"VersionMapsModel", "mark", "(I)V"⟩ ∈ lw_w := by decide +kernel
theorem lk_M_122 : Cond.methodLink "VersionMapsModel" 122 ⟨"VersionMapsModel", "forget", "(I)V"⟩ ∈ lw_w := by decide +kernel
theorem lk_M_125 : Cond.methodLink "VersionMapsModel" 125 ⟨"VersionMapsModel", "in", "(II)Z"⟩ ∈ lw_w := by decide +kernel
theorem lk_M_133 : Cond.methodLink "VersionMapsModel" 133 ⟨"VersionMapsModel", "find", "(I)I"⟩ ∈ lw_w := by decide +kernel
theorem lk_M_136 : Cond.methodLink "VersionMapsModel" 136 ⟨"VersionMapsModel", "read", "(III)J"⟩ ∈ lw_w := by decide +kernel
theorem lk_M_140 : Cond.methodLink "VersionMapsModel" 140 ⟨"VersionMapsModel", "settle", "()V"⟩ ∈ lw_w := by decide +kernel
theorem lk_M_143 : Cond.methodLink "VersionMapsModel" 143 ⟨"VersionMapsModel", "leafHas", "(II)Z"⟩ ∈ lw_w := by decide +kernel
theorem lk_M_146 : Cond.methodLink "VersionMapsModel" 146 ⟨"VersionMapsModel", "isTouched", "(I)Z"⟩ ∈ lw_w := by decide +kernel
theorem lk_M_150 : Cond.methodLink "VersionMapsModel" 150 ⟨"VersionMapsModel", "mapHas", "(I)Z"⟩ ∈ lw_w := by decide +kernel
theorem lk_M_159 : Cond.methodLink "VersionMapsModel" 159 ⟨"VersionMapsModel", "pagesToWrite", "()I"⟩ ∈ lw_w := by decide +kernel
theorem lk_M_163 : Cond.methodLink "VersionMapsModel" 163 ⟨"VersionMapsModel", "room", "(I)I"⟩ ∈ lw_w := by decide +kernel
theorem lk_M_166 : Cond.methodLink "VersionMapsModel" 166 ⟨"VersionMapsModel", "purge", "()V"⟩ ∈ lw_w := by decide +kernel
theorem lk_M_169 : Cond.methodLink "VersionMapsModel" 169 ⟨"VersionMapsModel", "writeMap", "(IIII)I"⟩ ∈ lw_w := by decide +kernel
theorem lk_M_173 : Cond.methodLink "VersionMapsModel" 173 ⟨"VersionMapsModel", "add", "(IIIII)I"⟩ ∈ lw_w := by decide +kernel
theorem lk_M_177 : Cond.methodLink "VersionMapsModel" 177 ⟨"VersionMapsModel", "write", "(IIII)V"⟩ ∈ lw_w := by decide +kernel
theorem lk_M_181 : Cond.methodLink "VersionMapsModel" 181 ⟨"VersionMapsModel", "drop", "()V"⟩ ∈ lw_w := by decide +kernel
theorem lk_M_184 : Cond.methodLink "VersionMapsModel" 184 ⟨"VersionMapsModel", "load", "(I)V"⟩ ∈ lw_w := by decide +kernel
theorem lk_M_187 : Cond.methodLink "VersionMapsModel" 187 ⟨"VersionMapsModel", "markKept", "()V"⟩ ∈ lw_w := by decide +kernel
theorem lk_M_190 : Cond.methodLink "VersionMapsModel" 190 ⟨"VersionMapsModel", "liveOf", "(I)I"⟩ ∈ lw_w := by decide +kernel
theorem lk_M_193 : Cond.methodLink "VersionMapsModel" 193 ⟨"VersionMapsModel", "keepAll", "()V"⟩ ∈ lw_w := by decide +kernel
theorem lk_M_196 : Cond.methodLink "VersionMapsModel" 196 ⟨"VersionMapsModel", "clean", "()V"⟩ ∈ lw_w := by decide +kernel
theorem lk_M_200 : Cond.methodLink "VersionMapsModel" 200 ⟨"VersionMapsModel", "isSound", "(I)Z"⟩ ∈ lw_w := by decide +kernel
theorem lk_AL_1 : Cond.methodLink "java/util/AbstractList" 1 ⟨"java/util/AbstractCollection", "<init>", "()V"⟩ ∈ lw_w := by decide +kernel
theorem lk_A_1 : Cond.methodLink "java/util/ArrayList" 1 ⟨"java/util/AbstractList", "<init>", "()V"⟩ ∈ lw_w := by decide +kernel
theorem lk_A_118 : Cond.methodLink "java/util/ArrayList" 118 ⟨"java/util/Objects", "checkIndex", "(II)I"⟩ ∈ lw_w := by decide +kernel
theorem lk_A_123 : Cond.methodLink "java/util/ArrayList" 123 ⟨"java/util/ArrayList", "elementData", "(I)Ljava/lang/Object;"⟩ ∈ lw_w := by decide +kernel
theorem lk_A_129 : Cond.methodLink "java/util/ArrayList" 129 ⟨"java/util/ArrayList", "grow", "()[Ljava/lang/Object;"⟩ ∈ lw_w := by decide +kernel
theorem lk_A_131 : Cond.methodLink "java/util/ArrayList" 131 ⟨"java/util/ArrayList", "add", "(Ljava/lang/Object;[Ljava/lang/Object;I)V"⟩ ∈ lw_w := by decide +kernel
theorem lk_A_144 : Cond.methodLink "java/util/ArrayList" 144 ⟨"java/util/ArrayList", "fastRemove", "([Ljava/lang/Object;I)V"⟩ ∈ lw_w := by decide +kernel
theorem lk_A_66 : Cond.methodLink "java/util/ArrayList" 66 ⟨"java/util/Arrays", "copyOf", "([Ljava/lang/Object;I)[Ljava/lang/Object;"⟩ ∈ lw_w := by decide +kernel
theorem lk_A_69 : Cond.methodLink "java/util/ArrayList" 69 ⟨"java/util/ArrayList", "grow", "(I)[Ljava/lang/Object;"⟩ ∈ lw_w := by decide +kernel
theorem lk_A_73 : Cond.methodLink "java/util/ArrayList" 73 ⟨"jdk/internal/util/ArraysSupport", "newLength", "(III)I"⟩ ∈ lw_w := by decide +kernel
theorem lk_Ar_300 : Cond.methodLink "java/util/Arrays" 300 ⟨"java/util/Arrays", "copyOf", "([Ljava/lang/Object;ILjava/lang/Class;)[Ljava/lang/Object;"⟩ ∈ lw_w := by decide +kernel
theorem lk_Ob_105 : Cond.methodLink "java/util/Objects" 105 ⟨"jdk/internal/util/Preconditions", "checkIndex", "(IILjava/util/function/BiFunction;)I"⟩ ∈ lw_w := by decide +kernel
theorem lk_AS_201 : Cond.methodLink "jdk/internal/util/ArraysSupport" 201 ⟨"jdk/internal/util/ArraysSupport", "hugeLength", "(II)I"⟩ ∈ lw_w := by decide +kernel
end
section
section MathR
variable {l : Launch} {C : Ct} {mi : Nat} {M : Mi} {d pc : Nat} {ls : List (Nat × Tv)} {st : List Tv} {h h' : Hp} {r : Option Tv}
theorem mm_w1 : Cond.static Lib.Math.max.name ∈ lw_w := by decide +kernel
theorem mm_w2 : Cond.code Lib.Math.max.name Lib.Math.max.code 2 (some .int) ∈ lw_w := by decide +kernel
theorem mm_w3 : Cond.static Lib.Math.min.name ∈ lw_w := by decide +kernel
theorem mm_w4 : Cond.code Lib.Math.min.name Lib.Math.min.code 2 (some .int) ∈ lw_w := by decide +kernel
theorem mm_w5 : Cond.initialized "java/lang/Math" ∈ lw_w := by decide +kernel
theorem z_mmax {x y : Int32} {idx : Nat} (hd : decode M.2.1 pc = .ok (.invokestatic idx, 3)) (hl : Cond.methodLink M.1.cls idx Lib.Math.max.name ∈ lw_w) (hd1 : 1 ≤ d) (hst : (st.map fun t => bif cat2 t then 2 else 1).sum ≤ 8) (k : Z l C mi M d (pc + 3) ls (vi (if x < y then y else x) :: st) h r h') : Z l C mi M d pc ls (vi y :: vi x :: st) h r h' :=
  ⟨k.1, k.2.1, fun p e R s m args below meth c H locs lv Q n0 s0 X P S z1 z2 L a1 a2 a3 a4 hend => by
    have b1 := k.1
    have b2 := k.2.1
    have K := X.2.2.2.2.1.1
    have hfr := X.2.2.2.2.2.1
    have hlo := X.2.2.2.2.2.2.1
    exact va_mmax X.1 X.2.1 (by rw [X.2.2.1]; exact L.1.symm) X.2.2.2.1 (K.use _ hl) (K.use _ mm_w1) (K.use _ mm_w5) (K.use _ mm_w2) (by omega) (by rw [st_cat]; omega) (by omega) (by omega) hd (k.2.2 p e R s m args below meth c H locs lv Q n0 s0 X P S z1 z2 L a1 a2 a3 a4 hend)⟩
theorem z_mmin {x y : Int32} {idx : Nat} (hd : decode M.2.1 pc = .ok (.invokestatic idx, 3)) (hl : Cond.methodLink M.1.cls idx Lib.Math.min.name ∈ lw_w) (hd1 : 1 ≤ d) (hst : (st.map fun t => bif cat2 t then 2 else 1).sum ≤ 8) (k : Z l C mi M d (pc + 3) ls (vi (if y < x then y else x) :: st) h r h') : Z l C mi M d pc ls (vi y :: vi x :: st) h r h' :=
  ⟨k.1, k.2.1, fun p e R s m args below meth c H locs lv Q n0 s0 X P S z1 z2 L a1 a2 a3 a4 hend => by
    have b1 := k.1
    have b2 := k.2.1
    have K := X.2.2.2.2.1.1
    have hfr := X.2.2.2.2.2.1
    have hlo := X.2.2.2.2.2.2.1
    exact va_mmin X.1 X.2.1 (by rw [X.2.2.1]; exact L.1.symm) X.2.2.2.1 (K.use _ hl) (K.use _ mm_w3) (K.use _ mm_w5) (K.use _ mm_w4) (by omega) (by rw [st_cat]; omega) (by omega) (by omega) hd (k.2.2 p e R s m args below meth c H locs lv Q n0 s0 X P S z1 z2 L a1 a2 a3 a4 hend)⟩
theorem z_ldcw {i : Nat} {v : Int32} (hd : decode M.2.1 pc = .ok (.ldc_w i, 3)) (hw : Cond.constant M.1.cls i v ∈ lw_w) (k : Z l C mi M d (pc + 3) ls (vi v :: st) h r h') : Z l C mi M d pc ls st h r h' :=
  z_of k fun p e R s m args below meth c H locs cells slots lv Q X P S L kk => lv_ldcw X.1 X.2.1 X.2.2.2.1 (X.2.2.2.2.1.1.use _ hw) hd (kk lv L)
end MathR
end
section
/-! FRAMES: what a function may write: fields of objects (kind, field), and arrays (kind) -/
abbrev Wl : Type := List (Nat × Nat) × List Nat
def inW (w : Wl) (κ k : Nat) : Prop := (κ, k) ∈ w.1 ∨ κ ∈ w.2
def Keep (w : Wl) (h h' : Hp) : Prop := hpN h ≤ hpN h' ∧ hpS h ≤ hpS h' ∧ (∀ a, a < hpN h → hpT h' a = hpT h a ∧ hpL h' a = hpL h a) ∧ ∀ a, a < hpN h → ∀ k, ¬ inW w (hpT h a) k → hpI h' a k = hpI h a k ∧ hpR h' a k = hpR h a k
theorem Keep.refl (w : Wl) (h : Hp) : Keep w h h := ⟨Nat.le_refl _, Nat.le_refl _, fun _ _ => ⟨rfl, rfl⟩, fun _ _ _ _ => ⟨rfl, rfl⟩⟩
theorem Keep.trans {w : Wl} {h h1 h2 : Hp} (a : Keep w h h1) (b : Keep w h1 h2) : Keep w h h2 := by
  obtain ⟨a1, a2, a3, a4⟩ := a
  obtain ⟨b1, b2, b3, b4⟩ := b
  refine ⟨Nat.le_trans a1 b1, Nat.le_trans a2 b2, fun x hx => ?_, fun x hx k hk => ?_⟩
  · have q := b3 x (Nat.lt_of_lt_of_le hx a1)
    rw [q.1, q.2]; exact a3 x hx
  · have q := b4 x (Nat.lt_of_lt_of_le hx a1) k (by rw [(a3 x hx).1]; exact hk)
    rw [q.1, q.2]; exact a4 x hx k hk
theorem Keep.mono {w w' : Wl} {h h1 : Hp} (a : Keep w h h1) (m1 : ∀ x ∈ w.1, x ∈ w'.1 ∨ x.1 ∈ w'.2) (m2 : ∀ x ∈ w.2, x ∈ w'.2) : Keep w' h h1 := by
  obtain ⟨a1, a2, a3, a4⟩ := a
  refine ⟨a1, a2, a3, fun x hx k hk => a4 x hx k fun q => hk ?_⟩
  rcases q with q | q
  · exact m1 _ q
  · exact Or.inr (m2 _ q)
theorem kw_I {w : Wl} {h h1 : Hp} {a k κ : Nat} {v : Int32} (e : h1 = wI h a k v) (t : hpT h a = κ) (q : inW w κ k) : Keep w h h1 := by
  subst e
  refine ⟨Nat.le_refl _, Nat.le_refl _, fun _ _ => ⟨rfl, rfl⟩, fun b hb j hj => ⟨?_, rfl⟩⟩
  refine if_neg fun z => hj ?_
  rw [z.1, z.2, t]; exact q
theorem kw_R {w : Wl} {h h1 : Hp} {a k κ : Nat} {v : Option Nat} (e : h1 = wR h a k v) (t : hpT h a = κ) (q : inW w κ k) : Keep w h h1 := by
  subst e
  refine ⟨Nat.le_refl _, Nat.le_refl _, fun _ _ => ⟨rfl, rfl⟩, fun b hb j hj => ⟨rfl, ?_⟩⟩
  refine if_neg fun z => hj ?_
  rw [z.1, z.2, t]; exact q
theorem kw_IP {w : Wl} {h h1 : Hp} {a k : Nat} {v : Int32} (e : h1 = wI h a k v) (t : isPg h a = true) (q3 : inW w 3 k) (q4 : inW w 4 k) (q6 : inW w 6 k) : Keep w h h1 := by
  rcases isPg_eq t with z | z | z
  · exact kw_I e z q3
  · exact kw_I e z q4
  · exact kw_I e z q6
theorem kw_RP {w : Wl} {h h1 : Hp} {a k : Nat} {v : Option Nat} (e : h1 = wR h a k v) (t : isPg h a = true) (q3 : inW w 3 k) (q4 : inW w 4 k) (q6 : inW w 6 k) : Keep w h h1 := by
  rcases isPg_eq t with z | z | z
  · exact kw_R e z q3
  · exact kw_R e z q4
  · exact kw_R e z q6
theorem kw_N {w : Wl} {h h1 : Hp} {κ n m : Nat} (e : h1 = nw h κ n m) : Keep w h h1 := by
  subst e
  refine ⟨Nat.le_succ _, Nat.le_add_right _ _, fun b hb => ⟨if_neg (by omega), if_neg (by omega)⟩, fun b hb j hj => ⟨if_neg (by omega), if_neg (by omega)⟩⟩
theorem kw_cI {w : Wl} {h h1 : Hp} {a sp b dp n κ : Nat} (e : h1 = cpI h a sp b dp n) (t : hpT h b = κ) (q : κ ∈ w.2) : Keep w h h1 := by
  subst e
  refine ⟨Nat.le_refl _, Nat.le_refl _, fun _ _ => ⟨rfl, rfl⟩, fun x hx j hj => ⟨?_, rfl⟩⟩
  refine if_neg fun z => hj ?_
  rw [z.1, t]; exact Or.inr q
theorem kw_cR {w : Wl} {h h1 : Hp} {a sp b dp n κ : Nat} (e : h1 = cpR h a sp b dp n) (t : hpT h b = κ) (q : κ ∈ w.2) : Keep w h h1 := by
  subst e
  refine ⟨Nat.le_refl _, Nat.le_refl _, fun _ _ => ⟨rfl, rfl⟩, fun x hx j hj => ⟨rfl, ?_⟩⟩
  refine if_neg fun z => hj ?_
  rw [z.1, t]; exact Or.inr q
theorem ao6 {κ : Nat} (h1 : 66 ≤ κ) (h2 : aty κ = 6) : κ = 73 ∨ κ = 74 := by
  rcases Nat.lt_or_ge κ 120 with q | q
  · have h3 : ∀ j, j < 120 → 66 ≤ j → aty j = 6 → j = 73 ∨ j = 74 := by decide
    exact h3 κ q h1 h2
  · exfalso
    unfold aty at h2
    have h4 : kat.length ≤ κ - 64 := by have : kat.length ≤ 50 := by decide
                                        omega
    rw [List.getD_eq_getElem?_getD, List.getElem?_eq_none h4] at h2
    cases h2
theorem kw_RO {w : Wl} {h h1 : Hp} {a k : Nat} {v : Option Nat} (e : h1 = wR h a k v) (g : isO h a 6 = true) (q1 : 73 ∈ w.2) (q2 : 74 ∈ w.2) : Keep w h h1 := by
  rcases ao6 (isO_eq g).1 (isO_eq g).2 with z | z
  · exact kw_R e z (Or.inr q1)
  · exact kw_R e z (Or.inr q2)
theorem kw_cO {w : Wl} {h h1 : Hp} {a sp b dp n : Nat} (e : h1 = cpR h a sp b dp n) (g : isO h b 6 = true) (q1 : 73 ∈ w.2) (q2 : 74 ∈ w.2) : Keep w h h1 := by
  rcases ao6 (isO_eq g).1 (isO_eq g).2 with z | z
  · exact kw_cR e z q1
  · exact kw_cR e z q2
theorem lpk {S R : Type} {b : S → Option (S ⊕ R)} {w : Wl} {sh : S → Hp} {rh : R → Hp} (hb : ∀ s q, b s = some q → Keep w (sh s) (Sum.elim sh rh q)) : ∀ (n : Nat) (s : S) (r : R), lp b n s = some r → Keep w (sh s) (rh r) := by
  intro n
  induction n with
  | zero => intro s r hl; cases hl
  | succ n ih =>
    intro s r hl
    rcases lp_some hl with ⟨s2, h1, h2⟩ | h1
    · exact (hb s _ h1).trans (ih s2 r h2)
    · exact hb s _ h1
end
section
-- java/util/AbstractCollection.<init>()V
def m_AC_init : Mi := (⟨"java/util/AbstractCollection", "<init>", "()V"⟩, prog_18_method_1_code, 1, (Option.none : Option Jvm.ClassFile.FieldType), .return_)
theorem cw_AC_init : cw_ok m_AC_init 0 := ⟨by decide +kernel, by decide +kernel, by decide +kernel, by decide +kernel⟩
theorem im_AC_init : Cond.instanceMethod m_AC_init.1 ∈ lw_w := by decide +kernel
theorem d_AC_init_0 : decode prog_18_method_1_code 0 = .ok (.aload_n 0, 1) := by decide +kernel
theorem d_AC_init_1 : decode prog_18_method_1_code 1 = .ok (.invokespecial 1, 3) := by decide +kernel
theorem d_AC_init_4 : decode prog_18_method_1_code 4 = .ok (.return_, 1) := by decide +kernel
def W_AC_init : Wl := ([], [])
def f_AC_init (a0 : Nat) (h : Hp) : Option Hp :=
  some h
set_option maxRecDepth 100000 in
set_option maxHeartbeats 4000000 in
theorem zf_AC_init {l : Launch} {C : Ct} {mi : Nat} {a0 : Nat} {h h' : Hp} (hf : f_AC_init a0 h = some h') : Z l C mi m_AC_init 1 0 [(0, vr (some a0))] [] h none h' := by
  unfold f_AC_init at hf
  refine z_aload_n 0 d_AC_init_0 rfl rfl ?_
  refine z_oinit d_AC_init_1 (by decide +kernel) rfl (by decide) (Nat.le_of_ble_eq_true rfl) ?_
  cases (Option.some.inj hf)
  exact z_ret d_AC_init_4 rfl
set_option maxRecDepth 100000 in
set_option maxHeartbeats 4000000 in
theorem fr_AC_init {C : Ct} {mi : Nat} {a0 : Nat} {h h' : Hp} (hf : f_AC_init a0 h = some h') : Keep W_AC_init h h' := by
  unfold f_AC_init at hf
  cases (Option.some.inj hf)
  exact (Keep.refl W_AC_init _)
theorem c_AC_init {l : Launch} {C : Ct} {mi : Nat} {a0 : Nat} {h h' : Hp} (hf : f_AC_init a0 h = some h') : Mt l C mi m_AC_init 1 [vr (some a0)] h none h' := mt_V rfl rfl (by decide) (Nat.le_of_ble_eq_true rfl) (zf_AC_init hf)
-- java/util/AbstractList.<init>()V
def m_AL_init : Mi := (⟨"java/util/AbstractList", "<init>", "()V"⟩, prog_19_method_1_code, 1, (Option.none : Option Jvm.ClassFile.FieldType), .return_)
theorem cw_AL_init : cw_ok m_AL_init 0 := ⟨by decide +kernel, by decide +kernel, by decide +kernel, by decide +kernel⟩
theorem im_AL_init : Cond.instanceMethod m_AL_init.1 ∈ lw_w := by decide +kernel
theorem d_AL_init_0 : decode prog_19_method_1_code 0 = .ok (.aload_n 0, 1) := by decide +kernel
theorem d_AL_init_1 : decode prog_19_method_1_code 1 = .ok (.invokespecial 1, 3) := by decide +kernel
theorem d_AL_init_4 : decode prog_19_method_1_code 4 = .ok (.aload_n 0, 1) := by decide +kernel
theorem d_AL_init_5 : decode prog_19_method_1_code 5 = .ok (.iconst 0, 1) := by decide +kernel
theorem d_AL_init_6 : decode prog_19_method_1_code 6 = .ok (.putfield 7, 3) := by decide +kernel
theorem d_AL_init_9 : decode prog_19_method_1_code 9 = .ok (.return_, 1) := by decide +kernel
def W_AL_init : Wl := ([(9, 2)], [])
def f_AL_init (a0 : Nat) (h : Hp) : Option Hp :=
  cv (f_AC_init a0 h) fun h1 => gd (isK h1 a0 9) (nm (wI h1 a0 2 (0 : Int32)) fun h5 => some h5)
set_option maxRecDepth 100000 in
set_option maxHeartbeats 4000000 in
theorem zf_AL_init {l : Launch} {C : Ct} {mi : Nat} {a0 : Nat} {h h' : Hp} (hf : f_AL_init a0 h = some h') : Z l C mi m_AL_init 2 0 [(0, vr (some a0))] [] h none h' := by
  unfold f_AL_init at hf
  refine z_aload_n 0 d_AL_init_0 rfl rfl ?_
  obtain ⟨h1, ec2, hf⟩ := cv_some hf
  refine z_callI (c_AC_init ec2) d_AL_init_1 rfl cw_AC_init lk_AL_1 im_AC_init rfl ⟨by decide, by decide⟩ (Nat.le_of_ble_eq_true rfl) rfl ?_
  refine z_aload_n 0 d_AL_init_4 rfl rfl ?_
  refine z_iconst (v := (0 : Int32)) d_AL_init_5 rfl ?_
  obtain ⟨g4, hf⟩ := gd_some hf
  obtain ⟨h5, eh6, hf⟩ := nm_some hf
  refine z_putI d_AL_init_6 (fl_K (isK_eq g4) fl_AL_7_9) (pu_K (isK_eq g4) (fun q hq => by cases (Option.some.inj hq); exact Or.inl rfl)) (fi_K (isK_eq g4) rfl) rfl ?_
  refine z_hp eh6 ?_
  cases (Option.some.inj hf)
  exact z_ret d_AL_init_9 rfl
set_option maxRecDepth 100000 in
set_option maxHeartbeats 4000000 in
theorem fr_AL_init {C : Ct} {mi : Nat} {a0 : Nat} {h h' : Hp} (hf : f_AL_init a0 h = some h') : Keep W_AL_init h h' := by
  unfold f_AL_init at hf
  obtain ⟨h1, ec2, hf⟩ := cv_some hf
  have K3 := (Keep.refl W_AL_init _).trans ((fr_AC_init (C := C) (mi := mi) ec2).mono (by decide) (by decide))
  obtain ⟨g4, hf⟩ := gd_some hf
  obtain ⟨h5, eh6, hf⟩ := nm_some hf
  have K7 := K3.trans (kw_I eh6 (isK_eq g4) (Or.inl (by decide)))
  cases (Option.some.inj hf)
  exact K7
theorem c_AL_init {l : Launch} {C : Ct} {mi : Nat} {a0 : Nat} {h h' : Hp} (hf : f_AL_init a0 h = some h') : Mt l C mi m_AL_init 2 [vr (some a0)] h none h' := mt_V rfl rfl (by decide) (Nat.le_of_ble_eq_true rfl) (zf_AL_init hf)
-- java/util/ArrayList.<init>()V
def m_A_init : Mi := (⟨"java/util/ArrayList", "<init>", "()V"⟩, prog_20_method_2_code, 1, (Option.none : Option Jvm.ClassFile.FieldType), .return_)
theorem cw_A_init : cw_ok m_A_init 0 := ⟨by decide +kernel, by decide +kernel, by decide +kernel, by decide +kernel⟩
theorem im_A_init : Cond.instanceMethod m_A_init.1 ∈ lw_w := by decide +kernel
theorem d_A_init_0 : decode prog_20_method_2_code 0 = .ok (.aload_n 0, 1) := by decide +kernel
theorem d_A_init_1 : decode prog_20_method_2_code 1 = .ok (.invokespecial 1, 3) := by decide +kernel
theorem d_A_init_4 : decode prog_20_method_2_code 4 = .ok (.aload_n 0, 1) := by decide +kernel
theorem d_A_init_5 : decode prog_20_method_2_code 5 = .ok (.getstatic 39, 3) := by decide +kernel
theorem d_A_init_8 : decode prog_20_method_2_code 8 = .ok (.putfield 9, 3) := by decide +kernel
theorem d_A_init_11 : decode prog_20_method_2_code 11 = .ok (.return_, 1) := by decide +kernel
def W_A_init : Wl := ([(9, 0), (9, 2)], [])
def f_A_init (E : Nat × Nat) (a0 : Nat) (h : Hp) : Option Hp :=
  cv (f_AL_init a0 h) fun h1 => gd (isK h1 a0 9) (nm (wR h1 a0 0 (some E.1)) fun h5 => some h5)
set_option maxRecDepth 100000 in
set_option maxHeartbeats 4000000 in
theorem zf_A_init {l : Launch} {C : Ct} {mi : Nat} {a0 : Nat} {h h' : Hp} (hf : f_A_init (cE C, mi) a0 h = some h') : Z l C mi m_A_init 3 0 [(0, vr (some a0))] [] h none h' := by
  unfold f_A_init at hf
  refine z_aload_n 0 d_A_init_0 rfl rfl ?_
  obtain ⟨h1, ec2, hf⟩ := cv_some hf
  refine z_callI (c_AL_init ec2) d_A_init_1 rfl cw_AL_init lk_A_1 im_AL_init rfl ⟨by decide, by decide⟩ (Nat.le_of_ble_eq_true rfl) rfl ?_
  refine z_aload_n 0 d_A_init_4 rfl rfl ?_
  refine z_gets d_A_init_5 (by decide +kernel) ?_
  obtain ⟨g4, hf⟩ := gd_some hf
  obtain ⟨h5, eh6, hf⟩ := nm_some hf
  refine z_putR d_A_init_8 (fl_K (isK_eq g4) fl_A_9_9) (pu_K (isK_eq g4) (fun q hq => by cases (Option.some.inj hq); exact Or.inl rfl)) (fi_K (isK_eq g4) rfl) rfl ?_
  refine z_hp eh6 ?_
  cases (Option.some.inj hf)
  exact z_ret d_A_init_11 rfl
set_option maxRecDepth 100000 in
set_option maxHeartbeats 4000000 in
theorem fr_A_init {C : Ct} {mi : Nat} {a0 : Nat} {h h' : Hp} (hf : f_A_init (cE C, mi) a0 h = some h') : Keep W_A_init h h' := by
  unfold f_A_init at hf
  obtain ⟨h1, ec2, hf⟩ := cv_some hf
  have K3 := (Keep.refl W_A_init _).trans ((fr_AL_init (C := C) (mi := mi) ec2).mono (by decide) (by decide))
  obtain ⟨g4, hf⟩ := gd_some hf
  obtain ⟨h5, eh6, hf⟩ := nm_some hf
  have K7 := K3.trans (kw_R eh6 (isK_eq g4) (Or.inl (by decide)))
  cases (Option.some.inj hf)
  exact K7
theorem c_A_init {l : Launch} {C : Ct} {mi : Nat} {a0 : Nat} {h h' : Hp} (hf : f_A_init (cE C, mi) a0 h = some h') : Mt l C mi m_A_init 3 [vr (some a0)] h none h' := mt_V rfl rfl (by decide) (Nat.le_of_ble_eq_true rfl) (zf_A_init hf)
-- jdk/internal/util/ArraysSupport.hugeLength(II)I
def m_AS_hugeLength : Mi := (⟨"jdk/internal/util/ArraysSupport", "hugeLength", "(II)I"⟩, prog_27_method_28_code, 3, (Option.some Jvm.ClassFile.FieldType.int), .ireturn)
theorem cw_AS_hugeLength : cw_ok m_AS_hugeLength 2 := ⟨by decide +kernel, by decide +kernel, by decide +kernel, by decide +kernel⟩
theorem d_AS_hugeLength_0 : decode prog_27_method_28_code 0 = .ok (.iload_n 0, 1) := by decide +kernel
theorem d_AS_hugeLength_1 : decode prog_27_method_28_code 1 = .ok (.iload_n 1, 1) := by decide +kernel
theorem d_AS_hugeLength_2 : decode prog_27_method_28_code 2 = .ok (.iadd, 1) := by decide +kernel
theorem d_AS_hugeLength_3 : decode prog_27_method_28_code 3 = .ok (.istore_n 2, 1) := by decide +kernel
theorem d_AS_hugeLength_4 : decode prog_27_method_28_code 4 = .ok (.iload_n 2, 1) := by decide +kernel
theorem d_AS_hugeLength_5 : decode prog_27_method_28_code 5 = .ok (.ifCond .ge 44, 3) := by decide +kernel
theorem d_AS_hugeLength_8 : decode prog_27_method_28_code 8 = .ok (.new 204, 3) := by decide +kernel
theorem d_AS_hugeLength_11 : decode prog_27_method_28_code 11 = .ok (.dup, 1) := by decide +kernel
theorem d_AS_hugeLength_12 : decode prog_27_method_28_code 12 = .ok (.new 89, 3) := by decide +kernel
theorem d_AS_hugeLength_15 : decode prog_27_method_28_code 15 = .ok (.dup, 1) := by decide +kernel
theorem d_AS_hugeLength_16 : decode prog_27_method_28_code 16 = .ok (.invokespecial 91, 3) := by decide +kernel
theorem d_AS_hugeLength_19 : decode prog_27_method_28_code 19 = .ok (.ldc 206, 2) := by decide +kernel
theorem d_AS_hugeLength_21 : decode prog_27_method_28_code 21 = .ok (.invokevirtual 94, 3) := by decide +kernel
theorem d_AS_hugeLength_24 : decode prog_27_method_28_code 24 = .ok (.iload_n 0, 1) := by decide +kernel
theorem d_AS_hugeLength_25 : decode prog_27_method_28_code 25 = .ok (.invokevirtual 98, 3) := by decide +kernel
theorem d_AS_hugeLength_28 : decode prog_27_method_28_code 28 = .ok (.ldc 208, 2) := by decide +kernel
theorem d_AS_hugeLength_30 : decode prog_27_method_28_code 30 = .ok (.invokevirtual 94, 3) := by decide +kernel
theorem d_AS_hugeLength_33 : decode prog_27_method_28_code 33 = .ok (.iload_n 1, 1) := by decide +kernel
theorem d_AS_hugeLength_34 : decode prog_27_method_28_code 34 = .ok (.invokevirtual 98, 3) := by decide +kernel
theorem d_AS_hugeLength_37 : decode prog_27_method_28_code 37 = .ok (.ldc 210, 2) := by decide +kernel
theorem d_AS_hugeLength_39 : decode prog_27_method_28_code 39 = .ok (.invokevirtual 94, 3) := by decide +kernel
theorem d_AS_hugeLength_42 : decode prog_27_method_28_code 42 = .ok (.invokevirtual 101, 3) := by decide +kernel
theorem d_AS_hugeLength_45 : decode prog_27_method_28_code 45 = .ok (.invokespecial 212, 3) := by decide +kernel
theorem d_AS_hugeLength_49 : decode prog_27_method_28_code 49 = .ok (.iload_n 2, 1) := by decide +kernel
theorem d_AS_hugeLength_50 : decode prog_27_method_28_code 50 = .ok (.ldc 200, 2) := by decide +kernel
theorem d_AS_hugeLength_52 : decode prog_27_method_28_code 52 = .ok (.if_icmp .gt 6, 3) := by decide +kernel
theorem d_AS_hugeLength_55 : decode prog_27_method_28_code 55 = .ok (.ldc 200, 2) := by decide +kernel
theorem d_AS_hugeLength_57 : decode prog_27_method_28_code 57 = .ok (.ireturn, 1) := by decide +kernel
theorem d_AS_hugeLength_58 : decode prog_27_method_28_code 58 = .ok (.iload_n 2, 1) := by decide +kernel
theorem d_AS_hugeLength_59 : decode prog_27_method_28_code 59 = .ok (.ireturn, 1) := by decide +kernel
def W_AS_hugeLength : Wl := ([], [])
def f_AS_hugeLength (p1 : Int32) (p2 : Int32) (h : Hp) : Option (Int32 × Hp) :=
  if 0 ≤ (p1 + p2) then (if (2147483639 : Int32) < (p1 + p2) then (some ((p1 + p2), h)) else (some ((2147483639 : Int32), h))) else (none)
set_option maxRecDepth 100000 in
set_option maxHeartbeats 4000000 in
theorem zf_AS_hugeLength {l : Launch} {C : Ct} {mi : Nat} {p1 : Int32} {p2 : Int32} {h h' : Hp} {v : Int32} (hf : f_AS_hugeLength p1 p2 h = some (v, h')) : Z l C mi m_AS_hugeLength 0 0 [(0, vi p1), (1, vi p2)] [] h (some (vi v)) h' := by
  unfold f_AS_hugeLength at hf
  refine z_iload_n 0 d_AS_hugeLength_0 rfl rfl ?_
  refine z_iload_n 1 d_AS_hugeLength_1 rfl rfl ?_
  refine z_iadd d_AS_hugeLength_2 ?_
  refine z_istore_n (ls2 := [(2, vi (p1 + p2)), (0, vi p1), (1, vi p2)]) d_AS_hugeLength_3 rfl (by decide) rfl ?_
  refine z_iload_n 0 d_AS_hugeLength_4 rfl rfl ?_
  refine z_if_ge (tgt := 49) d_AS_hugeLength_5 (by decide) (fun c1 => ?_) (fun c1 => ?_)
  · rw [if_pos c1] at hf
    refine z_iload_n 0 d_AS_hugeLength_49 rfl rfl ?_
    refine z_ldc (v := (2147483639 : Int32)) d_AS_hugeLength_50 (by decide +kernel) ?_
    refine z_icmp_gt (tgt := 58) d_AS_hugeLength_52 (by decide) (fun c2 => ?_) (fun c2 => ?_)
    · rw [if_pos c2] at hf
      refine z_iload_n 0 d_AS_hugeLength_58 rfl rfl ?_
      obtain ⟨rfl, rfl⟩ := Prod.mk.inj (Option.some.inj hf)
      exact z_ret d_AS_hugeLength_59 rfl
    · rw [if_neg c2] at hf
      refine z_ldc (v := (2147483639 : Int32)) d_AS_hugeLength_55 (by decide +kernel) ?_
      obtain ⟨rfl, rfl⟩ := Prod.mk.inj (Option.some.inj hf)
      exact z_ret d_AS_hugeLength_57 rfl
  · rw [if_neg c1] at hf
    cases hf
set_option maxRecDepth 100000 in
set_option maxHeartbeats 4000000 in
theorem fr_AS_hugeLength {C : Ct} {mi : Nat} {p1 : Int32} {p2 : Int32} {h h' : Hp} {v : Int32} (hf : f_AS_hugeLength p1 p2 h = some (v, h')) : Keep W_AS_hugeLength h h' := by
  unfold f_AS_hugeLength at hf
  rcases Classical.em (0 ≤ (p1 + p2)) with c1 | c1
  · rw [if_pos c1] at hf
    rcases Classical.em ((2147483639 : Int32) < (p1 + p2)) with c2 | c2
    · rw [if_pos c2] at hf
      obtain ⟨rfl, rfl⟩ := Prod.mk.inj (Option.some.inj hf)
      exact (Keep.refl W_AS_hugeLength _)
    · rw [if_neg c2] at hf
      obtain ⟨rfl, rfl⟩ := Prod.mk.inj (Option.some.inj hf)
      exact (Keep.refl W_AS_hugeLength _)
  · rw [if_neg c1] at hf
    cases hf
theorem c_AS_hugeLength {l : Launch} {C : Ct} {mi : Nat} {p1 : Int32} {p2 : Int32} {h h' : Hp} {v : Int32} (hf : f_AS_hugeLength p1 p2 h = some (v, h')) : Mt l C mi m_AS_hugeLength 0 [vi p1, vi p2] h (some (vi v)) h' := mt_I (ty := .int) rfl rfl rfl (by decide) (Nat.le_of_ble_eq_true rfl) (zf_AS_hugeLength hf)
-- jdk/internal/util/ArraysSupport.newLength(III)I
def m_AS_newLength : Mi := (⟨"jdk/internal/util/ArraysSupport", "newLength", "(III)I"⟩, prog_27_method_27_code, 4, (Option.some Jvm.ClassFile.FieldType.int), .ireturn)
theorem cw_AS_newLength : cw_ok m_AS_newLength 3 := ⟨by decide +kernel, by decide +kernel, by decide +kernel, by decide +kernel⟩
theorem d_AS_newLength_0 : decode prog_27_method_27_code 0 = .ok (.iload_n 0, 1) := by decide +kernel
theorem d_AS_newLength_1 : decode prog_27_method_27_code 1 = .ok (.iload_n 1, 1) := by decide +kernel
theorem d_AS_newLength_2 : decode prog_27_method_27_code 2 = .ok (.iload_n 2, 1) := by decide +kernel
theorem d_AS_newLength_3 : decode prog_27_method_27_code 3 = .ok (.invokestatic 194, 3) := by decide +kernel
theorem d_AS_newLength_6 : decode prog_27_method_27_code 6 = .ok (.iadd, 1) := by decide +kernel
theorem d_AS_newLength_7 : decode prog_27_method_27_code 7 = .ok (.istore_n 3, 1) := by decide +kernel
theorem d_AS_newLength_8 : decode prog_27_method_27_code 8 = .ok (.iconst 0, 1) := by decide +kernel
theorem d_AS_newLength_9 : decode prog_27_method_27_code 9 = .ok (.iload_n 3, 1) := by decide +kernel
theorem d_AS_newLength_10 : decode prog_27_method_27_code 10 = .ok (.if_icmp .ge 11, 3) := by decide +kernel
theorem d_AS_newLength_13 : decode prog_27_method_27_code 13 = .ok (.iload_n 3, 1) := by decide +kernel
theorem d_AS_newLength_14 : decode prog_27_method_27_code 14 = .ok (.ldc 200, 2) := by decide +kernel
theorem d_AS_newLength_16 : decode prog_27_method_27_code 16 = .ok (.if_icmp .gt 5, 3) := by decide +kernel
theorem d_AS_newLength_19 : decode prog_27_method_27_code 19 = .ok (.iload_n 3, 1) := by decide +kernel
theorem d_AS_newLength_20 : decode prog_27_method_27_code 20 = .ok (.ireturn, 1) := by decide +kernel
theorem d_AS_newLength_21 : decode prog_27_method_27_code 21 = .ok (.iload_n 0, 1) := by decide +kernel
theorem d_AS_newLength_22 : decode prog_27_method_27_code 22 = .ok (.iload_n 1, 1) := by decide +kernel
theorem d_AS_newLength_23 : decode prog_27_method_27_code 23 = .ok (.invokestatic 201, 3) := by decide +kernel
theorem d_AS_newLength_26 : decode prog_27_method_27_code 26 = .ok (.ireturn, 1) := by decide +kernel
def W_AS_newLength : Wl := ([], [])
def j_AS_newLength_21_M (y0 : Int32) (y1 : Int32) (h : Hp) : Option (Int32 × Hp) :=
  cl (f_AS_hugeLength y0 y1 h) fun v4 h2 => some (v4, h2)
set_option maxRecDepth 100000 in
set_option maxHeartbeats 4000000 in
theorem zj_AS_newLength_21_M {l : Launch} {C : Ct} {mi : Nat} {y0 : Int32} {y1 : Int32} {h h' : Hp} {v : Int32} (hf : j_AS_newLength_21_M y0 y1 h = some (v, h')) : Z l C mi m_AS_newLength 1 21 [(0, vi y0), (1, vi y1)] [] h (some (vi v)) h' := by
  unfold j_AS_newLength_21_M at hf
  refine z_iload_n 0 d_AS_newLength_21 rfl rfl ?_
  refine z_iload_n 1 d_AS_newLength_22 rfl rfl ?_
  obtain ⟨v4, h2, ec3, hf⟩ := cl_some hf
  refine z_callS (c_AS_hugeLength ec3) d_AS_newLength_23 cw_AS_hugeLength lk_AS_201 (by decide +kernel) ⟨by decide, by decide⟩ (Nat.le_of_ble_eq_true rfl) rfl ?_
  obtain ⟨rfl, rfl⟩ := Prod.mk.inj (Option.some.inj hf)
  exact z_ret d_AS_newLength_26 rfl
set_option maxRecDepth 100000 in
set_option maxHeartbeats 4000000 in
theorem kj_AS_newLength_21_M {C : Ct} {mi : Nat} {y0 : Int32} {y1 : Int32} {h h' : Hp} {v : Int32} (hf : j_AS_newLength_21_M y0 y1 h = some (v, h')) : Keep W_AS_newLength h h' := by
  unfold j_AS_newLength_21_M at hf
  obtain ⟨v4, h2, ec3, hf⟩ := cl_some hf
  have K5 := (Keep.refl W_AS_newLength _).trans ((fr_AS_hugeLength (C := C) (mi := mi) ec3).mono (by decide) (by decide))
  obtain ⟨rfl, rfl⟩ := Prod.mk.inj (Option.some.inj hf)
  exact K5
def f_AS_newLength (p1 : Int32) (p2 : Int32) (p3 : Int32) (h : Hp) : Option (Int32 × Hp) :=
  if (p1 + (if p2 < p3 then p3 else p2)) ≤ (0 : Int32) then (j_AS_newLength_21_M p1 p2 h) else (if (2147483639 : Int32) < (p1 + (if p2 < p3 then p3 else p2)) then (j_AS_newLength_21_M p1 p2 h) else (some ((p1 + (if p2 < p3 then p3 else p2)), h)))
set_option maxRecDepth 100000 in
set_option maxHeartbeats 4000000 in
theorem zf_AS_newLength {l : Launch} {C : Ct} {mi : Nat} {p1 : Int32} {p2 : Int32} {p3 : Int32} {h h' : Hp} {v : Int32} (hf : f_AS_newLength p1 p2 p3 h = some (v, h')) : Z l C mi m_AS_newLength 1 0 [(0, vi p1), (1, vi p2), (2, vi p3)] [] h (some (vi v)) h' := by
  unfold f_AS_newLength at hf
  refine z_iload_n 0 d_AS_newLength_0 rfl rfl ?_
  refine z_iload_n 1 d_AS_newLength_1 rfl rfl ?_
  refine z_iload_n 2 d_AS_newLength_2 rfl rfl ?_
  refine z_mmax d_AS_newLength_3 (by decide +kernel) (by decide) (Nat.le_of_ble_eq_true rfl) ?_
  refine z_iadd d_AS_newLength_6 ?_
  refine z_istore_n (ls2 := [(3, vi (p1 + (if p2 < p3 then p3 else p2))), (0, vi p1), (1, vi p2), (2, vi p3)]) d_AS_newLength_7 rfl (by decide) rfl ?_
  refine z_iconst (v := (0 : Int32)) d_AS_newLength_8 rfl ?_
  refine z_iload_n 0 d_AS_newLength_9 rfl rfl ?_
  refine z_icmp_ge (tgt := 21) d_AS_newLength_10 (by decide) (fun c1 => ?_) (fun c1 => ?_)
  · rw [if_pos c1] at hf
    refine z_ls [1, 2] rfl ?_
    exact zj_AS_newLength_21_M hf
  · rw [if_neg c1] at hf
    refine z_iload_n 0 d_AS_newLength_13 rfl rfl ?_
    refine z_ldc (v := (2147483639 : Int32)) d_AS_newLength_14 (by decide +kernel) ?_
    refine z_icmp_gt (tgt := 21) d_AS_newLength_16 (by decide) (fun c6 => ?_) (fun c6 => ?_)
    · rw [if_pos c6] at hf
      refine z_ls [1, 2] rfl ?_
      exact zj_AS_newLength_21_M hf
    · rw [if_neg c6] at hf
      refine z_iload_n 0 d_AS_newLength_19 rfl rfl ?_
      obtain ⟨rfl, rfl⟩ := Prod.mk.inj (Option.some.inj hf)
      exact z_ret d_AS_newLength_20 rfl
set_option maxRecDepth 100000 in
set_option maxHeartbeats 4000000 in
theorem fr_AS_newLength {C : Ct} {mi : Nat} {p1 : Int32} {p2 : Int32} {p3 : Int32} {h h' : Hp} {v : Int32} (hf : f_AS_newLength p1 p2 p3 h = some (v, h')) : Keep W_AS_newLength h h' := by
  unfold f_AS_newLength at hf
  rcases Classical.em ((p1 + (if p2 < p3 then p3 else p2)) ≤ (0 : Int32)) with c1 | c1
  · rw [if_pos c1] at hf
    exact (Keep.refl W_AS_newLength _).trans (kj_AS_newLength_21_M (C := C) (mi := mi) hf)
  · rw [if_neg c1] at hf
    rcases Classical.em ((2147483639 : Int32) < (p1 + (if p2 < p3 then p3 else p2))) with c6 | c6
    · rw [if_pos c6] at hf
      exact (Keep.refl W_AS_newLength _).trans (kj_AS_newLength_21_M (C := C) (mi := mi) hf)
    · rw [if_neg c6] at hf
      obtain ⟨rfl, rfl⟩ := Prod.mk.inj (Option.some.inj hf)
      exact (Keep.refl W_AS_newLength _)
theorem c_AS_newLength {l : Launch} {C : Ct} {mi : Nat} {p1 : Int32} {p2 : Int32} {p3 : Int32} {h h' : Hp} {v : Int32} (hf : f_AS_newLength p1 p2 p3 h = some (v, h')) : Mt l C mi m_AS_newLength 1 [vi p1, vi p2, vi p3] h (some (vi v)) h' := mt_I (ty := .int) rfl rfl rfl (by decide) (Nat.le_of_ble_eq_true rfl) (zf_AS_newLength hf)
-- java/util/Arrays.copyOf([Ljava/lang/Object;ILjava/lang/Class;)[Ljava/lang/Object;
def m_Ar_copyOf2 : Mi := (⟨"java/util/Arrays", "copyOf", "([Ljava/lang/Object;ILjava/lang/Class;)[Ljava/lang/Object;"⟩, prog_21_method_120_code, 4, (Option.some (Jvm.ClassFile.FieldType.array (Jvm.ClassFile.FieldType.object "java/lang/Object"))), .areturn)
theorem cw_Ar_copyOf2 : cw_ok m_Ar_copyOf2 3 := ⟨by decide +kernel, by decide +kernel, by decide +kernel, by decide +kernel⟩
theorem d_Ar_copyOf2_0 : decode prog_21_method_120_code 0 = .ok (.aload_n 2, 1) := by decide +kernel
theorem d_Ar_copyOf2_1 : decode prog_21_method_120_code 1 = .ok (.ldc 110, 2) := by decide +kernel
theorem d_Ar_copyOf2_3 : decode prog_21_method_120_code 3 = .ok (.if_acmp .ne 10, 3) := by decide +kernel
theorem d_Ar_copyOf2_6 : decode prog_21_method_120_code 6 = .ok (.iload_n 1, 1) := by decide +kernel
theorem d_Ar_copyOf2_7 : decode prog_21_method_120_code 7 = .ok (.anewarray 2, 3) := by decide +kernel
theorem d_Ar_copyOf2_10 : decode prog_21_method_120_code 10 = .ok (.goto 14, 3) := by decide +kernel
theorem d_Ar_copyOf2_13 : decode prog_21_method_120_code 13 = .ok (.aload_n 2, 1) := by decide +kernel
theorem d_Ar_copyOf2_14 : decode prog_21_method_120_code 14 = .ok (.invokevirtual 90, 3) := by decide +kernel
theorem d_Ar_copyOf2_17 : decode prog_21_method_120_code 17 = .ok (.iload_n 1, 1) := by decide +kernel
theorem d_Ar_copyOf2_18 : decode prog_21_method_120_code 18 = .ok (.invokestatic 95, 3) := by decide +kernel
theorem d_Ar_copyOf2_21 : decode prog_21_method_120_code 21 = .ok (.checkcast 110, 3) := by decide +kernel
theorem d_Ar_copyOf2_24 : decode prog_21_method_120_code 24 = .ok (.astore_n 3, 1) := by decide +kernel
theorem d_Ar_copyOf2_25 : decode prog_21_method_120_code 25 = .ok (.aload_n 0, 1) := by decide +kernel
theorem d_Ar_copyOf2_26 : decode prog_21_method_120_code 26 = .ok (.iconst 0, 1) := by decide +kernel
theorem d_Ar_copyOf2_27 : decode prog_21_method_120_code 27 = .ok (.aload_n 3, 1) := by decide +kernel
theorem d_Ar_copyOf2_28 : decode prog_21_method_120_code 28 = .ok (.iconst 0, 1) := by decide +kernel
theorem d_Ar_copyOf2_29 : decode prog_21_method_120_code 29 = .ok (.aload_n 0, 1) := by decide +kernel
theorem d_Ar_copyOf2_30 : decode prog_21_method_120_code 30 = .ok (.arraylength, 1) := by decide +kernel
theorem d_Ar_copyOf2_31 : decode prog_21_method_120_code 31 = .ok (.iload_n 1, 1) := by decide +kernel
theorem d_Ar_copyOf2_32 : decode prog_21_method_120_code 32 = .ok (.invokestatic 304, 3) := by decide +kernel
theorem d_Ar_copyOf2_35 : decode prog_21_method_120_code 35 = .ok (.invokestatic 150, 3) := by decide +kernel
theorem d_Ar_copyOf2_38 : decode prog_21_method_120_code 38 = .ok (.aload_n 3, 1) := by decide +kernel
theorem d_Ar_copyOf2_39 : decode prog_21_method_120_code 39 = .ok (.areturn, 1) := by decide +kernel
def W_Ar_copyOf2 : Wl := ([], [73, 74])
def j_Ar_copyOf2_24_M (E : Nat × Nat) (y0 : Option Nat) (y1 : Int32) (w0 : Nat) (h : Hp) : Option (Option Nat × Hp) :=
  dr y0 fun a6 => gd (isA h a6 6) (gd (isO h a6 6) (gd (isO h w0 6) (gd (cpB h a6 w0 (0 : Int32) (0 : Int32) (if y1 < (Int32.ofNat (hpL h a6)) then y1 else (Int32.ofNat (hpL h a6)))) (gd (cpE h a6 (0 : Int32) (if y1 < (Int32.ofNat (hpL h a6)) then y1 else (Int32.ofNat (hpL h a6)))) (nm (cpR h a6 (0 : Int32).toNatClampNeg w0 (0 : Int32).toNatClampNeg (if y1 < (Int32.ofNat (hpL h a6)) then y1 else (Int32.ofNat (hpL h a6))).toNatClampNeg) fun h13 => some ((some w0), h13))))))
set_option maxRecDepth 100000 in
set_option maxHeartbeats 4000000 in
theorem zj_Ar_copyOf2_24_M {l : Launch} {C : Ct} {mi : Nat} {y0 : Option Nat} {y1 : Int32} {w0 : Nat} {h h' : Hp} {v : Option Nat} (hf : j_Ar_copyOf2_24_M (cE C, mi) y0 y1 w0 h = some (v, h')) : Z l C mi m_Ar_copyOf2 1 24 [(0, vr y0), (1, vi y1)] [vr (some w0)] h (some (vr v)) h' := by
  unfold j_Ar_copyOf2_24_M at hf
  refine z_astore_n (ls2 := [(3, vr (some w0)), (0, vr y0), (1, vi y1)]) d_Ar_copyOf2_24 rfl (by decide) rfl ?_
  refine z_aload_n 1 d_Ar_copyOf2_25 rfl rfl ?_
  refine z_iconst (v := (0 : Int32)) d_Ar_copyOf2_26 rfl ?_
  refine z_aload_n 0 d_Ar_copyOf2_27 rfl rfl ?_
  refine z_iconst (v := (0 : Int32)) d_Ar_copyOf2_28 rfl ?_
  refine z_aload_n 1 d_Ar_copyOf2_29 rfl rfl ?_
  obtain ⟨a6, e7, hf⟩ := dr_some hf
  obtain ⟨g8, hf⟩ := gd_some hf
  refine z_alen d_Ar_copyOf2_30 e7 (isA_eq g8).1 ?_
  refine z_iload_n 2 d_Ar_copyOf2_31 rfl rfl ?_
  refine z_mmin d_Ar_copyOf2_32 (by decide +kernel) (by decide) (Nat.le_of_ble_eq_true rfl) ?_
  obtain ⟨g9, hf⟩ := gd_some hf
  obtain ⟨g10, hf⟩ := gd_some hf
  obtain ⟨g11, hf⟩ := gd_some hf
  obtain ⟨g12, hf⟩ := gd_some hf
  obtain ⟨h13, eh14, hf⟩ := nm_some hf
  refine z_copyR d_Ar_copyOf2_35 (show Cond.methodLink _ _ _ ∈ lw_w by decide +kernel) (by decide) (Nat.le_of_ble_eq_true rfl) e7 rfl (isO_eq g9).1 (isO_eq g9).2 (isO_eq g10).1 (isO_eq g10).2 (cpB_eq g11).1 (cpB_eq g11).2.1 (cpB_eq g11).2.2.1 (cpB_eq g11).2.2.2.1 (cpB_eq g11).2.2.2.2 (cpE_ok g12) ?_
  refine z_hp eh14 ?_
  refine z_aload_n 0 d_Ar_copyOf2_38 rfl rfl ?_
  obtain ⟨rfl, rfl⟩ := Prod.mk.inj (Option.some.inj hf)
  exact z_ret d_Ar_copyOf2_39 rfl
set_option maxRecDepth 100000 in
set_option maxHeartbeats 4000000 in
theorem kj_Ar_copyOf2_24_M {C : Ct} {mi : Nat} {y0 : Option Nat} {y1 : Int32} {w0 : Nat} {h h' : Hp} {v : Option Nat} (hf : j_Ar_copyOf2_24_M (cE C, mi) y0 y1 w0 h = some (v, h')) : Keep W_Ar_copyOf2 h h' := by
  unfold j_Ar_copyOf2_24_M at hf
  obtain ⟨a6, e7, hf⟩ := dr_some hf
  obtain ⟨g8, hf⟩ := gd_some hf
  obtain ⟨g9, hf⟩ := gd_some hf
  obtain ⟨g10, hf⟩ := gd_some hf
  obtain ⟨g11, hf⟩ := gd_some hf
  obtain ⟨g12, hf⟩ := gd_some hf
  obtain ⟨h13, eh14, hf⟩ := nm_some hf
  have K15 := (Keep.refl W_Ar_copyOf2 _).trans (kw_cO eh14 g10 (by decide) (by decide))
  obtain ⟨rfl, rfl⟩ := Prod.mk.inj (Option.some.inj hf)
  exact K15
def f_Ar_copyOf2 (E : Nat × Nat) (p1 : Option Nat) (p2 : Int32) (p3 : Option Nat) (h : Hp) : Option (Option Nat × Hp) :=
  if p3 = (some E.2) then (gd (lnB p2) (nm (nw h 73 p2.toNatClampNeg p2.toNatClampNeg) fun h3 => j_Ar_copyOf2_24_M E p1 p2 (hpN h) h3)) else (none)
set_option maxRecDepth 100000 in
set_option maxHeartbeats 4000000 in
theorem zf_Ar_copyOf2 {l : Launch} {C : Ct} {mi : Nat} {p1 : Option Nat} {p2 : Int32} {p3 : Option Nat} {h h' : Hp} {v : Option Nat} (hf : f_Ar_copyOf2 (cE C, mi) p1 p2 p3 h = some (v, h')) : Z l C mi m_Ar_copyOf2 1 0 [(0, vr p1), (1, vi p2), (2, vr p3)] [] h (some (vr v)) h' := by
  unfold f_Ar_copyOf2 at hf
  refine z_aload_n 2 d_Ar_copyOf2_0 rfl rfl ?_
  refine z_ldcM d_Ar_copyOf2_1 (by decide +kernel) ?_
  refine z_acmp_ne (tgt := 13) d_Ar_copyOf2_3 (by decide) (fun c1 => ?_) (fun c1 => ?_)
  · rw [if_neg c1] at hf
    refine z_aload_n 2 d_Ar_copyOf2_13 rfl rfl ?_
    cases hf
  · rw [if_pos c1] at hf
    refine z_iload_n 1 d_Ar_copyOf2_6 rfl rfl ?_
    obtain ⟨g2, hf⟩ := gd_some hf
    obtain ⟨h3, eh4, hf⟩ := nm_some hf
    refine z_newR (N := p2.toNatClampNeg) (κ := 73) (t := 6) d_Ar_copyOf2_7 (by decide +kernel) (by decide +kernel) (by decide) (by decide) rfl (lnB_eq g2).1 rfl (lnB_eq g2).2 ?_
    refine z_hp eh4 ?_
    refine z_goto (tgt := 24) d_Ar_copyOf2_10 (by decide) ?_
    refine z_ls [0, 1] rfl ?_
    exact zj_Ar_copyOf2_24_M hf
set_option maxRecDepth 100000 in
set_option maxHeartbeats 4000000 in
theorem fr_Ar_copyOf2 {C : Ct} {mi : Nat} {p1 : Option Nat} {p2 : Int32} {p3 : Option Nat} {h h' : Hp} {v : Option Nat} (hf : f_Ar_copyOf2 (cE C, mi) p1 p2 p3 h = some (v, h')) : Keep W_Ar_copyOf2 h h' := by
  unfold f_Ar_copyOf2 at hf
  rcases (Classical.em (p3 = (some mi))).symm with c1 | c1
  · rw [if_neg c1] at hf
    cases hf
  · rw [if_pos c1] at hf
    obtain ⟨g2, hf⟩ := gd_some hf
    obtain ⟨h3, eh4, hf⟩ := nm_some hf
    have K5 := (Keep.refl W_Ar_copyOf2 _).trans (kw_N eh4)
    exact K5.trans (kj_Ar_copyOf2_24_M (C := C) (mi := mi) hf)
theorem c_Ar_copyOf2 {l : Launch} {C : Ct} {mi : Nat} {p1 : Option Nat} {p2 : Int32} {p3 : Option Nat} {h h' : Hp} {v : Option Nat} (hf : f_Ar_copyOf2 (cE C, mi) p1 p2 p3 h = some (v, h')) : Mt l C mi m_Ar_copyOf2 1 [vr p1, vi p2, vr p3] h (some (vr v)) h' := mt_R rfl (Or.inr ⟨_, rfl⟩) rfl (by decide) (Nat.le_of_ble_eq_true rfl) (zf_Ar_copyOf2 hf)
-- java/util/Arrays.copyOf([Ljava/lang/Object;I)[Ljava/lang/Object;
def m_Ar_copyOf1 : Mi := (⟨"java/util/Arrays", "copyOf", "([Ljava/lang/Object;I)[Ljava/lang/Object;"⟩, prog_21_method_119_code, 2, (Option.some (Jvm.ClassFile.FieldType.array (Jvm.ClassFile.FieldType.object "java/lang/Object"))), .areturn)
theorem cw_Ar_copyOf1 : cw_ok m_Ar_copyOf1 2 := ⟨by decide +kernel, by decide +kernel, by decide +kernel, by decide +kernel⟩
theorem d_Ar_copyOf1_0 : decode prog_21_method_119_code 0 = .ok (.aload_n 0, 1) := by decide +kernel
theorem d_Ar_copyOf1_1 : decode prog_21_method_119_code 1 = .ok (.iload_n 1, 1) := by decide +kernel
theorem d_Ar_copyOf1_2 : decode prog_21_method_119_code 2 = .ok (.aload_n 0, 1) := by decide +kernel
theorem d_Ar_copyOf1_3 : decode prog_21_method_119_code 3 = .ok (.invokevirtual 86, 3) := by decide +kernel
theorem d_Ar_copyOf1_6 : decode prog_21_method_119_code 6 = .ok (.invokestatic 300, 3) := by decide +kernel
theorem d_Ar_copyOf1_9 : decode prog_21_method_119_code 9 = .ok (.areturn, 1) := by decide +kernel
def W_Ar_copyOf1 : Wl := ([], [73, 74])
def f_Ar_copyOf1 (E : Nat × Nat) (p1 : Option Nat) (p2 : Int32) (h : Hp) : Option (Option Nat × Hp) :=
  dr p1 fun a1 => gd (isO h a1 6) (cl (f_Ar_copyOf2 E p1 p2 (some E.2) h) fun v6 h4 => some (v6, h4))
set_option maxRecDepth 100000 in
set_option maxHeartbeats 4000000 in
theorem zf_Ar_copyOf1 {l : Launch} {C : Ct} {mi : Nat} {p1 : Option Nat} {p2 : Int32} {h h' : Hp} {v : Option Nat} (hf : f_Ar_copyOf1 (cE C, mi) p1 p2 h = some (v, h')) : Z l C mi m_Ar_copyOf1 2 0 [(0, vr p1), (1, vi p2)] [] h (some (vr v)) h' := by
  unfold f_Ar_copyOf1 at hf
  refine z_aload_n 0 d_Ar_copyOf1_0 rfl rfl ?_
  refine z_iload_n 1 d_Ar_copyOf1_1 rfl rfl ?_
  refine z_aload_n 0 d_Ar_copyOf1_2 rfl rfl ?_
  obtain ⟨a1, e2, hf⟩ := dr_some hf
  obtain ⟨g3, hf⟩ := gd_some hf
  refine z_getC d_Ar_copyOf1_3 (by decide +kernel) (by decide +kernel) e2 (isO_eq g3).1 (isO_eq g3).2 (by decide) (Nat.le_of_ble_eq_true rfl) ?_
  obtain ⟨v6, h4, ec5, hf⟩ := cl_some hf
  refine z_callS (c_Ar_copyOf2 ec5) d_Ar_copyOf1_6 cw_Ar_copyOf2 lk_Ar_300 (by decide +kernel) ⟨by decide, by decide⟩ (Nat.le_of_ble_eq_true rfl) rfl ?_
  obtain ⟨rfl, rfl⟩ := Prod.mk.inj (Option.some.inj hf)
  exact z_ret d_Ar_copyOf1_9 rfl
set_option maxRecDepth 100000 in
set_option maxHeartbeats 4000000 in
theorem fr_Ar_copyOf1 {C : Ct} {mi : Nat} {p1 : Option Nat} {p2 : Int32} {h h' : Hp} {v : Option Nat} (hf : f_Ar_copyOf1 (cE C, mi) p1 p2 h = some (v, h')) : Keep W_Ar_copyOf1 h h' := by
  unfold f_Ar_copyOf1 at hf
  obtain ⟨a1, e2, hf⟩ := dr_some hf
  obtain ⟨g3, hf⟩ := gd_some hf
  obtain ⟨v6, h4, ec5, hf⟩ := cl_some hf
  have K7 := (Keep.refl W_Ar_copyOf1 _).trans ((fr_Ar_copyOf2 (C := C) (mi := mi) ec5).mono (by decide) (by decide))
  obtain ⟨rfl, rfl⟩ := Prod.mk.inj (Option.some.inj hf)
  exact K7
theorem c_Ar_copyOf1 {l : Launch} {C : Ct} {mi : Nat} {p1 : Option Nat} {p2 : Int32} {h h' : Hp} {v : Option Nat} (hf : f_Ar_copyOf1 (cE C, mi) p1 p2 h = some (v, h')) : Mt l C mi m_Ar_copyOf1 2 [vr p1, vi p2] h (some (vr v)) h' := mt_R rfl (Or.inr ⟨_, rfl⟩) rfl (by decide) (Nat.le_of_ble_eq_true rfl) (zf_Ar_copyOf1 hf)
-- java/util/ArrayList.grow(I)[Ljava/lang/Object;
def m_A_grow2 : Mi := (⟨"java/util/ArrayList", "grow", "(I)[Ljava/lang/Object;"⟩, prog_20_method_6_code, 4, (Option.some (Jvm.ClassFile.FieldType.array (Jvm.ClassFile.FieldType.object "java/lang/Object"))), .areturn)
theorem cw_A_grow2 : cw_ok m_A_grow2 1 := ⟨by decide +kernel, by decide +kernel, by decide +kernel, by decide +kernel⟩
theorem im_A_grow2 : Cond.instanceMethod m_A_grow2.1 ∈ lw_w := by decide +kernel
theorem se_A_grow2 : Cond.selects "java/util/ArrayList" m_A_grow2.1 m_A_grow2.1 ∈ lw_w := by decide +kernel
theorem d_A_grow2_0 : decode prog_20_method_6_code 0 = .ok (.aload_n 0, 1) := by decide +kernel
theorem d_A_grow2_1 : decode prog_20_method_6_code 1 = .ok (.getfield 9, 3) := by decide +kernel
theorem d_A_grow2_4 : decode prog_20_method_6_code 4 = .ok (.arraylength, 1) := by decide +kernel
theorem d_A_grow2_5 : decode prog_20_method_6_code 5 = .ok (.istore_n 2, 1) := by decide +kernel
theorem d_A_grow2_6 : decode prog_20_method_6_code 6 = .ok (.iload_n 2, 1) := by decide +kernel
theorem d_A_grow2_7 : decode prog_20_method_6_code 7 = .ok (.ifCond .gt 13, 3) := by decide +kernel
theorem d_A_grow2_10 : decode prog_20_method_6_code 10 = .ok (.aload_n 0, 1) := by decide +kernel
theorem d_A_grow2_11 : decode prog_20_method_6_code 11 = .ok (.getfield 9, 3) := by decide +kernel
theorem d_A_grow2_14 : decode prog_20_method_6_code 14 = .ok (.getstatic 39, 3) := by decide +kernel
theorem d_A_grow2_17 : decode prog_20_method_6_code 17 = .ok (.if_acmp .eq 28, 3) := by decide +kernel
theorem d_A_grow2_20 : decode prog_20_method_6_code 20 = .ok (.iload_n 2, 1) := by decide +kernel
theorem d_A_grow2_21 : decode prog_20_method_6_code 21 = .ok (.iload_n 1, 1) := by decide +kernel
theorem d_A_grow2_22 : decode prog_20_method_6_code 22 = .ok (.iload_n 2, 1) := by decide +kernel
theorem d_A_grow2_23 : decode prog_20_method_6_code 23 = .ok (.isub, 1) := by decide +kernel
theorem d_A_grow2_24 : decode prog_20_method_6_code 24 = .ok (.iload_n 2, 1) := by decide +kernel
theorem d_A_grow2_25 : decode prog_20_method_6_code 25 = .ok (.iconst 1, 1) := by decide +kernel
theorem d_A_grow2_26 : decode prog_20_method_6_code 26 = .ok (.ishr, 1) := by decide +kernel
theorem d_A_grow2_27 : decode prog_20_method_6_code 27 = .ok (.invokestatic 73, 3) := by decide +kernel
theorem d_A_grow2_30 : decode prog_20_method_6_code 30 = .ok (.istore_n 3, 1) := by decide +kernel
theorem d_A_grow2_31 : decode prog_20_method_6_code 31 = .ok (.aload_n 0, 1) := by decide +kernel
theorem d_A_grow2_32 : decode prog_20_method_6_code 32 = .ok (.aload_n 0, 1) := by decide +kernel
theorem d_A_grow2_33 : decode prog_20_method_6_code 33 = .ok (.getfield 9, 3) := by decide +kernel
theorem d_A_grow2_36 : decode prog_20_method_6_code 36 = .ok (.iload_n 3, 1) := by decide +kernel
theorem d_A_grow2_37 : decode prog_20_method_6_code 37 = .ok (.invokestatic 66, 3) := by decide +kernel
theorem d_A_grow2_40 : decode prog_20_method_6_code 40 = .ok (.dup_x1, 1) := by decide +kernel
theorem d_A_grow2_41 : decode prog_20_method_6_code 41 = .ok (.putfield 9, 3) := by decide +kernel
theorem d_A_grow2_44 : decode prog_20_method_6_code 44 = .ok (.areturn, 1) := by decide +kernel
theorem d_A_grow2_45 : decode prog_20_method_6_code 45 = .ok (.aload_n 0, 1) := by decide +kernel
theorem d_A_grow2_46 : decode prog_20_method_6_code 46 = .ok (.bipush 10, 2) := by decide +kernel
theorem d_A_grow2_48 : decode prog_20_method_6_code 48 = .ok (.iload_n 1, 1) := by decide +kernel
theorem d_A_grow2_49 : decode prog_20_method_6_code 49 = .ok (.invokestatic 79, 3) := by decide +kernel
theorem d_A_grow2_52 : decode prog_20_method_6_code 52 = .ok (.anewarray 7, 3) := by decide +kernel
theorem d_A_grow2_55 : decode prog_20_method_6_code 55 = .ok (.dup_x1, 1) := by decide +kernel
theorem d_A_grow2_56 : decode prog_20_method_6_code 56 = .ok (.putfield 9, 3) := by decide +kernel
theorem d_A_grow2_59 : decode prog_20_method_6_code 59 = .ok (.areturn, 1) := by decide +kernel
def W_A_grow2 : Wl := ([(9, 0)], [73, 74])
def j_A_grow2_20_M (E : Nat × Nat) (y0 : Nat) (y1 : Int32) (y2 : Int32) (h : Hp) : Option (Option Nat × Hp) :=
  cl (f_AS_newLength y2 (y1 - y2) (y2 >>> ((1 : Int32) &&& 31)) h) fun v8 h6 => gd (isK h6 y0 9) (cl (f_Ar_copyOf1 E (hpR h6 y0 0) v8 h6) fun v13 h11 => gd (isK h11 y0 9) (nm (wR h11 y0 0 v13) fun h16 => some (v13, h16)))
set_option maxRecDepth 100000 in
set_option maxHeartbeats 4000000 in
theorem zj_A_grow2_20_M {l : Launch} {C : Ct} {mi : Nat} {y0 : Nat} {y1 : Int32} {y2 : Int32} {h h' : Hp} {v : Option Nat} (hf : j_A_grow2_20_M (cE C, mi) y0 y1 y2 h = some (v, h')) : Z l C mi m_A_grow2 3 20 [(0, vr (some y0)), (1, vi y1), (2, vi y2)] [] h (some (vr v)) h' := by
  unfold j_A_grow2_20_M at hf
  refine z_iload_n 2 d_A_grow2_20 rfl rfl ?_
  refine z_iload_n 1 d_A_grow2_21 rfl rfl ?_
  refine z_iload_n 2 d_A_grow2_22 rfl rfl ?_
  refine z_isub d_A_grow2_23 ?_
  refine z_iload_n 2 d_A_grow2_24 rfl rfl ?_
  refine z_iconst (v := (1 : Int32)) d_A_grow2_25 rfl ?_
  refine z_ishr d_A_grow2_26 ?_
  obtain ⟨v8, h6, ec7, hf⟩ := cl_some hf
  refine z_callS (c_AS_newLength ec7) d_A_grow2_27 cw_AS_newLength lk_A_73 (by decide +kernel) ⟨by decide, by decide⟩ (Nat.le_of_ble_eq_true rfl) rfl ?_
  refine z_istore_n (ls2 := [(3, vi v8), (0, vr (some y0)), (1, vi y1), (2, vi y2)]) d_A_grow2_30 rfl (by decide) rfl ?_
  refine z_aload_n 1 d_A_grow2_31 rfl rfl ?_
  refine z_aload_n 1 d_A_grow2_32 rfl rfl ?_
  obtain ⟨g10, hf⟩ := gd_some hf
  refine z_getR d_A_grow2_33 (fl_K (isK_eq g10) fl_A_9_9) (fi_K (isK_eq g10) rfl) rfl ?_
  refine z_iload_n 0 d_A_grow2_36 rfl rfl ?_
  obtain ⟨v13, h11, ec12, hf⟩ := cl_some hf
  refine z_callS (c_Ar_copyOf1 ec12) d_A_grow2_37 cw_Ar_copyOf1 lk_A_66 (by decide +kernel) ⟨by decide, by decide⟩ (Nat.le_of_ble_eq_true rfl) rfl ?_
  refine z_dup_x1 d_A_grow2_40 rfl rfl ?_
  obtain ⟨g15, hf⟩ := gd_some hf
  obtain ⟨h16, eh17, hf⟩ := nm_some hf
  refine z_putR d_A_grow2_41 (fl_K (isK_eq g15) fl_A_9_9) (pu_K (isK_eq g15) (fun q hq => by cases (Option.some.inj hq); exact Or.inl rfl)) (fi_K (isK_eq g15) rfl) rfl ?_
  refine z_hp eh17 ?_
  obtain ⟨rfl, rfl⟩ := Prod.mk.inj (Option.some.inj hf)
  exact z_ret d_A_grow2_44 rfl
set_option maxRecDepth 100000 in
set_option maxHeartbeats 4000000 in
theorem kj_A_grow2_20_M {C : Ct} {mi : Nat} {y0 : Nat} {y1 : Int32} {y2 : Int32} {h h' : Hp} {v : Option Nat} (hf : j_A_grow2_20_M (cE C, mi) y0 y1 y2 h = some (v, h')) : Keep W_A_grow2 h h' := by
  unfold j_A_grow2_20_M at hf
  obtain ⟨v8, h6, ec7, hf⟩ := cl_some hf
  have K9 := (Keep.refl W_A_grow2 _).trans ((fr_AS_newLength (C := C) (mi := mi) ec7).mono (by decide) (by decide))
  obtain ⟨g10, hf⟩ := gd_some hf
  obtain ⟨v13, h11, ec12, hf⟩ := cl_some hf
  have K14 := K9.trans ((fr_Ar_copyOf1 (C := C) (mi := mi) ec12).mono (by decide) (by decide))
  obtain ⟨g15, hf⟩ := gd_some hf
  obtain ⟨h16, eh17, hf⟩ := nm_some hf
  have K18 := K14.trans (kw_R eh17 (isK_eq g15) (Or.inl (by decide)))
  obtain ⟨rfl, rfl⟩ := Prod.mk.inj (Option.some.inj hf)
  exact K18
def f_A_grow2 (E : Nat × Nat) (a0 : Nat) (p1 : Int32) (h : Hp) : Option (Option Nat × Hp) :=
  gd (isK h a0 9) (dr (hpR h a0 0) fun a2 => gd (isA h a2 6) (if 0 < (Int32.ofNat (hpL h a2)) then (j_A_grow2_20_M E a0 p1 (Int32.ofNat (hpL h a2)) h) else (if (hpR h a0 0) = (some E.1) then (gd (lnB (if (10 : Int32) < p1 then p1 else (10 : Int32))) (nm (nw h 74 (if (10 : Int32) < p1 then p1 else (10 : Int32)).toNatClampNeg (if (10 : Int32) < p1 then p1 else (10 : Int32)).toNatClampNeg) fun h21 => gd (isK h21 a0 9) (nm (wR h21 a0 0 (some (hpN h))) fun h25 => some ((some (hpN h)), h25)))) else (j_A_grow2_20_M E a0 p1 (Int32.ofNat (hpL h a2)) h))))
set_option maxRecDepth 100000 in
set_option maxHeartbeats 4000000 in
theorem zf_A_grow2 {l : Launch} {C : Ct} {mi : Nat} {a0 : Nat} {p1 : Int32} {h h' : Hp} {v : Option Nat} (hf : f_A_grow2 (cE C, mi) a0 p1 h = some (v, h')) : Z l C mi m_A_grow2 3 0 [(0, vr (some a0)), (1, vi p1)] [] h (some (vr v)) h' := by
  unfold f_A_grow2 at hf
  refine z_aload_n 0 d_A_grow2_0 rfl rfl ?_
  obtain ⟨g1, hf⟩ := gd_some hf
  refine z_getR d_A_grow2_1 (fl_K (isK_eq g1) fl_A_9_9) (fi_K (isK_eq g1) rfl) rfl ?_
  obtain ⟨a2, e3, hf⟩ := dr_some hf
  obtain ⟨g4, hf⟩ := gd_some hf
  refine z_alen d_A_grow2_4 e3 (isA_eq g4).1 ?_
  refine z_istore_n (ls2 := [(2, vi (Int32.ofNat (hpL h a2))), (0, vr (some a0)), (1, vi p1)]) d_A_grow2_5 rfl (by decide) rfl ?_
  refine z_iload_n 0 d_A_grow2_6 rfl rfl ?_
  refine z_if_gt (tgt := 20) d_A_grow2_7 (by decide) (fun c5 => ?_) (fun c5 => ?_)
  · rw [if_pos c5] at hf
    refine z_ls [1, 2, 0] rfl ?_
    exact zj_A_grow2_20_M hf
  · rw [if_neg c5] at hf
    refine z_aload_n 1 d_A_grow2_10 rfl rfl ?_
    refine z_getR d_A_grow2_11 (fl_K (isK_eq g1) fl_A_9_9) (fi_K (isK_eq g1) rfl) rfl ?_
    refine z_gets d_A_grow2_14 (by decide +kernel) ?_
    refine z_acmp_eq (tgt := 45) d_A_grow2_17 (by decide) (fun c19 => ?_) (fun c19 => ?_)
    · rw [if_pos c19] at hf
      refine z_aload_n 1 d_A_grow2_45 rfl rfl ?_
      refine z_bipush (v := (10 : Int32)) d_A_grow2_46 (by decide) ?_
      refine z_iload_n 2 d_A_grow2_48 rfl rfl ?_
      refine z_mmax d_A_grow2_49 (by decide +kernel) (by decide) (Nat.le_of_ble_eq_true rfl) ?_
      obtain ⟨g20, hf⟩ := gd_some hf
      obtain ⟨h21, eh22, hf⟩ := nm_some hf
      refine z_newR (N := (if (10 : Int32) < p1 then p1 else (10 : Int32)).toNatClampNeg) (κ := 74) (t := 6) d_A_grow2_52 (by decide +kernel) (by decide +kernel) (by decide) (by decide) rfl (lnB_eq g20).1 rfl (lnB_eq g20).2 ?_
      refine z_hp eh22 ?_
      refine z_dup_x1 d_A_grow2_55 rfl rfl ?_
      obtain ⟨g24, hf⟩ := gd_some hf
      obtain ⟨h25, eh26, hf⟩ := nm_some hf
      refine z_putR d_A_grow2_56 (fl_K (isK_eq g24) fl_A_9_9) (pu_K (isK_eq g24) (fun q hq => by cases (Option.some.inj hq); exact Or.inl rfl)) (fi_K (isK_eq g24) rfl) rfl ?_
      refine z_hp eh26 ?_
      obtain ⟨rfl, rfl⟩ := Prod.mk.inj (Option.some.inj hf)
      exact z_ret d_A_grow2_59 rfl
    · rw [if_neg c19] at hf
      refine z_ls [1, 2, 0] rfl ?_
      exact zj_A_grow2_20_M hf
set_option maxRecDepth 100000 in
set_option maxHeartbeats 4000000 in
theorem fr_A_grow2 {C : Ct} {mi : Nat} {a0 : Nat} {p1 : Int32} {h h' : Hp} {v : Option Nat} (hf : f_A_grow2 (cE C, mi) a0 p1 h = some (v, h')) : Keep W_A_grow2 h h' := by
  unfold f_A_grow2 at hf
  obtain ⟨g1, hf⟩ := gd_some hf
  obtain ⟨a2, e3, hf⟩ := dr_some hf
  obtain ⟨g4, hf⟩ := gd_some hf
  rcases Classical.em (0 < (Int32.ofNat (hpL h a2))) with c5 | c5
  · rw [if_pos c5] at hf
    exact (Keep.refl W_A_grow2 _).trans (kj_A_grow2_20_M (C := C) (mi := mi) hf)
  · rw [if_neg c5] at hf
    rcases Classical.em ((hpR h a0 0) = (some (cE C))) with c19 | c19
    · rw [if_pos c19] at hf
      obtain ⟨g20, hf⟩ := gd_some hf
      obtain ⟨h21, eh22, hf⟩ := nm_some hf
      have K23 := (Keep.refl W_A_grow2 _).trans (kw_N eh22)
      obtain ⟨g24, hf⟩ := gd_some hf
      obtain ⟨h25, eh26, hf⟩ := nm_some hf
      have K27 := K23.trans (kw_R eh26 (isK_eq g24) (Or.inl (by decide)))
      obtain ⟨rfl, rfl⟩ := Prod.mk.inj (Option.some.inj hf)
      exact K27
    · rw [if_neg c19] at hf
      exact (Keep.refl W_A_grow2 _).trans (kj_A_grow2_20_M (C := C) (mi := mi) hf)
theorem c_A_grow2 {l : Launch} {C : Ct} {mi : Nat} {a0 : Nat} {p1 : Int32} {h h' : Hp} {v : Option Nat} (hf : f_A_grow2 (cE C, mi) a0 p1 h = some (v, h')) : Mt l C mi m_A_grow2 3 [vr (some a0), vi p1] h (some (vr v)) h' := mt_R rfl (Or.inr ⟨_, rfl⟩) rfl (by decide) (Nat.le_of_ble_eq_true rfl) (zf_A_grow2 hf)
-- java/util/ArrayList.grow()[Ljava/lang/Object;
def m_A_grow1 : Mi := (⟨"java/util/ArrayList", "grow", "()[Ljava/lang/Object;"⟩, prog_20_method_7_code, 1, (Option.some (Jvm.ClassFile.FieldType.array (Jvm.ClassFile.FieldType.object "java/lang/Object"))), .areturn)
theorem cw_A_grow1 : cw_ok m_A_grow1 0 := ⟨by decide +kernel, by decide +kernel, by decide +kernel, by decide +kernel⟩
theorem im_A_grow1 : Cond.instanceMethod m_A_grow1.1 ∈ lw_w := by decide +kernel
theorem se_A_grow1 : Cond.selects "java/util/ArrayList" m_A_grow1.1 m_A_grow1.1 ∈ lw_w := by decide +kernel
theorem d_A_grow1_0 : decode prog_20_method_7_code 0 = .ok (.aload_n 0, 1) := by decide +kernel
theorem d_A_grow1_1 : decode prog_20_method_7_code 1 = .ok (.aload_n 0, 1) := by decide +kernel
theorem d_A_grow1_2 : decode prog_20_method_7_code 2 = .ok (.getfield 48, 3) := by decide +kernel
theorem d_A_grow1_5 : decode prog_20_method_7_code 5 = .ok (.iconst 1, 1) := by decide +kernel
theorem d_A_grow1_6 : decode prog_20_method_7_code 6 = .ok (.iadd, 1) := by decide +kernel
theorem d_A_grow1_7 : decode prog_20_method_7_code 7 = .ok (.invokevirtual 69, 3) := by decide +kernel
theorem d_A_grow1_10 : decode prog_20_method_7_code 10 = .ok (.areturn, 1) := by decide +kernel
def W_A_grow1 : Wl := ([(9, 0)], [73, 74])
def f_A_grow1 (E : Nat × Nat) (a0 : Nat) (h : Hp) : Option (Option Nat × Hp) :=
  gd (isK h a0 9) (cl (f_A_grow2 E a0 ((hpI h a0 1) + (1 : Int32)) h) fun v4 h2 => some (v4, h2))
set_option maxRecDepth 100000 in
set_option maxHeartbeats 4000000 in
theorem zf_A_grow1 {l : Launch} {C : Ct} {mi : Nat} {a0 : Nat} {h h' : Hp} {v : Option Nat} (hf : f_A_grow1 (cE C, mi) a0 h = some (v, h')) : Z l C mi m_A_grow1 4 0 [(0, vr (some a0))] [] h (some (vr v)) h' := by
  unfold f_A_grow1 at hf
  refine z_aload_n 0 d_A_grow1_0 rfl rfl ?_
  refine z_aload_n 0 d_A_grow1_1 rfl rfl ?_
  obtain ⟨g1, hf⟩ := gd_some hf
  refine z_getI d_A_grow1_2 (fl_K (isK_eq g1) fl_A_48_9) (fi_K (isK_eq g1) rfl) rfl ?_
  refine z_iconst (v := (1 : Int32)) d_A_grow1_5 rfl ?_
  refine z_iadd d_A_grow1_6 ?_
  obtain ⟨v4, h2, ec3, hf⟩ := cl_some hf
  refine z_callVx rfl (c_A_grow2 ec3) d_A_grow1_7 cw_A_grow2 lk_A_69 im_A_grow2 se_A_grow2 (kc_K (isK_eq g1) kc_9) ⟨by decide, by decide⟩ (Nat.le_of_ble_eq_true rfl) rfl ?_
  obtain ⟨rfl, rfl⟩ := Prod.mk.inj (Option.some.inj hf)
  exact z_ret d_A_grow1_10 rfl
set_option maxRecDepth 100000 in
set_option maxHeartbeats 4000000 in
theorem fr_A_grow1 {C : Ct} {mi : Nat} {a0 : Nat} {h h' : Hp} {v : Option Nat} (hf : f_A_grow1 (cE C, mi) a0 h = some (v, h')) : Keep W_A_grow1 h h' := by
  unfold f_A_grow1 at hf
  obtain ⟨g1, hf⟩ := gd_some hf
  obtain ⟨v4, h2, ec3, hf⟩ := cl_some hf
  have K5 := (Keep.refl W_A_grow1 _).trans ((fr_A_grow2 (C := C) (mi := mi) ec3).mono (by decide) (by decide))
  obtain ⟨rfl, rfl⟩ := Prod.mk.inj (Option.some.inj hf)
  exact K5
theorem c_A_grow1 {l : Launch} {C : Ct} {mi : Nat} {a0 : Nat} {h h' : Hp} {v : Option Nat} (hf : f_A_grow1 (cE C, mi) a0 h = some (v, h')) : Mt l C mi m_A_grow1 4 [vr (some a0)] h (some (vr v)) h' := mt_R rfl (Or.inr ⟨_, rfl⟩) rfl (by decide) (Nat.le_of_ble_eq_true rfl) (zf_A_grow1 hf)
-- java/util/ArrayList.add(Ljava/lang/Object;[Ljava/lang/Object;I)V
def m_A_add2 : Mi := (⟨"java/util/ArrayList", "add", "(Ljava/lang/Object;[Ljava/lang/Object;I)V"⟩, prog_20_method_24_code, 4, (Option.none : Option Jvm.ClassFile.FieldType), .return_)
theorem cw_A_add2 : cw_ok m_A_add2 3 := ⟨by decide +kernel, by decide +kernel, by decide +kernel, by decide +kernel⟩
theorem im_A_add2 : Cond.instanceMethod m_A_add2.1 ∈ lw_w := by decide +kernel
theorem se_A_add2 : Cond.selects "java/util/ArrayList" m_A_add2.1 m_A_add2.1 ∈ lw_w := by decide +kernel
theorem d_A_add2_0 : decode prog_20_method_24_code 0 = .ok (.iload_n 3, 1) := by decide +kernel
theorem d_A_add2_1 : decode prog_20_method_24_code 1 = .ok (.aload_n 2, 1) := by decide +kernel
theorem d_A_add2_2 : decode prog_20_method_24_code 2 = .ok (.arraylength, 1) := by decide +kernel
theorem d_A_add2_3 : decode prog_20_method_24_code 3 = .ok (.if_icmp .ne 8, 3) := by decide +kernel
theorem d_A_add2_6 : decode prog_20_method_24_code 6 = .ok (.aload_n 0, 1) := by decide +kernel
theorem d_A_add2_7 : decode prog_20_method_24_code 7 = .ok (.invokevirtual 129, 3) := by decide +kernel
theorem d_A_add2_10 : decode prog_20_method_24_code 10 = .ok (.astore_n 2, 1) := by decide +kernel
theorem d_A_add2_11 : decode prog_20_method_24_code 11 = .ok (.aload_n 2, 1) := by decide +kernel
theorem d_A_add2_12 : decode prog_20_method_24_code 12 = .ok (.iload_n 3, 1) := by decide +kernel
theorem d_A_add2_13 : decode prog_20_method_24_code 13 = .ok (.aload_n 1, 1) := by decide +kernel
theorem d_A_add2_14 : decode prog_20_method_24_code 14 = .ok (.aastore, 1) := by decide +kernel
theorem d_A_add2_15 : decode prog_20_method_24_code 15 = .ok (.aload_n 0, 1) := by decide +kernel
theorem d_A_add2_16 : decode prog_20_method_24_code 16 = .ok (.iload_n 3, 1) := by decide +kernel
theorem d_A_add2_17 : decode prog_20_method_24_code 17 = .ok (.iconst 1, 1) := by decide +kernel
theorem d_A_add2_18 : decode prog_20_method_24_code 18 = .ok (.iadd, 1) := by decide +kernel
theorem d_A_add2_19 : decode prog_20_method_24_code 19 = .ok (.putfield 48, 3) := by decide +kernel
theorem d_A_add2_22 : decode prog_20_method_24_code 22 = .ok (.return_, 1) := by decide +kernel
def W_A_add2 : Wl := ([(9, 0), (9, 1)], [73, 74])
def j_A_add2_11_M (E : Nat × Nat) (y0 : Nat) (y1 : Option Nat) (y2 : Option Nat) (y3 : Int32) (h : Hp) : Option Hp :=
  dr y2 fun a5 => gd (isO h a5 6) (gd (inb y3 (hpL h a5)) (gd (asV h y1 a5) (nm (wR h a5 y3.toNatClampNeg y1) fun h10 => gd (isK h10 y0 9) (nm (wI h10 y0 1 (y3 + (1 : Int32))) fun h14 => some h14))))
set_option maxRecDepth 100000 in
set_option maxHeartbeats 4000000 in
theorem zj_A_add2_11_M {l : Launch} {C : Ct} {mi : Nat} {y0 : Nat} {y1 : Option Nat} {y2 : Option Nat} {y3 : Int32} {h h' : Hp} (hf : j_A_add2_11_M (cE C, mi) y0 y1 y2 y3 h = some h') : Z l C mi m_A_add2 5 11 [(0, vr (some y0)), (1, vr y1), (2, vr y2), (3, vi y3)] [] h none h' := by
  unfold j_A_add2_11_M at hf
  refine z_aload_n 2 d_A_add2_11 rfl rfl ?_
  refine z_iload_n 3 d_A_add2_12 rfl rfl ?_
  refine z_aload_n 1 d_A_add2_13 rfl rfl ?_
  obtain ⟨a5, e6, hf⟩ := dr_some hf
  obtain ⟨g7, hf⟩ := gd_some hf
  obtain ⟨g8, hf⟩ := gd_some hf
  obtain ⟨g9, hf⟩ := gd_some hf
  obtain ⟨h10, eh11, hf⟩ := nm_some hf
  refine z_aast d_A_add2_14 e6 (isO_eq g7).1 (by rw [(isO_eq g7).2]; decide) (asV_ok g9) (inb_vp g8) ?_
  refine z_hp eh11 ?_
  refine z_aload_n 0 d_A_add2_15 rfl rfl ?_
  refine z_iload_n 3 d_A_add2_16 rfl rfl ?_
  refine z_iconst (v := (1 : Int32)) d_A_add2_17 rfl ?_
  refine z_iadd d_A_add2_18 ?_
  obtain ⟨g13, hf⟩ := gd_some hf
  obtain ⟨h14, eh15, hf⟩ := nm_some hf
  refine z_putI d_A_add2_19 (fl_K (isK_eq g13) fl_A_48_9) (pu_K (isK_eq g13) (fun q hq => by cases (Option.some.inj hq); exact Or.inl rfl)) (fi_K (isK_eq g13) rfl) rfl ?_
  refine z_hp eh15 ?_
  cases (Option.some.inj hf)
  exact z_ret d_A_add2_22 rfl
set_option maxRecDepth 100000 in
set_option maxHeartbeats 4000000 in
theorem kj_A_add2_11_M {C : Ct} {mi : Nat} {y0 : Nat} {y1 : Option Nat} {y2 : Option Nat} {y3 : Int32} {h h' : Hp} (hf : j_A_add2_11_M (cE C, mi) y0 y1 y2 y3 h = some h') : Keep W_A_add2 h h' := by
  unfold j_A_add2_11_M at hf
  obtain ⟨a5, e6, hf⟩ := dr_some hf
  obtain ⟨g7, hf⟩ := gd_some hf
  obtain ⟨g8, hf⟩ := gd_some hf
  obtain ⟨g9, hf⟩ := gd_some hf
  obtain ⟨h10, eh11, hf⟩ := nm_some hf
  have K12 := (Keep.refl W_A_add2 _).trans (kw_RO eh11 g7 (by decide) (by decide))
  obtain ⟨g13, hf⟩ := gd_some hf
  obtain ⟨h14, eh15, hf⟩ := nm_some hf
  have K16 := K12.trans (kw_I eh15 (isK_eq g13) (Or.inl (by decide)))
  cases (Option.some.inj hf)
  exact K16
def f_A_add2 (E : Nat × Nat) (a0 : Nat) (p1 : Option Nat) (p2 : Option Nat) (p3 : Int32) (h : Hp) : Option Hp :=
  dr p2 fun a1 => gd (isA h a1 6) (if p3 = (Int32.ofNat (hpL h a1)) then (gd (isK h a0 9) (cl (f_A_grow1 E a0 h) fun v20 h18 => j_A_add2_11_M E a0 p1 v20 p3 h18)) else (j_A_add2_11_M E a0 p1 p2 p3 h))
set_option maxRecDepth 100000 in
set_option maxHeartbeats 4000000 in
theorem zf_A_add2 {l : Launch} {C : Ct} {mi : Nat} {a0 : Nat} {p1 : Option Nat} {p2 : Option Nat} {p3 : Int32} {h h' : Hp} (hf : f_A_add2 (cE C, mi) a0 p1 p2 p3 h = some h') : Z l C mi m_A_add2 5 0 [(0, vr (some a0)), (1, vr p1), (2, vr p2), (3, vi p3)] [] h none h' := by
  unfold f_A_add2 at hf
  refine z_iload_n 3 d_A_add2_0 rfl rfl ?_
  refine z_aload_n 2 d_A_add2_1 rfl rfl ?_
  obtain ⟨a1, e2, hf⟩ := dr_some hf
  obtain ⟨g3, hf⟩ := gd_some hf
  refine z_alen d_A_add2_2 e2 (isA_eq g3).1 ?_
  refine z_icmp_ne (tgt := 11) d_A_add2_3 (by decide) (fun c4 => ?_) (fun c4 => ?_)
  · rw [if_neg c4] at hf
    refine z_ls [0, 1, 2, 3] rfl ?_
    exact zj_A_add2_11_M hf
  · rw [if_pos c4] at hf
    refine z_aload_n 0 d_A_add2_6 rfl rfl ?_
    obtain ⟨g17, hf⟩ := gd_some hf
    obtain ⟨v20, h18, ec19, hf⟩ := cl_some hf
    refine z_callVx rfl (c_A_grow1 ec19) d_A_add2_7 cw_A_grow1 lk_A_129 im_A_grow1 se_A_grow1 (kc_K (isK_eq g17) kc_9) ⟨by decide, by decide⟩ (Nat.le_of_ble_eq_true rfl) rfl ?_
    refine z_astore_n (ls2 := [(2, vr v20), (0, vr (some a0)), (1, vr p1), (3, vi p3)]) d_A_add2_10 rfl (by decide) rfl ?_
    refine z_ls [1, 2, 0, 3] rfl ?_
    exact zj_A_add2_11_M hf
set_option maxRecDepth 100000 in
set_option maxHeartbeats 4000000 in
theorem fr_A_add2 {C : Ct} {mi : Nat} {a0 : Nat} {p1 : Option Nat} {p2 : Option Nat} {p3 : Int32} {h h' : Hp} (hf : f_A_add2 (cE C, mi) a0 p1 p2 p3 h = some h') : Keep W_A_add2 h h' := by
  unfold f_A_add2 at hf
  obtain ⟨a1, e2, hf⟩ := dr_some hf
  obtain ⟨g3, hf⟩ := gd_some hf
  rcases (Classical.em (p3 = (Int32.ofNat (hpL h a1)))).symm with c4 | c4
  · rw [if_neg c4] at hf
    exact (Keep.refl W_A_add2 _).trans (kj_A_add2_11_M (C := C) (mi := mi) hf)
  · rw [if_pos c4] at hf
    obtain ⟨g17, hf⟩ := gd_some hf
    obtain ⟨v20, h18, ec19, hf⟩ := cl_some hf
    have K21 := (Keep.refl W_A_add2 _).trans ((fr_A_grow1 (C := C) (mi := mi) ec19).mono (by decide) (by decide))
    exact K21.trans (kj_A_add2_11_M (C := C) (mi := mi) hf)
theorem c_A_add2 {l : Launch} {C : Ct} {mi : Nat} {a0 : Nat} {p1 : Option Nat} {p2 : Option Nat} {p3 : Int32} {h h' : Hp} (hf : f_A_add2 (cE C, mi) a0 p1 p2 p3 h = some h') : Mt l C mi m_A_add2 5 [vr (some a0), vr p1, vr p2, vi p3] h none h' := mt_V rfl rfl (by decide) (Nat.le_of_ble_eq_true rfl) (zf_A_add2 hf)
-- java/util/ArrayList.add(Ljava/lang/Object;)Z
def m_A_add1 : Mi := (⟨"java/util/ArrayList", "add", "(Ljava/lang/Object;)Z"⟩, prog_20_method_25_code, 2, (Option.some Jvm.ClassFile.FieldType.boolean), .ireturn)
theorem cw_A_add1 : cw_ok m_A_add1 1 := ⟨by decide +kernel, by decide +kernel, by decide +kernel, by decide +kernel⟩
theorem im_A_add1 : Cond.instanceMethod m_A_add1.1 ∈ lw_w := by decide +kernel
theorem se_A_add1 : Cond.selects "java/util/ArrayList" m_A_add1.1 m_A_add1.1 ∈ lw_w := by decide +kernel
theorem d_A_add1_0 : decode prog_20_method_25_code 0 = .ok (.aload_n 0, 1) := by decide +kernel
theorem d_A_add1_1 : decode prog_20_method_25_code 1 = .ok (.dup, 1) := by decide +kernel
theorem d_A_add1_2 : decode prog_20_method_25_code 2 = .ok (.getfield 63, 3) := by decide +kernel
theorem d_A_add1_5 : decode prog_20_method_25_code 5 = .ok (.iconst 1, 1) := by decide +kernel
theorem d_A_add1_6 : decode prog_20_method_25_code 6 = .ok (.iadd, 1) := by decide +kernel
theorem d_A_add1_7 : decode prog_20_method_25_code 7 = .ok (.putfield 63, 3) := by decide +kernel
theorem d_A_add1_10 : decode prog_20_method_25_code 10 = .ok (.aload_n 0, 1) := by decide +kernel
theorem d_A_add1_11 : decode prog_20_method_25_code 11 = .ok (.aload_n 1, 1) := by decide +kernel
theorem d_A_add1_12 : decode prog_20_method_25_code 12 = .ok (.aload_n 0, 1) := by decide +kernel
theorem d_A_add1_13 : decode prog_20_method_25_code 13 = .ok (.getfield 9, 3) := by decide +kernel
theorem d_A_add1_16 : decode prog_20_method_25_code 16 = .ok (.aload_n 0, 1) := by decide +kernel
theorem d_A_add1_17 : decode prog_20_method_25_code 17 = .ok (.getfield 48, 3) := by decide +kernel
theorem d_A_add1_20 : decode prog_20_method_25_code 20 = .ok (.invokevirtual 131, 3) := by decide +kernel
theorem d_A_add1_23 : decode prog_20_method_25_code 23 = .ok (.iconst 1, 1) := by decide +kernel
theorem d_A_add1_24 : decode prog_20_method_25_code 24 = .ok (.ireturn, 1) := by decide +kernel
def W_A_add1 : Wl := ([(9, 0), (9, 1), (9, 2)], [73, 74])
def f0_A_add1 (E : Nat × Nat) (a0 : Nat) (p1 : Option Nat) (h : Hp) : Option (Int32 × Hp) :=
  gd (isK h a0 9) (nm (wI h a0 2 ((hpI h a0 2) + (1 : Int32))) fun h2 => cv (f_A_add2 E a0 p1 (hpR h2 a0 0) (hpI h2 a0 1) h2) fun h5 => some ((1 : Int32), h5))
def f_A_add1 (E : Nat × Nat) (a0 : Nat) (p1 : Option Nat) (h : Hp) : Option (Int32 × Hp) := zbw (f0_A_add1 E a0 p1 h)
set_option maxRecDepth 100000 in
set_option maxHeartbeats 4000000 in
theorem zf_A_add1 {l : Launch} {C : Ct} {mi : Nat} {a0 : Nat} {p1 : Option Nat} {h h' : Hp} {v : Int32} (hf : f0_A_add1 (cE C, mi) a0 p1 h = some (v, h')) : Z l C mi m_A_add1 6 0 [(0, vr (some a0)), (1, vr p1)] [] h (some (vi v)) h' := by
  unfold f0_A_add1 at hf
  refine z_aload_n 0 d_A_add1_0 rfl rfl ?_
  refine z_dup d_A_add1_1 rfl ?_
  obtain ⟨g1, hf⟩ := gd_some hf
  refine z_getI d_A_add1_2 (fl_K (isK_eq g1) fl_A_63_9) (fi_K (isK_eq g1) rfl) rfl ?_
  refine z_iconst (v := (1 : Int32)) d_A_add1_5 rfl ?_
  refine z_iadd d_A_add1_6 ?_
  obtain ⟨h2, eh3, hf⟩ := nm_some hf
  refine z_putI d_A_add1_7 (fl_K (isK_eq g1) fl_A_63_9) (pu_K (isK_eq g1) (fun q hq => by cases (Option.some.inj hq); exact Or.inl rfl)) (fi_K (isK_eq g1) rfl) rfl ?_
  refine z_hp eh3 ?_
  refine z_aload_n 0 d_A_add1_10 rfl rfl ?_
  refine z_aload_n 1 d_A_add1_11 rfl rfl ?_
  refine z_aload_n 0 d_A_add1_12 rfl rfl ?_
  refine z_getR d_A_add1_13 (fl_K (isK_eq (isK_wI eh3 g1)) fl_A_9_9) (fi_K (isK_eq (isK_wI eh3 g1)) rfl) rfl ?_
  refine z_aload_n 0 d_A_add1_16 rfl rfl ?_
  refine z_getI d_A_add1_17 (fl_K (isK_eq (isK_wI eh3 g1)) fl_A_48_9) (fi_K (isK_eq (isK_wI eh3 g1)) rfl) rfl ?_
  obtain ⟨h5, ec6, hf⟩ := cv_some hf
  refine z_callVx rfl (c_A_add2 ec6) d_A_add1_20 cw_A_add2 lk_A_131 im_A_add2 se_A_add2 (kc_K (isK_eq (isK_wI eh3 g1)) kc_9) ⟨by decide, by decide⟩ (Nat.le_of_ble_eq_true rfl) rfl ?_
  refine z_iconst (v := (1 : Int32)) d_A_add1_23 rfl ?_
  obtain ⟨rfl, rfl⟩ := Prod.mk.inj (Option.some.inj hf)
  exact z_ret d_A_add1_24 rfl
set_option maxRecDepth 100000 in
set_option maxHeartbeats 4000000 in
theorem fr0_A_add1 {C : Ct} {mi : Nat} {a0 : Nat} {p1 : Option Nat} {h h' : Hp} {v : Int32} (hf : f0_A_add1 (cE C, mi) a0 p1 h = some (v, h')) : Keep W_A_add1 h h' := by
  unfold f0_A_add1 at hf
  obtain ⟨g1, hf⟩ := gd_some hf
  obtain ⟨h2, eh3, hf⟩ := nm_some hf
  have K4 := (Keep.refl W_A_add1 _).trans (kw_I eh3 (isK_eq g1) (Or.inl (by decide)))
  obtain ⟨h5, ec6, hf⟩ := cv_some hf
  have K7 := K4.trans ((fr_A_add2 (C := C) (mi := mi) ec6).mono (by decide) (by decide))
  obtain ⟨rfl, rfl⟩ := Prod.mk.inj (Option.some.inj hf)
  exact K7
theorem fr_A_add1 {C : Ct} {mi : Nat} {a0 : Nat} {p1 : Option Nat} {h h' : Hp} {v : Int32} (hf : f_A_add1 (cE C, mi) a0 p1 h = some (v, h')) : Keep W_A_add1 h h' := fr0_A_add1 (C := C) (mi := mi) (zbw_some hf).2
theorem c_A_add1 {l : Launch} {C : Ct} {mi : Nat} {a0 : Nat} {p1 : Option Nat} {h h' : Hp} {v : Int32} (hf : f_A_add1 (cE C, mi) a0 p1 h = some (v, h')) : Mt l C mi m_A_add1 6 [vr (some a0), vr p1] h (some (vi v)) h' := mt_I (ty := .boolean) rfl rfl (zb_eq (zbw_some hf).1) (by decide) (Nat.le_of_ble_eq_true rfl) (zf_A_add1 (zbw_some hf).2)
-- java/util/ArrayList.size()I
def m_A_size : Mi := (⟨"java/util/ArrayList", "size", "()I"⟩, prog_20_method_8_code, 1, (Option.some Jvm.ClassFile.FieldType.int), .ireturn)
theorem cw_A_size : cw_ok m_A_size 0 := ⟨by decide +kernel, by decide +kernel, by decide +kernel, by decide +kernel⟩
theorem im_A_size : Cond.instanceMethod m_A_size.1 ∈ lw_w := by decide +kernel
theorem se_A_size : Cond.selects "java/util/ArrayList" m_A_size.1 m_A_size.1 ∈ lw_w := by decide +kernel
theorem d_A_size_0 : decode prog_20_method_8_code 0 = .ok (.aload_n 0, 1) := by decide +kernel
theorem d_A_size_1 : decode prog_20_method_8_code 1 = .ok (.getfield 48, 3) := by decide +kernel
theorem d_A_size_4 : decode prog_20_method_8_code 4 = .ok (.ireturn, 1) := by decide +kernel
def W_A_size : Wl := ([], [])
def f_A_size (a0 : Nat) (h : Hp) : Option (Int32 × Hp) :=
  gd (isK h a0 9) (some ((hpI h a0 1), h))
set_option maxRecDepth 100000 in
set_option maxHeartbeats 4000000 in
theorem zf_A_size {l : Launch} {C : Ct} {mi : Nat} {a0 : Nat} {h h' : Hp} {v : Int32} (hf : f_A_size a0 h = some (v, h')) : Z l C mi m_A_size 0 0 [(0, vr (some a0))] [] h (some (vi v)) h' := by
  unfold f_A_size at hf
  refine z_aload_n 0 d_A_size_0 rfl rfl ?_
  obtain ⟨g1, hf⟩ := gd_some hf
  refine z_getI d_A_size_1 (fl_K (isK_eq g1) fl_A_48_9) (fi_K (isK_eq g1) rfl) rfl ?_
  obtain ⟨rfl, rfl⟩ := Prod.mk.inj (Option.some.inj hf)
  exact z_ret d_A_size_4 rfl
set_option maxRecDepth 100000 in
set_option maxHeartbeats 4000000 in
theorem fr_A_size {C : Ct} {mi : Nat} {a0 : Nat} {h h' : Hp} {v : Int32} (hf : f_A_size a0 h = some (v, h')) : Keep W_A_size h h' := by
  unfold f_A_size at hf
  obtain ⟨g1, hf⟩ := gd_some hf
  obtain ⟨rfl, rfl⟩ := Prod.mk.inj (Option.some.inj hf)
  exact (Keep.refl W_A_size _)
theorem c_A_size {l : Launch} {C : Ct} {mi : Nat} {a0 : Nat} {h h' : Hp} {v : Int32} (hf : f_A_size a0 h = some (v, h')) : Mt l C mi m_A_size 0 [vr (some a0)] h (some (vi v)) h' := mt_I (ty := .int) rfl rfl rfl (by decide) (Nat.le_of_ble_eq_true rfl) (zf_A_size hf)
-- jdk/internal/util/Preconditions.checkIndex(IILjava/util/function/BiFunction;)I
def m_Pr_checkIndex : Mi := (⟨"jdk/internal/util/Preconditions", "checkIndex", "(IILjava/util/function/BiFunction;)I"⟩, prog_28_method_11_code, 3, (Option.some Jvm.ClassFile.FieldType.int), .ireturn)
theorem cw_Pr_checkIndex : cw_ok m_Pr_checkIndex 3 := ⟨by decide +kernel, by decide +kernel, by decide +kernel, by decide +kernel⟩
theorem d_Pr_checkIndex_0 : decode prog_28_method_11_code 0 = .ok (.iload_n 0, 1) := by decide +kernel
theorem d_Pr_checkIndex_1 : decode prog_28_method_11_code 1 = .ok (.ifCond .lt 8, 3) := by decide +kernel
theorem d_Pr_checkIndex_4 : decode prog_28_method_11_code 4 = .ok (.iload_n 0, 1) := by decide +kernel
theorem d_Pr_checkIndex_5 : decode prog_28_method_11_code 5 = .ok (.iload_n 1, 1) := by decide +kernel
theorem d_Pr_checkIndex_6 : decode prog_28_method_11_code 6 = .ok (.if_icmp .lt 10, 3) := by decide +kernel
theorem d_Pr_checkIndex_9 : decode prog_28_method_11_code 9 = .ok (.aload_n 2, 1) := by decide +kernel
theorem d_Pr_checkIndex_10 : decode prog_28_method_11_code 10 = .ok (.iload_n 0, 1) := by decide +kernel
theorem d_Pr_checkIndex_11 : decode prog_28_method_11_code 11 = .ok (.iload_n 1, 1) := by decide +kernel
theorem d_Pr_checkIndex_12 : decode prog_28_method_11_code 12 = .ok (.invokestatic 95, 3) := by decide +kernel
theorem d_Pr_checkIndex_16 : decode prog_28_method_11_code 16 = .ok (.iload_n 0, 1) := by decide +kernel
theorem d_Pr_checkIndex_17 : decode prog_28_method_11_code 17 = .ok (.ireturn, 1) := by decide +kernel
def W_Pr_checkIndex : Wl := ([], [])
def j_Pr_checkIndex_9_M (y0 : Int32) (y1 : Int32) (y2 : Option Nat) (h : Hp) : Option (Int32 × Hp) :=
  none
set_option maxRecDepth 100000 in
set_option maxHeartbeats 4000000 in
theorem zj_Pr_checkIndex_9_M {l : Launch} {C : Ct} {mi : Nat} {y0 : Int32} {y1 : Int32} {y2 : Option Nat} {h h' : Hp} {v : Int32} (hf : j_Pr_checkIndex_9_M y0 y1 y2 h = some (v, h')) : Z l C mi m_Pr_checkIndex 0 9 [(0, vi y0), (1, vi y1), (2, vr y2)] [] h (some (vi v)) h' := by
  unfold j_Pr_checkIndex_9_M at hf
  refine z_aload_n 2 d_Pr_checkIndex_9 rfl rfl ?_
  refine z_iload_n 0 d_Pr_checkIndex_10 rfl rfl ?_
  refine z_iload_n 1 d_Pr_checkIndex_11 rfl rfl ?_
  cases hf
set_option maxRecDepth 100000 in
set_option maxHeartbeats 4000000 in
theorem kj_Pr_checkIndex_9_M {C : Ct} {mi : Nat} {y0 : Int32} {y1 : Int32} {y2 : Option Nat} {h h' : Hp} {v : Int32} (hf : j_Pr_checkIndex_9_M y0 y1 y2 h = some (v, h')) : Keep W_Pr_checkIndex h h' := by
  unfold j_Pr_checkIndex_9_M at hf
  cases hf
def f_Pr_checkIndex (p1 : Int32) (p2 : Int32) (p3 : Option Nat) (h : Hp) : Option (Int32 × Hp) :=
  if p1 < 0 then (j_Pr_checkIndex_9_M p1 p2 p3 h) else (if p1 < p2 then (some (p1, h)) else (j_Pr_checkIndex_9_M p1 p2 p3 h))
set_option maxRecDepth 100000 in
set_option maxHeartbeats 4000000 in
theorem zf_Pr_checkIndex {l : Launch} {C : Ct} {mi : Nat} {p1 : Int32} {p2 : Int32} {p3 : Option Nat} {h h' : Hp} {v : Int32} (hf : f_Pr_checkIndex p1 p2 p3 h = some (v, h')) : Z l C mi m_Pr_checkIndex 0 0 [(0, vi p1), (1, vi p2), (2, vr p3)] [] h (some (vi v)) h' := by
  unfold f_Pr_checkIndex at hf
  refine z_iload_n 0 d_Pr_checkIndex_0 rfl rfl ?_
  refine z_if_lt (tgt := 9) d_Pr_checkIndex_1 (by decide) (fun c1 => ?_) (fun c1 => ?_)
  · rw [if_pos c1] at hf
    refine z_ls [0, 1, 2] rfl ?_
    exact zj_Pr_checkIndex_9_M hf
  · rw [if_neg c1] at hf
    refine z_iload_n 0 d_Pr_checkIndex_4 rfl rfl ?_
    refine z_iload_n 1 d_Pr_checkIndex_5 rfl rfl ?_
    refine z_icmp_lt (tgt := 16) d_Pr_checkIndex_6 (by decide) (fun c2 => ?_) (fun c2 => ?_)
    · rw [if_pos c2] at hf
      refine z_iload_n 0 d_Pr_checkIndex_16 rfl rfl ?_
      obtain ⟨rfl, rfl⟩ := Prod.mk.inj (Option.some.inj hf)
      exact z_ret d_Pr_checkIndex_17 rfl
    · rw [if_neg c2] at hf
      refine z_ls [0, 1, 2] rfl ?_
      exact zj_Pr_checkIndex_9_M hf
set_option maxRecDepth 100000 in
set_option maxHeartbeats 4000000 in
theorem fr_Pr_checkIndex {C : Ct} {mi : Nat} {p1 : Int32} {p2 : Int32} {p3 : Option Nat} {h h' : Hp} {v : Int32} (hf : f_Pr_checkIndex p1 p2 p3 h = some (v, h')) : Keep W_Pr_checkIndex h h' := by
  unfold f_Pr_checkIndex at hf
  rcases Classical.em (p1 < 0) with c1 | c1
  · rw [if_pos c1] at hf
    exact (Keep.refl W_Pr_checkIndex _).trans (kj_Pr_checkIndex_9_M (C := C) (mi := mi) hf)
  · rw [if_neg c1] at hf
    rcases Classical.em (p1 < p2) with c2 | c2
    · rw [if_pos c2] at hf
      obtain ⟨rfl, rfl⟩ := Prod.mk.inj (Option.some.inj hf)
      exact (Keep.refl W_Pr_checkIndex _)
    · rw [if_neg c2] at hf
      exact (Keep.refl W_Pr_checkIndex _).trans (kj_Pr_checkIndex_9_M (C := C) (mi := mi) hf)
theorem c_Pr_checkIndex {l : Launch} {C : Ct} {mi : Nat} {p1 : Int32} {p2 : Int32} {p3 : Option Nat} {h h' : Hp} {v : Int32} (hf : f_Pr_checkIndex p1 p2 p3 h = some (v, h')) : Mt l C mi m_Pr_checkIndex 0 [vi p1, vi p2, vr p3] h (some (vi v)) h' := mt_I (ty := .int) rfl rfl rfl (by decide) (Nat.le_of_ble_eq_true rfl) (zf_Pr_checkIndex hf)
-- java/util/Objects.checkIndex(II)I
def m_Ob_checkIndex : Mi := (⟨"java/util/Objects", "checkIndex", "(II)I"⟩, prog_24_method_17_code, 2, (Option.some Jvm.ClassFile.FieldType.int), .ireturn)
theorem cw_Ob_checkIndex : cw_ok m_Ob_checkIndex 2 := ⟨by decide +kernel, by decide +kernel, by decide +kernel, by decide +kernel⟩
theorem d_Ob_checkIndex_0 : decode prog_24_method_17_code 0 = .ok (.iload_n 0, 1) := by decide +kernel
theorem d_Ob_checkIndex_1 : decode prog_24_method_17_code 1 = .ok (.iload_n 1, 1) := by decide +kernel
theorem d_Ob_checkIndex_2 : decode prog_24_method_17_code 2 = .ok (.aconst_null, 1) := by decide +kernel
theorem d_Ob_checkIndex_3 : decode prog_24_method_17_code 3 = .ok (.invokestatic 105, 3) := by decide +kernel
theorem d_Ob_checkIndex_6 : decode prog_24_method_17_code 6 = .ok (.ireturn, 1) := by decide +kernel
def W_Ob_checkIndex : Wl := ([], [])
def f_Ob_checkIndex (p1 : Int32) (p2 : Int32) (h : Hp) : Option (Int32 × Hp) :=
  cl (f_Pr_checkIndex p1 p2 none h) fun v3 h1 => some (v3, h1)
set_option maxRecDepth 100000 in
set_option maxHeartbeats 4000000 in
theorem zf_Ob_checkIndex {l : Launch} {C : Ct} {mi : Nat} {p1 : Int32} {p2 : Int32} {h h' : Hp} {v : Int32} (hf : f_Ob_checkIndex p1 p2 h = some (v, h')) : Z l C mi m_Ob_checkIndex 1 0 [(0, vi p1), (1, vi p2)] [] h (some (vi v)) h' := by
  unfold f_Ob_checkIndex at hf
  refine z_iload_n 0 d_Ob_checkIndex_0 rfl rfl ?_
  refine z_iload_n 1 d_Ob_checkIndex_1 rfl rfl ?_
  refine z_aconst_null d_Ob_checkIndex_2 ?_
  obtain ⟨v3, h1, ec2, hf⟩ := cl_some hf
  refine z_callS (c_Pr_checkIndex ec2) d_Ob_checkIndex_3 cw_Pr_checkIndex lk_Ob_105 (by decide +kernel) ⟨by decide, by decide⟩ (Nat.le_of_ble_eq_true rfl) rfl ?_
  obtain ⟨rfl, rfl⟩ := Prod.mk.inj (Option.some.inj hf)
  exact z_ret d_Ob_checkIndex_6 rfl
set_option maxRecDepth 100000 in
set_option maxHeartbeats 4000000 in
theorem fr_Ob_checkIndex {C : Ct} {mi : Nat} {p1 : Int32} {p2 : Int32} {h h' : Hp} {v : Int32} (hf : f_Ob_checkIndex p1 p2 h = some (v, h')) : Keep W_Ob_checkIndex h h' := by
  unfold f_Ob_checkIndex at hf
  obtain ⟨v3, h1, ec2, hf⟩ := cl_some hf
  have K4 := (Keep.refl W_Ob_checkIndex _).trans ((fr_Pr_checkIndex (C := C) (mi := mi) ec2).mono (by decide) (by decide))
  obtain ⟨rfl, rfl⟩ := Prod.mk.inj (Option.some.inj hf)
  exact K4
theorem c_Ob_checkIndex {l : Launch} {C : Ct} {mi : Nat} {p1 : Int32} {p2 : Int32} {h h' : Hp} {v : Int32} (hf : f_Ob_checkIndex p1 p2 h = some (v, h')) : Mt l C mi m_Ob_checkIndex 1 [vi p1, vi p2] h (some (vi v)) h' := mt_I (ty := .int) rfl rfl rfl (by decide) (Nat.le_of_ble_eq_true rfl) (zf_Ob_checkIndex hf)
-- java/util/ArrayList.elementData(I)Ljava/lang/Object;
def m_A_elementData : Mi := (⟨"java/util/ArrayList", "elementData", "(I)Ljava/lang/Object;"⟩, prog_20_method_18_code, 2, (Option.some (Jvm.ClassFile.FieldType.object "java/lang/Object")), .areturn)
theorem cw_A_elementData : cw_ok m_A_elementData 1 := ⟨by decide +kernel, by decide +kernel, by decide +kernel, by decide +kernel⟩
theorem im_A_elementData : Cond.instanceMethod m_A_elementData.1 ∈ lw_w := by decide +kernel
theorem se_A_elementData : Cond.selects "java/util/ArrayList" m_A_elementData.1 m_A_elementData.1 ∈ lw_w := by decide +kernel
theorem d_A_elementData_0 : decode prog_20_method_18_code 0 = .ok (.aload_n 0, 1) := by decide +kernel
theorem d_A_elementData_1 : decode prog_20_method_18_code 1 = .ok (.getfield 9, 3) := by decide +kernel
theorem d_A_elementData_4 : decode prog_20_method_18_code 4 = .ok (.iload_n 1, 1) := by decide +kernel
theorem d_A_elementData_5 : decode prog_20_method_18_code 5 = .ok (.aaload, 1) := by decide +kernel
theorem d_A_elementData_6 : decode prog_20_method_18_code 6 = .ok (.areturn, 1) := by decide +kernel
def W_A_elementData : Wl := ([], [])
def f_A_elementData (a0 : Nat) (p1 : Int32) (h : Hp) : Option (Option Nat × Hp) :=
  gd (isK h a0 9) (dr (hpR h a0 0) fun a2 => gd (isO h a2 6) (gd (inb p1 (hpL h a2)) (some ((hpR h a2 p1.toNatClampNeg), h))))
set_option maxRecDepth 100000 in
set_option maxHeartbeats 4000000 in
theorem zf_A_elementData {l : Launch} {C : Ct} {mi : Nat} {a0 : Nat} {p1 : Int32} {h h' : Hp} {v : Option Nat} (hf : f_A_elementData a0 p1 h = some (v, h')) : Z l C mi m_A_elementData 0 0 [(0, vr (some a0)), (1, vi p1)] [] h (some (vr v)) h' := by
  unfold f_A_elementData at hf
  refine z_aload_n 0 d_A_elementData_0 rfl rfl ?_
  obtain ⟨g1, hf⟩ := gd_some hf
  refine z_getR d_A_elementData_1 (fl_K (isK_eq g1) fl_A_9_9) (fi_K (isK_eq g1) rfl) rfl ?_
  refine z_iload_n 1 d_A_elementData_4 rfl rfl ?_
  obtain ⟨a2, e3, hf⟩ := dr_some hf
  obtain ⟨g4, hf⟩ := gd_some hf
  obtain ⟨g5, hf⟩ := gd_some hf
  refine z_aald d_A_elementData_5 e3 (isO_eq g4).1 (by rw [(isO_eq g4).2]; decide) (inb_vp g5) ?_
  obtain ⟨rfl, rfl⟩ := Prod.mk.inj (Option.some.inj hf)
  exact z_ret d_A_elementData_6 rfl
set_option maxRecDepth 100000 in
set_option maxHeartbeats 4000000 in
theorem fr_A_elementData {C : Ct} {mi : Nat} {a0 : Nat} {p1 : Int32} {h h' : Hp} {v : Option Nat} (hf : f_A_elementData a0 p1 h = some (v, h')) : Keep W_A_elementData h h' := by
  unfold f_A_elementData at hf
  obtain ⟨g1, hf⟩ := gd_some hf
  obtain ⟨a2, e3, hf⟩ := dr_some hf
  obtain ⟨g4, hf⟩ := gd_some hf
  obtain ⟨g5, hf⟩ := gd_some hf
  obtain ⟨rfl, rfl⟩ := Prod.mk.inj (Option.some.inj hf)
  exact (Keep.refl W_A_elementData _)
theorem c_A_elementData {l : Launch} {C : Ct} {mi : Nat} {a0 : Nat} {p1 : Int32} {h h' : Hp} {v : Option Nat} (hf : f_A_elementData a0 p1 h = some (v, h')) : Mt l C mi m_A_elementData 0 [vr (some a0), vi p1] h (some (vr v)) h' := mt_R rfl (Or.inl ⟨_, rfl⟩) rfl (by decide) (Nat.le_of_ble_eq_true rfl) (zf_A_elementData hf)
-- java/util/ArrayList.get(I)Ljava/lang/Object;
def m_A_get : Mi := (⟨"java/util/ArrayList", "get", "(I)Ljava/lang/Object;"⟩, prog_20_method_20_code, 2, (Option.some (Jvm.ClassFile.FieldType.object "java/lang/Object")), .areturn)
theorem cw_A_get : cw_ok m_A_get 1 := ⟨by decide +kernel, by decide +kernel, by decide +kernel, by decide +kernel⟩
theorem im_A_get : Cond.instanceMethod m_A_get.1 ∈ lw_w := by decide +kernel
theorem se_A_get : Cond.selects "java/util/ArrayList" m_A_get.1 m_A_get.1 ∈ lw_w := by decide +kernel
theorem d_A_get_0 : decode prog_20_method_20_code 0 = .ok (.iload_n 1, 1) := by decide +kernel
theorem d_A_get_1 : decode prog_20_method_20_code 1 = .ok (.aload_n 0, 1) := by decide +kernel
theorem d_A_get_2 : decode prog_20_method_20_code 2 = .ok (.getfield 48, 3) := by decide +kernel
theorem d_A_get_5 : decode prog_20_method_20_code 5 = .ok (.invokestatic 118, 3) := by decide +kernel
theorem d_A_get_8 : decode prog_20_method_20_code 8 = .ok (.pop, 1) := by decide +kernel
theorem d_A_get_9 : decode prog_20_method_20_code 9 = .ok (.aload_n 0, 1) := by decide +kernel
theorem d_A_get_10 : decode prog_20_method_20_code 10 = .ok (.iload_n 1, 1) := by decide +kernel
theorem d_A_get_11 : decode prog_20_method_20_code 11 = .ok (.invokevirtual 123, 3) := by decide +kernel
theorem d_A_get_14 : decode prog_20_method_20_code 14 = .ok (.areturn, 1) := by decide +kernel
def W_A_get : Wl := ([], [])
def f_A_get (a0 : Nat) (p1 : Int32) (h : Hp) : Option (Option Nat × Hp) :=
  gd (isK h a0 9) (cl (f_Ob_checkIndex p1 (hpI h a0 1) h) fun v4 h2 => gd (isK h2 a0 9) (cl (f_A_elementData a0 p1 h2) fun v9 h7 => some (v9, h7)))
set_option maxRecDepth 100000 in
set_option maxHeartbeats 4000000 in
theorem zf_A_get {l : Launch} {C : Ct} {mi : Nat} {a0 : Nat} {p1 : Int32} {h h' : Hp} {v : Option Nat} (hf : f_A_get a0 p1 h = some (v, h')) : Z l C mi m_A_get 2 0 [(0, vr (some a0)), (1, vi p1)] [] h (some (vr v)) h' := by
  unfold f_A_get at hf
  refine z_iload_n 1 d_A_get_0 rfl rfl ?_
  refine z_aload_n 0 d_A_get_1 rfl rfl ?_
  obtain ⟨g1, hf⟩ := gd_some hf
  refine z_getI d_A_get_2 (fl_K (isK_eq g1) fl_A_48_9) (fi_K (isK_eq g1) rfl) rfl ?_
  obtain ⟨v4, h2, ec3, hf⟩ := cl_some hf
  refine z_callS (c_Ob_checkIndex ec3) d_A_get_5 cw_Ob_checkIndex lk_A_118 (by decide +kernel) ⟨by decide, by decide⟩ (Nat.le_of_ble_eq_true rfl) rfl ?_
  refine z_pop d_A_get_8 rfl ?_
  refine z_aload_n 0 d_A_get_9 rfl rfl ?_
  refine z_iload_n 1 d_A_get_10 rfl rfl ?_
  obtain ⟨g6, hf⟩ := gd_some hf
  obtain ⟨v9, h7, ec8, hf⟩ := cl_some hf
  refine z_callVx rfl (c_A_elementData ec8) d_A_get_11 cw_A_elementData lk_A_123 im_A_elementData se_A_elementData (kc_K (isK_eq g6) kc_9) ⟨by decide, by decide⟩ (Nat.le_of_ble_eq_true rfl) rfl ?_
  obtain ⟨rfl, rfl⟩ := Prod.mk.inj (Option.some.inj hf)
  exact z_ret d_A_get_14 rfl
set_option maxRecDepth 100000 in
set_option maxHeartbeats 4000000 in
theorem fr_A_get {C : Ct} {mi : Nat} {a0 : Nat} {p1 : Int32} {h h' : Hp} {v : Option Nat} (hf : f_A_get a0 p1 h = some (v, h')) : Keep W_A_get h h' := by
  unfold f_A_get at hf
  obtain ⟨g1, hf⟩ := gd_some hf
  obtain ⟨v4, h2, ec3, hf⟩ := cl_some hf
  have K5 := (Keep.refl W_A_get _).trans ((fr_Ob_checkIndex (C := C) (mi := mi) ec3).mono (by decide) (by decide))
  obtain ⟨g6, hf⟩ := gd_some hf
  obtain ⟨v9, h7, ec8, hf⟩ := cl_some hf
  have K10 := K5.trans ((fr_A_elementData (C := C) (mi := mi) ec8).mono (by decide) (by decide))
  obtain ⟨rfl, rfl⟩ := Prod.mk.inj (Option.some.inj hf)
  exact K10
theorem c_A_get {l : Launch} {C : Ct} {mi : Nat} {a0 : Nat} {p1 : Int32} {h h' : Hp} {v : Option Nat} (hf : f_A_get a0 p1 h = some (v, h')) : Mt l C mi m_A_get 2 [vr (some a0), vi p1] h (some (vr v)) h' := mt_R rfl (Or.inl ⟨_, rfl⟩) rfl (by decide) (Nat.le_of_ble_eq_true rfl) (zf_A_get hf)
-- java/util/ArrayList.fastRemove([Ljava/lang/Object;I)V
def m_A_fastRemove : Mi := (⟨"java/util/ArrayList", "fastRemove", "([Ljava/lang/Object;I)V"⟩, prog_20_method_39_code, 4, (Option.none : Option Jvm.ClassFile.FieldType), .return_)
theorem cw_A_fastRemove : cw_ok m_A_fastRemove 2 := ⟨by decide +kernel, by decide +kernel, by decide +kernel, by decide +kernel⟩
theorem im_A_fastRemove : Cond.instanceMethod m_A_fastRemove.1 ∈ lw_w := by decide +kernel
theorem se_A_fastRemove : Cond.selects "java/util/ArrayList" m_A_fastRemove.1 m_A_fastRemove.1 ∈ lw_w := by decide +kernel
theorem d_A_fastRemove_0 : decode prog_20_method_39_code 0 = .ok (.aload_n 0, 1) := by decide +kernel
theorem d_A_fastRemove_1 : decode prog_20_method_39_code 1 = .ok (.dup, 1) := by decide +kernel
theorem d_A_fastRemove_2 : decode prog_20_method_39_code 2 = .ok (.getfield 63, 3) := by decide +kernel
theorem d_A_fastRemove_5 : decode prog_20_method_39_code 5 = .ok (.iconst 1, 1) := by decide +kernel
theorem d_A_fastRemove_6 : decode prog_20_method_39_code 6 = .ok (.iadd, 1) := by decide +kernel
theorem d_A_fastRemove_7 : decode prog_20_method_39_code 7 = .ok (.putfield 63, 3) := by decide +kernel
theorem d_A_fastRemove_10 : decode prog_20_method_39_code 10 = .ok (.aload_n 0, 1) := by decide +kernel
theorem d_A_fastRemove_11 : decode prog_20_method_39_code 11 = .ok (.getfield 48, 3) := by decide +kernel
theorem d_A_fastRemove_14 : decode prog_20_method_39_code 14 = .ok (.iconst 1, 1) := by decide +kernel
theorem d_A_fastRemove_15 : decode prog_20_method_39_code 15 = .ok (.isub, 1) := by decide +kernel
theorem d_A_fastRemove_16 : decode prog_20_method_39_code 16 = .ok (.dup, 1) := by decide +kernel
theorem d_A_fastRemove_17 : decode prog_20_method_39_code 17 = .ok (.istore_n 3, 1) := by decide +kernel
theorem d_A_fastRemove_18 : decode prog_20_method_39_code 18 = .ok (.iload_n 2, 1) := by decide +kernel
theorem d_A_fastRemove_19 : decode prog_20_method_39_code 19 = .ok (.if_icmp .le 15, 3) := by decide +kernel
theorem d_A_fastRemove_22 : decode prog_20_method_39_code 22 = .ok (.aload_n 1, 1) := by decide +kernel
theorem d_A_fastRemove_23 : decode prog_20_method_39_code 23 = .ok (.iload_n 2, 1) := by decide +kernel
theorem d_A_fastRemove_24 : decode prog_20_method_39_code 24 = .ok (.iconst 1, 1) := by decide +kernel
theorem d_A_fastRemove_25 : decode prog_20_method_39_code 25 = .ok (.iadd, 1) := by decide +kernel
theorem d_A_fastRemove_26 : decode prog_20_method_39_code 26 = .ok (.aload_n 1, 1) := by decide +kernel
theorem d_A_fastRemove_27 : decode prog_20_method_39_code 27 = .ok (.iload_n 2, 1) := by decide +kernel
theorem d_A_fastRemove_28 : decode prog_20_method_39_code 28 = .ok (.iload_n 3, 1) := by decide +kernel
theorem d_A_fastRemove_29 : decode prog_20_method_39_code 29 = .ok (.iload_n 2, 1) := by decide +kernel
theorem d_A_fastRemove_30 : decode prog_20_method_39_code 30 = .ok (.isub, 1) := by decide +kernel
theorem d_A_fastRemove_31 : decode prog_20_method_39_code 31 = .ok (.invokestatic 112, 3) := by decide +kernel
theorem d_A_fastRemove_34 : decode prog_20_method_39_code 34 = .ok (.aload_n 1, 1) := by decide +kernel
theorem d_A_fastRemove_35 : decode prog_20_method_39_code 35 = .ok (.aload_n 0, 1) := by decide +kernel
theorem d_A_fastRemove_36 : decode prog_20_method_39_code 36 = .ok (.iload_n 3, 1) := by decide +kernel
theorem d_A_fastRemove_37 : decode prog_20_method_39_code 37 = .ok (.dup_x1, 1) := by decide +kernel
theorem d_A_fastRemove_38 : decode prog_20_method_39_code 38 = .ok (.putfield 48, 3) := by decide +kernel
theorem d_A_fastRemove_41 : decode prog_20_method_39_code 41 = .ok (.aconst_null, 1) := by decide +kernel
theorem d_A_fastRemove_42 : decode prog_20_method_39_code 42 = .ok (.aastore, 1) := by decide +kernel
theorem d_A_fastRemove_43 : decode prog_20_method_39_code 43 = .ok (.return_, 1) := by decide +kernel
def W_A_fastRemove : Wl := ([(9, 1), (9, 2)], [73, 74])
def j_A_fastRemove_34_M (y0 : Nat) (y1 : Option Nat) (y3 : Int32) (h : Hp) : Option Hp :=
  gd (isK h y0 9) (nm (wI h y0 1 y3) fun h7 => dr y1 fun a10 => gd (isO h7 a10 6) (gd (inb y3 (hpL h7 a10)) (gd (asV h7 none a10) (nm (wR h7 a10 y3.toNatClampNeg none) fun h15 => some h15))))
set_option maxRecDepth 100000 in
set_option maxHeartbeats 4000000 in
theorem zj_A_fastRemove_34_M {l : Launch} {C : Ct} {mi : Nat} {y0 : Nat} {y1 : Option Nat} {y3 : Int32} {h h' : Hp} (hf : j_A_fastRemove_34_M y0 y1 y3 h = some h') : Z l C mi m_A_fastRemove 1 34 [(0, vr (some y0)), (1, vr y1), (3, vi y3)] [] h none h' := by
  unfold j_A_fastRemove_34_M at hf
  refine z_aload_n 1 d_A_fastRemove_34 rfl rfl ?_
  refine z_aload_n 0 d_A_fastRemove_35 rfl rfl ?_
  refine z_iload_n 2 d_A_fastRemove_36 rfl rfl ?_
  refine z_dup_x1 d_A_fastRemove_37 rfl rfl ?_
  obtain ⟨g6, hf⟩ := gd_some hf
  obtain ⟨h7, eh8, hf⟩ := nm_some hf
  refine z_putI d_A_fastRemove_38 (fl_K (isK_eq g6) fl_A_48_9) (pu_K (isK_eq g6) (fun q hq => by cases (Option.some.inj hq); exact Or.inl rfl)) (fi_K (isK_eq g6) rfl) rfl ?_
  refine z_hp eh8 ?_
  refine z_aconst_null d_A_fastRemove_41 ?_
  obtain ⟨a10, e11, hf⟩ := dr_some hf
  obtain ⟨g12, hf⟩ := gd_some hf
  obtain ⟨g13, hf⟩ := gd_some hf
  obtain ⟨g14, hf⟩ := gd_some hf
  obtain ⟨h15, eh16, hf⟩ := nm_some hf
  refine z_aast d_A_fastRemove_42 e11 (isO_eq g12).1 (by rw [(isO_eq g12).2]; decide) (asV_ok g14) (inb_vp g13) ?_
  refine z_hp eh16 ?_
  cases (Option.some.inj hf)
  exact z_ret d_A_fastRemove_43 rfl
set_option maxRecDepth 100000 in
set_option maxHeartbeats 4000000 in
theorem kj_A_fastRemove_34_M {C : Ct} {mi : Nat} {y0 : Nat} {y1 : Option Nat} {y3 : Int32} {h h' : Hp} (hf : j_A_fastRemove_34_M y0 y1 y3 h = some h') : Keep W_A_fastRemove h h' := by
  unfold j_A_fastRemove_34_M at hf
  obtain ⟨g6, hf⟩ := gd_some hf
  obtain ⟨h7, eh8, hf⟩ := nm_some hf
  have K9 := (Keep.refl W_A_fastRemove _).trans (kw_I eh8 (isK_eq g6) (Or.inl (by decide)))
  obtain ⟨a10, e11, hf⟩ := dr_some hf
  obtain ⟨g12, hf⟩ := gd_some hf
  obtain ⟨g13, hf⟩ := gd_some hf
  obtain ⟨g14, hf⟩ := gd_some hf
  obtain ⟨h15, eh16, hf⟩ := nm_some hf
  have K17 := K9.trans (kw_RO eh16 g12 (by decide) (by decide))
  cases (Option.some.inj hf)
  exact K17
def f_A_fastRemove (a0 : Nat) (p1 : Option Nat) (p2 : Int32) (h : Hp) : Option Hp :=
  gd (isK h a0 9) (nm (wI h a0 2 ((hpI h a0 2) + (1 : Int32))) fun h2 => if ((hpI h2 a0 1) - (1 : Int32)) ≤ p2 then (j_A_fastRemove_34_M a0 p1 ((hpI h2 a0 1) - (1 : Int32)) h2) else (dr p1 fun a18 => gd (isO h2 a18 6) (gd (cpB h2 a18 a18 (p2 + (1 : Int32)) p2 (((hpI h2 a0 1) - (1 : Int32)) - p2)) (gd (cpE h2 a18 (p2 + (1 : Int32)) (((hpI h2 a0 1) - (1 : Int32)) - p2)) (nm (cpR h2 a18 (p2 + (1 : Int32)).toNatClampNeg a18 p2.toNatClampNeg (((hpI h2 a0 1) - (1 : Int32)) - p2).toNatClampNeg) fun h23 => j_A_fastRemove_34_M a0 p1 ((hpI h2 a0 1) - (1 : Int32)) h23)))))
set_option maxRecDepth 100000 in
set_option maxHeartbeats 4000000 in
theorem zf_A_fastRemove {l : Launch} {C : Ct} {mi : Nat} {a0 : Nat} {p1 : Option Nat} {p2 : Int32} {h h' : Hp} (hf : f_A_fastRemove a0 p1 p2 h = some h') : Z l C mi m_A_fastRemove 1 0 [(0, vr (some a0)), (1, vr p1), (2, vi p2)] [] h none h' := by
  unfold f_A_fastRemove at hf
  refine z_aload_n 0 d_A_fastRemove_0 rfl rfl ?_
  refine z_dup d_A_fastRemove_1 rfl ?_
  obtain ⟨g1, hf⟩ := gd_some hf
  refine z_getI d_A_fastRemove_2 (fl_K (isK_eq g1) fl_A_63_9) (fi_K (isK_eq g1) rfl) rfl ?_
  refine z_iconst (v := (1 : Int32)) d_A_fastRemove_5 rfl ?_
  refine z_iadd d_A_fastRemove_6 ?_
  obtain ⟨h2, eh3, hf⟩ := nm_some hf
  refine z_putI d_A_fastRemove_7 (fl_K (isK_eq g1) fl_A_63_9) (pu_K (isK_eq g1) (fun q hq => by cases (Option.some.inj hq); exact Or.inl rfl)) (fi_K (isK_eq g1) rfl) rfl ?_
  refine z_hp eh3 ?_
  refine z_aload_n 0 d_A_fastRemove_10 rfl rfl ?_
  refine z_getI d_A_fastRemove_11 (fl_K (isK_eq (isK_wI eh3 g1)) fl_A_48_9) (fi_K (isK_eq (isK_wI eh3 g1)) rfl) rfl ?_
  refine z_iconst (v := (1 : Int32)) d_A_fastRemove_14 rfl ?_
  refine z_isub d_A_fastRemove_15 ?_
  refine z_dup d_A_fastRemove_16 rfl ?_
  refine z_istore_n (ls2 := [(3, vi ((hpI h2 a0 1) - (1 : Int32))), (0, vr (some a0)), (1, vr p1), (2, vi p2)]) d_A_fastRemove_17 rfl (by decide) rfl ?_
  refine z_iload_n 3 d_A_fastRemove_18 rfl rfl ?_
  refine z_icmp_le (tgt := 34) d_A_fastRemove_19 (by decide) (fun c5 => ?_) (fun c5 => ?_)
  · rw [if_pos c5] at hf
    refine z_ls [1, 2, 0] rfl ?_
    exact zj_A_fastRemove_34_M hf
  · rw [if_neg c5] at hf
    refine z_aload_n 2 d_A_fastRemove_22 rfl rfl ?_
    refine z_iload_n 3 d_A_fastRemove_23 rfl rfl ?_
    refine z_iconst (v := (1 : Int32)) d_A_fastRemove_24 rfl ?_
    refine z_iadd d_A_fastRemove_25 ?_
    refine z_aload_n 2 d_A_fastRemove_26 rfl rfl ?_
    refine z_iload_n 3 d_A_fastRemove_27 rfl rfl ?_
    refine z_iload_n 0 d_A_fastRemove_28 rfl rfl ?_
    refine z_iload_n 3 d_A_fastRemove_29 rfl rfl ?_
    refine z_isub d_A_fastRemove_30 ?_
    obtain ⟨a18, e19, hf⟩ := dr_some hf
    obtain ⟨g20, hf⟩ := gd_some hf
    obtain ⟨g21, hf⟩ := gd_some hf
    obtain ⟨g22, hf⟩ := gd_some hf
    obtain ⟨h23, eh24, hf⟩ := nm_some hf
    refine z_copyR d_A_fastRemove_31 (show Cond.methodLink _ _ _ ∈ lw_w by decide +kernel) (by decide) (Nat.le_of_ble_eq_true rfl) e19 e19 (isO_eq g20).1 (isO_eq g20).2 (isO_eq g20).1 (isO_eq g20).2 (cpB_eq g21).1 (cpB_eq g21).2.1 (cpB_eq g21).2.2.1 (cpB_eq g21).2.2.2.1 (cpB_eq g21).2.2.2.2 (cpE_ok g22) ?_
    refine z_hp eh24 ?_
    refine z_ls [1, 2, 0] rfl ?_
    exact zj_A_fastRemove_34_M hf
set_option maxRecDepth 100000 in
set_option maxHeartbeats 4000000 in
theorem fr_A_fastRemove {C : Ct} {mi : Nat} {a0 : Nat} {p1 : Option Nat} {p2 : Int32} {h h' : Hp} (hf : f_A_fastRemove a0 p1 p2 h = some h') : Keep W_A_fastRemove h h' := by
  unfold f_A_fastRemove at hf
  obtain ⟨g1, hf⟩ := gd_some hf
  obtain ⟨h2, eh3, hf⟩ := nm_some hf
  have K4 := (Keep.refl W_A_fastRemove _).trans (kw_I eh3 (isK_eq g1) (Or.inl (by decide)))
  rcases Classical.em (((hpI h2 a0 1) - (1 : Int32)) ≤ p2) with c5 | c5
  · rw [if_pos c5] at hf
    exact K4.trans (kj_A_fastRemove_34_M (C := C) (mi := mi) hf)
  · rw [if_neg c5] at hf
    obtain ⟨a18, e19, hf⟩ := dr_some hf
    obtain ⟨g20, hf⟩ := gd_some hf
    obtain ⟨g21, hf⟩ := gd_some hf
    obtain ⟨g22, hf⟩ := gd_some hf
    obtain ⟨h23, eh24, hf⟩ := nm_some hf
    have K25 := K4.trans (kw_cO eh24 g20 (by decide) (by decide))
    exact K25.trans (kj_A_fastRemove_34_M (C := C) (mi := mi) hf)
theorem c_A_fastRemove {l : Launch} {C : Ct} {mi : Nat} {a0 : Nat} {p1 : Option Nat} {p2 : Int32} {h h' : Hp} (hf : f_A_fastRemove a0 p1 p2 h = some h') : Mt l C mi m_A_fastRemove 1 [vr (some a0), vr p1, vi p2] h none h' := mt_V rfl rfl (by decide) (Nat.le_of_ble_eq_true rfl) (zf_A_fastRemove hf)
-- java/util/ArrayList.remove(I)Ljava/lang/Object;
def m_A_remove : Mi := (⟨"java/util/ArrayList", "remove", "(I)Ljava/lang/Object;"⟩, prog_20_method_29_code, 4, (Option.some (Jvm.ClassFile.FieldType.object "java/lang/Object")), .areturn)
theorem cw_A_remove : cw_ok m_A_remove 1 := ⟨by decide +kernel, by decide +kernel, by decide +kernel, by decide +kernel⟩
theorem im_A_remove : Cond.instanceMethod m_A_remove.1 ∈ lw_w := by decide +kernel
theorem se_A_remove : Cond.selects "java/util/ArrayList" m_A_remove.1 m_A_remove.1 ∈ lw_w := by decide +kernel
theorem d_A_remove_0 : decode prog_20_method_29_code 0 = .ok (.iload_n 1, 1) := by decide +kernel
theorem d_A_remove_1 : decode prog_20_method_29_code 1 = .ok (.aload_n 0, 1) := by decide +kernel
theorem d_A_remove_2 : decode prog_20_method_29_code 2 = .ok (.getfield 48, 3) := by decide +kernel
theorem d_A_remove_5 : decode prog_20_method_29_code 5 = .ok (.invokestatic 118, 3) := by decide +kernel
theorem d_A_remove_8 : decode prog_20_method_29_code 8 = .ok (.pop, 1) := by decide +kernel
theorem d_A_remove_9 : decode prog_20_method_29_code 9 = .ok (.aload_n 0, 1) := by decide +kernel
theorem d_A_remove_10 : decode prog_20_method_29_code 10 = .ok (.getfield 9, 3) := by decide +kernel
theorem d_A_remove_13 : decode prog_20_method_29_code 13 = .ok (.astore_n 2, 1) := by decide +kernel
theorem d_A_remove_14 : decode prog_20_method_29_code 14 = .ok (.aload_n 2, 1) := by decide +kernel
theorem d_A_remove_15 : decode prog_20_method_29_code 15 = .ok (.iload_n 1, 1) := by decide +kernel
theorem d_A_remove_16 : decode prog_20_method_29_code 16 = .ok (.aaload, 1) := by decide +kernel
theorem d_A_remove_17 : decode prog_20_method_29_code 17 = .ok (.astore_n 3, 1) := by decide +kernel
theorem d_A_remove_18 : decode prog_20_method_29_code 18 = .ok (.aload_n 0, 1) := by decide +kernel
theorem d_A_remove_19 : decode prog_20_method_29_code 19 = .ok (.aload_n 2, 1) := by decide +kernel
theorem d_A_remove_20 : decode prog_20_method_29_code 20 = .ok (.iload_n 1, 1) := by decide +kernel
theorem d_A_remove_21 : decode prog_20_method_29_code 21 = .ok (.invokevirtual 144, 3) := by decide +kernel
theorem d_A_remove_24 : decode prog_20_method_29_code 24 = .ok (.aload_n 3, 1) := by decide +kernel
theorem d_A_remove_25 : decode prog_20_method_29_code 25 = .ok (.areturn, 1) := by decide +kernel
def W_A_remove : Wl := ([(9, 1), (9, 2)], [73, 74])
def f_A_remove (a0 : Nat) (p1 : Int32) (h : Hp) : Option (Option Nat × Hp) :=
  gd (isK h a0 9) (cl (f_Ob_checkIndex p1 (hpI h a0 1) h) fun v4 h2 => gd (isK h2 a0 9) (dr (hpR h2 a0 0) fun a7 => gd (isO h2 a7 6) (gd (inb p1 (hpL h2 a7)) (cv (f_A_fastRemove a0 (hpR h2 a0 0) p1 h2) fun h11 => some ((hpR h2 a7 p1.toNatClampNeg), h11)))))
set_option maxRecDepth 100000 in
set_option maxHeartbeats 4000000 in
theorem zf_A_remove {l : Launch} {C : Ct} {mi : Nat} {a0 : Nat} {p1 : Int32} {h h' : Hp} {v : Option Nat} (hf : f_A_remove a0 p1 h = some (v, h')) : Z l C mi m_A_remove 2 0 [(0, vr (some a0)), (1, vi p1)] [] h (some (vr v)) h' := by
  unfold f_A_remove at hf
  refine z_iload_n 1 d_A_remove_0 rfl rfl ?_
  refine z_aload_n 0 d_A_remove_1 rfl rfl ?_
  obtain ⟨g1, hf⟩ := gd_some hf
  refine z_getI d_A_remove_2 (fl_K (isK_eq g1) fl_A_48_9) (fi_K (isK_eq g1) rfl) rfl ?_
  obtain ⟨v4, h2, ec3, hf⟩ := cl_some hf
  refine z_callS (c_Ob_checkIndex ec3) d_A_remove_5 cw_Ob_checkIndex lk_A_118 (by decide +kernel) ⟨by decide, by decide⟩ (Nat.le_of_ble_eq_true rfl) rfl ?_
  refine z_pop d_A_remove_8 rfl ?_
  refine z_aload_n 0 d_A_remove_9 rfl rfl ?_
  obtain ⟨g6, hf⟩ := gd_some hf
  refine z_getR d_A_remove_10 (fl_K (isK_eq g6) fl_A_9_9) (fi_K (isK_eq g6) rfl) rfl ?_
  refine z_astore_n (ls2 := [(2, vr (hpR h2 a0 0)), (0, vr (some a0)), (1, vi p1)]) d_A_remove_13 rfl (by decide) rfl ?_
  refine z_aload_n 0 d_A_remove_14 rfl rfl ?_
  refine z_iload_n 2 d_A_remove_15 rfl rfl ?_
  obtain ⟨a7, e8, hf⟩ := dr_some hf
  obtain ⟨g9, hf⟩ := gd_some hf
  obtain ⟨g10, hf⟩ := gd_some hf
  refine z_aald d_A_remove_16 e8 (isO_eq g9).1 (by rw [(isO_eq g9).2]; decide) (inb_vp g10) ?_
  refine z_astore_n (ls2 := [(3, vr (hpR h2 a7 p1.toNatClampNeg)), (2, vr (hpR h2 a0 0)), (0, vr (some a0)), (1, vi p1)]) d_A_remove_17 rfl (by decide) rfl ?_
  refine z_aload_n 2 d_A_remove_18 rfl rfl ?_
  refine z_aload_n 1 d_A_remove_19 rfl rfl ?_
  refine z_iload_n 3 d_A_remove_20 rfl rfl ?_
  obtain ⟨h11, ec12, hf⟩ := cv_some hf
  refine z_callVx rfl (c_A_fastRemove ec12) d_A_remove_21 cw_A_fastRemove lk_A_144 im_A_fastRemove se_A_fastRemove (kc_K (isK_eq g6) kc_9) ⟨by decide, by decide⟩ (Nat.le_of_ble_eq_true rfl) rfl ?_
  refine z_aload_n 0 d_A_remove_24 rfl rfl ?_
  obtain ⟨rfl, rfl⟩ := Prod.mk.inj (Option.some.inj hf)
  exact z_ret d_A_remove_25 rfl
set_option maxRecDepth 100000 in
set_option maxHeartbeats 4000000 in
theorem fr_A_remove {C : Ct} {mi : Nat} {a0 : Nat} {p1 : Int32} {h h' : Hp} {v : Option Nat} (hf : f_A_remove a0 p1 h = some (v, h')) : Keep W_A_remove h h' := by
  unfold f_A_remove at hf
  obtain ⟨g1, hf⟩ := gd_some hf
  obtain ⟨v4, h2, ec3, hf⟩ := cl_some hf
  have K5 := (Keep.refl W_A_remove _).trans ((fr_Ob_checkIndex (C := C) (mi := mi) ec3).mono (by decide) (by decide))
  obtain ⟨g6, hf⟩ := gd_some hf
  obtain ⟨a7, e8, hf⟩ := dr_some hf
  obtain ⟨g9, hf⟩ := gd_some hf
  obtain ⟨g10, hf⟩ := gd_some hf
  obtain ⟨h11, ec12, hf⟩ := cv_some hf
  have K13 := K5.trans ((fr_A_fastRemove (C := C) (mi := mi) ec12).mono (by decide) (by decide))
  obtain ⟨rfl, rfl⟩ := Prod.mk.inj (Option.some.inj hf)
  exact K13
theorem c_A_remove {l : Launch} {C : Ct} {mi : Nat} {a0 : Nat} {p1 : Int32} {h h' : Hp} {v : Option Nat} (hf : f_A_remove a0 p1 h = some (v, h')) : Mt l C mi m_A_remove 2 [vr (some a0), vi p1] h (some (vr v)) h' := mt_R rfl (Or.inl ⟨_, rfl⟩) rfl (by decide) (Nat.le_of_ble_eq_true rfl) (zf_A_remove hf)
-- java/util/ArrayList.clear()V
def m_A_clear : Mi := (⟨"java/util/ArrayList", "clear", "()V"⟩, prog_20_method_40_code, 4, (Option.none : Option Jvm.ClassFile.FieldType), .return_)
theorem cw_A_clear : cw_ok m_A_clear 0 := ⟨by decide +kernel, by decide +kernel, by decide +kernel, by decide +kernel⟩
theorem im_A_clear : Cond.instanceMethod m_A_clear.1 ∈ lw_w := by decide +kernel
theorem se_A_clear : Cond.selects "java/util/ArrayList" m_A_clear.1 m_A_clear.1 ∈ lw_w := by decide +kernel
theorem d_A_clear_0 : decode prog_20_method_40_code 0 = .ok (.aload_n 0, 1) := by decide +kernel
theorem d_A_clear_1 : decode prog_20_method_40_code 1 = .ok (.dup, 1) := by decide +kernel
theorem d_A_clear_2 : decode prog_20_method_40_code 2 = .ok (.getfield 63, 3) := by decide +kernel
theorem d_A_clear_5 : decode prog_20_method_40_code 5 = .ok (.iconst 1, 1) := by decide +kernel
theorem d_A_clear_6 : decode prog_20_method_40_code 6 = .ok (.iadd, 1) := by decide +kernel
theorem d_A_clear_7 : decode prog_20_method_40_code 7 = .ok (.putfield 63, 3) := by decide +kernel
theorem d_A_clear_10 : decode prog_20_method_40_code 10 = .ok (.aload_n 0, 1) := by decide +kernel
theorem d_A_clear_11 : decode prog_20_method_40_code 11 = .ok (.getfield 9, 3) := by decide +kernel
theorem d_A_clear_14 : decode prog_20_method_40_code 14 = .ok (.astore_n 1, 1) := by decide +kernel
theorem d_A_clear_15 : decode prog_20_method_40_code 15 = .ok (.aload_n 0, 1) := by decide +kernel
theorem d_A_clear_16 : decode prog_20_method_40_code 16 = .ok (.getfield 48, 3) := by decide +kernel
theorem d_A_clear_19 : decode prog_20_method_40_code 19 = .ok (.istore_n 2, 1) := by decide +kernel
theorem d_A_clear_20 : decode prog_20_method_40_code 20 = .ok (.aload_n 0, 1) := by decide +kernel
theorem d_A_clear_21 : decode prog_20_method_40_code 21 = .ok (.iconst 0, 1) := by decide +kernel
theorem d_A_clear_22 : decode prog_20_method_40_code 22 = .ok (.dup_x1, 1) := by decide +kernel
theorem d_A_clear_23 : decode prog_20_method_40_code 23 = .ok (.putfield 48, 3) := by decide +kernel
theorem d_A_clear_26 : decode prog_20_method_40_code 26 = .ok (.istore_n 3, 1) := by decide +kernel
theorem d_A_clear_27 : decode prog_20_method_40_code 27 = .ok (.iload_n 3, 1) := by decide +kernel
theorem d_A_clear_28 : decode prog_20_method_40_code 28 = .ok (.iload_n 2, 1) := by decide +kernel
theorem d_A_clear_29 : decode prog_20_method_40_code 29 = .ok (.if_icmp .ge 13, 3) := by decide +kernel
theorem d_A_clear_32 : decode prog_20_method_40_code 32 = .ok (.aload_n 1, 1) := by decide +kernel
theorem d_A_clear_33 : decode prog_20_method_40_code 33 = .ok (.iload_n 3, 1) := by decide +kernel
theorem d_A_clear_34 : decode prog_20_method_40_code 34 = .ok (.aconst_null, 1) := by decide +kernel
theorem d_A_clear_35 : decode prog_20_method_40_code 35 = .ok (.aastore, 1) := by decide +kernel
theorem d_A_clear_36 : decode prog_20_method_40_code 36 = .ok (.iinc 3 1, 3) := by decide +kernel
theorem d_A_clear_39 : decode prog_20_method_40_code 39 = .ok (.goto (-12), 3) := by decide +kernel
theorem d_A_clear_42 : decode prog_20_method_40_code 42 = .ok (.return_, 1) := by decide +kernel
def W_A_clear : Wl := ([(9, 1), (9, 2)], [73, 74])
def b_A_clear_27 (y1 : Option Nat) (y2 : Int32) (y3 : Int32) (h : Hp) : Option ((Int32 × Hp) ⊕ (Hp)) :=
  if y2 ≤ y3 then (some (.inr h)) else (dr y1 fun a9 => gd (isO h a9 6) (gd (inb y3 (hpL h a9)) (gd (asV h none a9) (nm (wR h a9 y3.toNatClampNeg none) fun h14 => some (.inl ((y3 + (1 : Int32)), h14))))))
set_option maxRecDepth 100000 in
set_option maxHeartbeats 4000000 in
theorem zb_A_clear_27 {l : Launch} {C : Ct} {mi : Nat} {y1 : Option Nat} {y2 : Int32} {y3 : Int32} {h h' : Hp} {q : ((Int32 × Hp) ⊕ (Hp))} (hf : b_A_clear_27 y1 y2 y3 h = some q) (kc : ∀ s, q = .inl s → Z l C mi m_A_clear 0 27 [(1, vr y1), (2, vi y2), (3, vi s.1)] [] s.2 none h') (ke : ∀ x, q = .inr x → Z l C mi m_A_clear 0 42 [] [] x none h') : Z l C mi m_A_clear 0 27 [(1, vr y1), (2, vi y2), (3, vi y3)] [] h none h' := by
  unfold b_A_clear_27 at hf
  refine z_iload_n 2 d_A_clear_27 rfl rfl ?_
  refine z_iload_n 1 d_A_clear_28 rfl rfl ?_
  refine z_icmp_ge (tgt := 42) d_A_clear_29 (by decide) (fun c8 => ?_) (fun c8 => ?_)
  · rw [if_pos c8] at hf
    refine z_ls [] rfl ?_
    exact ke h (Option.some.inj hf).symm
  · rw [if_neg c8] at hf
    refine z_aload_n 0 d_A_clear_32 rfl rfl ?_
    refine z_iload_n 2 d_A_clear_33 rfl rfl ?_
    refine z_aconst_null d_A_clear_34 ?_
    obtain ⟨a9, e10, hf⟩ := dr_some hf
    obtain ⟨g11, hf⟩ := gd_some hf
    obtain ⟨g12, hf⟩ := gd_some hf
    obtain ⟨g13, hf⟩ := gd_some hf
    obtain ⟨h14, eh15, hf⟩ := nm_some hf
    refine z_aast d_A_clear_35 e10 (isO_eq g11).1 (by rw [(isO_eq g11).2]; decide) (asV_ok g13) (inb_vp g12) ?_
    refine z_hp eh15 ?_
    refine z_iinc (ls2 := [(3, vi (y3 + (1 : Int32))), (1, vr y1), (2, vi y2)]) 2 d_A_clear_36 rfl rfl (by decide) rfl ?_
    refine z_goto (tgt := 27) d_A_clear_39 (by decide) ?_
    refine z_ls [1, 2, 0] rfl ?_
    exact kc ((y3 + (1 : Int32)), h14) (Option.some.inj hf).symm
set_option maxRecDepth 100000 in
set_option maxHeartbeats 4000000 in
theorem kb_A_clear_27 {C : Ct} {mi : Nat} {y1 : Option Nat} {y2 : Int32} {y3 : Int32} {h : Hp} {q : ((Int32 × Hp) ⊕ (Hp))} (hf : b_A_clear_27 y1 y2 y3 h = some q) : Keep W_A_clear h (Sum.elim (fun s : Int32 × Hp => s.2) (fun x : Hp => x) q) := by
  unfold b_A_clear_27 at hf
  rcases Classical.em (y2 ≤ y3) with c8 | c8
  · rw [if_pos c8] at hf
    cases (Option.some.inj hf)
    exact (Keep.refl W_A_clear _)
  · rw [if_neg c8] at hf
    obtain ⟨a9, e10, hf⟩ := dr_some hf
    obtain ⟨g11, hf⟩ := gd_some hf
    obtain ⟨g12, hf⟩ := gd_some hf
    obtain ⟨g13, hf⟩ := gd_some hf
    obtain ⟨h14, eh15, hf⟩ := nm_some hf
    have K16 := (Keep.refl W_A_clear _).trans (kw_RO eh15 g11 (by decide) (by decide))
    cases (Option.some.inj hf)
    exact K16
def l_A_clear_27 (y1 : Option Nat) (y2 : Int32) (s : Int32 × Hp) : Option (Hp) := lp (fun s => b_A_clear_27 y1 y2 s.1 s.2) FU s
theorem zzl_A_clear_27 {l : Launch} {C : Ct} {mi : Nat} {y1 : Option Nat} {y2 : Int32} {h' : Hp} : ∀ (n : Nat) (s : Int32 × Hp) (x : (Hp)), lp (fun s : Int32 × Hp => b_A_clear_27 y1 y2 s.1 s.2) n s = some x → Z l C mi m_A_clear 0 42 [] [] x none h' → Z l C mi m_A_clear 0 27 [(1, vr y1), (2, vi y2), (3, vi s.1)] [] s.2 none h' := by
  intro n
  induction n with
  | zero => intro s x hl; cases hl
  | succ n ih =>
    intro s x hl ke
    rcases lp_some hl with ⟨s2, hb, hl2⟩ | hb
    · exact zb_A_clear_27 hb (fun s3 e3 => by cases e3; refine z_ls [0, 1, 2] rfl ?_; exact ih s2 x hl2 ke) (fun x e3 => by cases e3)
    · exact zb_A_clear_27 hb (fun s3 e3 => by cases e3) (fun x e3 => by cases e3; exact ke)
theorem zl_A_clear_27 {l : Launch} {C : Ct} {mi : Nat} {y1 : Option Nat} {y2 : Int32} {h' : Hp} {s : Int32 × Hp} {x : (Hp)} (hl : l_A_clear_27 y1 y2 s = some x) (ke : Z l C mi m_A_clear 0 42 [] [] x none h') : Z l C mi m_A_clear 0 27 [(1, vr y1), (2, vi y2), (3, vi s.1)] [] s.2 none h' := zzl_A_clear_27 FU s x hl ke
theorem kl_A_clear_27 {C : Ct} {mi : Nat} {y1 : Option Nat} {y2 : Int32} {s : Int32 × Hp} {q : (Hp)} (hl : l_A_clear_27 y1 y2 s = some q) : Keep W_A_clear s.2 ((fun x : Hp => x) q) := lpk (sh := (fun s : Int32 × Hp => s.2)) (rh := (fun x : Hp => x)) (fun s q hb => kb_A_clear_27 (C := C) (mi := mi) hb) FU s q hl
def f_A_clear (a0 : Nat) (h : Hp) : Option Hp :=
  gd (isK h a0 9) (nm (wI h a0 2 ((hpI h a0 2) + (1 : Int32))) fun h2 => nm (wI h2 a0 1 (0 : Int32)) fun h5 => bd (l_A_clear_27 (hpR h2 a0 0) (hpI h2 a0 1) ((0 : Int32), h5)) fun x17 => some x17)
set_option maxRecDepth 100000 in
set_option maxHeartbeats 4000000 in
theorem zf_A_clear {l : Launch} {C : Ct} {mi : Nat} {a0 : Nat} {h h' : Hp} (hf : f_A_clear a0 h = some h') : Z l C mi m_A_clear 0 0 [(0, vr (some a0))] [] h none h' := by
  unfold f_A_clear at hf
  refine z_aload_n 0 d_A_clear_0 rfl rfl ?_
  refine z_dup d_A_clear_1 rfl ?_
  obtain ⟨g1, hf⟩ := gd_some hf
  refine z_getI d_A_clear_2 (fl_K (isK_eq g1) fl_A_63_9) (fi_K (isK_eq g1) rfl) rfl ?_
  refine z_iconst (v := (1 : Int32)) d_A_clear_5 rfl ?_
  refine z_iadd d_A_clear_6 ?_
  obtain ⟨h2, eh3, hf⟩ := nm_some hf
  refine z_putI d_A_clear_7 (fl_K (isK_eq g1) fl_A_63_9) (pu_K (isK_eq g1) (fun q hq => by cases (Option.some.inj hq); exact Or.inl rfl)) (fi_K (isK_eq g1) rfl) rfl ?_
  refine z_hp eh3 ?_
  refine z_aload_n 0 d_A_clear_10 rfl rfl ?_
  refine z_getR d_A_clear_11 (fl_K (isK_eq (isK_wI eh3 g1)) fl_A_9_9) (fi_K (isK_eq (isK_wI eh3 g1)) rfl) rfl ?_
  refine z_astore_n (ls2 := [(1, vr (hpR h2 a0 0)), (0, vr (some a0))]) d_A_clear_14 rfl (by decide) rfl ?_
  refine z_aload_n 1 d_A_clear_15 rfl rfl ?_
  refine z_getI d_A_clear_16 (fl_K (isK_eq (isK_wI eh3 g1)) fl_A_48_9) (fi_K (isK_eq (isK_wI eh3 g1)) rfl) rfl ?_
  refine z_istore_n (ls2 := [(2, vi (hpI h2 a0 1)), (1, vr (hpR h2 a0 0)), (0, vr (some a0))]) d_A_clear_19 rfl (by decide) rfl ?_
  refine z_aload_n 2 d_A_clear_20 rfl rfl ?_
  refine z_iconst (v := (0 : Int32)) d_A_clear_21 rfl ?_
  refine z_dup_x1 d_A_clear_22 rfl rfl ?_
  obtain ⟨h5, eh6, hf⟩ := nm_some hf
  refine z_putI d_A_clear_23 (fl_K (isK_eq (isK_wI eh3 g1)) fl_A_48_9) (pu_K (isK_eq (isK_wI eh3 g1)) (fun q hq => by cases (Option.some.inj hq); exact Or.inl rfl)) (fi_K (isK_eq (isK_wI eh3 g1)) rfl) rfl ?_
  refine z_hp eh6 ?_
  refine z_istore_n (ls2 := [(3, vi (0 : Int32)), (2, vi (hpI h2 a0 1)), (1, vr (hpR h2 a0 0)), (0, vr (some a0))]) d_A_clear_26 rfl (by decide) rfl ?_
  obtain ⟨x17, el18, hf⟩ := bd_some hf
  refine z_ls [2, 1, 0] rfl ?_
  refine zl_A_clear_27 el18 ?_
  cases (Option.some.inj hf)
  exact z_ret d_A_clear_42 rfl
set_option maxRecDepth 100000 in
set_option maxHeartbeats 4000000 in
theorem fr_A_clear {C : Ct} {mi : Nat} {a0 : Nat} {h h' : Hp} (hf : f_A_clear a0 h = some h') : Keep W_A_clear h h' := by
  unfold f_A_clear at hf
  obtain ⟨g1, hf⟩ := gd_some hf
  obtain ⟨h2, eh3, hf⟩ := nm_some hf
  have K4 := (Keep.refl W_A_clear _).trans (kw_I eh3 (isK_eq g1) (Or.inl (by decide)))
  obtain ⟨h5, eh6, hf⟩ := nm_some hf
  have K7 := K4.trans (kw_I eh6 (isK_eq (isK_wI eh3 g1)) (Or.inl (by decide)))
  obtain ⟨x17, el18, hf⟩ := bd_some hf
  have K19 := K7.trans (kl_A_clear_27 (C := C) (mi := mi) el18)
  cases (Option.some.inj hf)
  exact K19
theorem c_A_clear {l : Launch} {C : Ct} {mi : Nat} {a0 : Nat} {h h' : Hp} (hf : f_A_clear a0 h = some h') : Mt l C mi m_A_clear 0 [vr (some a0)] h none h' := mt_V rfl rfl (by decide) (Nat.le_of_ble_eq_true rfl) (zf_A_clear hf)
-- java/lang/Integer.bitCount(I)I
def m_In_bitCount : Mi := (⟨"java/lang/Integer", "bitCount", "(I)I"⟩, prog_14_method_49_code, 1, (Option.some Jvm.ClassFile.FieldType.int), .ireturn)
theorem cw_In_bitCount : cw_ok m_In_bitCount 1 := ⟨by decide +kernel, by decide +kernel, by decide +kernel, by decide +kernel⟩
theorem d_In_bitCount_0 : decode prog_14_method_49_code 0 = .ok (.iload_n 0, 1) := by decide +kernel
theorem d_In_bitCount_1 : decode prog_14_method_49_code 1 = .ok (.iload_n 0, 1) := by decide +kernel
theorem d_In_bitCount_2 : decode prog_14_method_49_code 2 = .ok (.iconst 1, 1) := by decide +kernel
theorem d_In_bitCount_3 : decode prog_14_method_49_code 3 = .ok (.iushr, 1) := by decide +kernel
theorem d_In_bitCount_4 : decode prog_14_method_49_code 4 = .ok (.ldc_w 265, 3) := by decide +kernel
theorem d_In_bitCount_7 : decode prog_14_method_49_code 7 = .ok (.iand, 1) := by decide +kernel
theorem d_In_bitCount_8 : decode prog_14_method_49_code 8 = .ok (.isub, 1) := by decide +kernel
theorem d_In_bitCount_9 : decode prog_14_method_49_code 9 = .ok (.istore_n 0, 1) := by decide +kernel
theorem d_In_bitCount_10 : decode prog_14_method_49_code 10 = .ok (.iload_n 0, 1) := by decide +kernel
theorem d_In_bitCount_11 : decode prog_14_method_49_code 11 = .ok (.ldc_w 266, 3) := by decide +kernel
theorem d_In_bitCount_14 : decode prog_14_method_49_code 14 = .ok (.iand, 1) := by decide +kernel
theorem d_In_bitCount_15 : decode prog_14_method_49_code 15 = .ok (.iload_n 0, 1) := by decide +kernel
theorem d_In_bitCount_16 : decode prog_14_method_49_code 16 = .ok (.iconst 2, 1) := by decide +kernel
theorem d_In_bitCount_17 : decode prog_14_method_49_code 17 = .ok (.iushr, 1) := by decide +kernel
theorem d_In_bitCount_18 : decode prog_14_method_49_code 18 = .ok (.ldc_w 266, 3) := by decide +kernel
theorem d_In_bitCount_21 : decode prog_14_method_49_code 21 = .ok (.iand, 1) := by decide +kernel
theorem d_In_bitCount_22 : decode prog_14_method_49_code 22 = .ok (.iadd, 1) := by decide +kernel
theorem d_In_bitCount_23 : decode prog_14_method_49_code 23 = .ok (.istore_n 0, 1) := by decide +kernel
theorem d_In_bitCount_24 : decode prog_14_method_49_code 24 = .ok (.iload_n 0, 1) := by decide +kernel
theorem d_In_bitCount_25 : decode prog_14_method_49_code 25 = .ok (.iload_n 0, 1) := by decide +kernel
theorem d_In_bitCount_26 : decode prog_14_method_49_code 26 = .ok (.iconst 4, 1) := by decide +kernel
theorem d_In_bitCount_27 : decode prog_14_method_49_code 27 = .ok (.iushr, 1) := by decide +kernel
theorem d_In_bitCount_28 : decode prog_14_method_49_code 28 = .ok (.iadd, 1) := by decide +kernel
theorem d_In_bitCount_29 : decode prog_14_method_49_code 29 = .ok (.ldc_w 267, 3) := by decide +kernel
theorem d_In_bitCount_32 : decode prog_14_method_49_code 32 = .ok (.iand, 1) := by decide +kernel
theorem d_In_bitCount_33 : decode prog_14_method_49_code 33 = .ok (.istore_n 0, 1) := by decide +kernel
theorem d_In_bitCount_34 : decode prog_14_method_49_code 34 = .ok (.iload_n 0, 1) := by decide +kernel
theorem d_In_bitCount_35 : decode prog_14_method_49_code 35 = .ok (.iload_n 0, 1) := by decide +kernel
theorem d_In_bitCount_36 : decode prog_14_method_49_code 36 = .ok (.bipush 8, 2) := by decide +kernel
theorem d_In_bitCount_38 : decode prog_14_method_49_code 38 = .ok (.iushr, 1) := by decide +kernel
theorem d_In_bitCount_39 : decode prog_14_method_49_code 39 = .ok (.iadd, 1) := by decide +kernel
theorem d_In_bitCount_40 : decode prog_14_method_49_code 40 = .ok (.istore_n 0, 1) := by decide +kernel
theorem d_In_bitCount_41 : decode prog_14_method_49_code 41 = .ok (.iload_n 0, 1) := by decide +kernel
theorem d_In_bitCount_42 : decode prog_14_method_49_code 42 = .ok (.iload_n 0, 1) := by decide +kernel
theorem d_In_bitCount_43 : decode prog_14_method_49_code 43 = .ok (.bipush 16, 2) := by decide +kernel
theorem d_In_bitCount_45 : decode prog_14_method_49_code 45 = .ok (.iushr, 1) := by decide +kernel
theorem d_In_bitCount_46 : decode prog_14_method_49_code 46 = .ok (.iadd, 1) := by decide +kernel
theorem d_In_bitCount_47 : decode prog_14_method_49_code 47 = .ok (.istore_n 0, 1) := by decide +kernel
theorem d_In_bitCount_48 : decode prog_14_method_49_code 48 = .ok (.iload_n 0, 1) := by decide +kernel
theorem d_In_bitCount_49 : decode prog_14_method_49_code 49 = .ok (.bipush 63, 2) := by decide +kernel
theorem d_In_bitCount_51 : decode prog_14_method_49_code 51 = .ok (.iand, 1) := by decide +kernel
theorem d_In_bitCount_52 : decode prog_14_method_49_code 52 = .ok (.ireturn, 1) := by decide +kernel
def W_In_bitCount : Wl := ([], [])
def f_In_bitCount (p1 : Int32) (h : Hp) : Option (Int32 × Hp) :=
  nm ((p1 - ((ushr p1 (1 : Int32)) &&& (1431655765 : Int32)))) fun x1 => nm (((x1 &&& (858993459 : Int32)) + ((ushr x1 (2 : Int32)) &&& (858993459 : Int32)))) fun x3 => nm (((x3 + (ushr x3 (4 : Int32))) &&& (252645135 : Int32))) fun x5 => nm (((x5 + (ushr x5 (8 : Int32))) + (ushr (x5 + (ushr x5 (8 : Int32))) (16 : Int32)))) fun x7 => some ((x7 &&& (63 : Int32)), h)
set_option maxRecDepth 100000 in
set_option maxHeartbeats 4000000 in
theorem zf_In_bitCount {l : Launch} {C : Ct} {mi : Nat} {p1 : Int32} {h h' : Hp} {v : Int32} (hf : f_In_bitCount p1 h = some (v, h')) : Z l C mi m_In_bitCount 0 0 [(0, vi p1)] [] h (some (vi v)) h' := by
  unfold f_In_bitCount at hf
  refine z_iload_n 0 d_In_bitCount_0 rfl rfl ?_
  refine z_iload_n 0 d_In_bitCount_1 rfl rfl ?_
  refine z_iconst (v := (1 : Int32)) d_In_bitCount_2 rfl ?_
  refine z_iushr d_In_bitCount_3 ?_
  refine z_ldcw (v := (1431655765 : Int32)) d_In_bitCount_4 (by decide +kernel) ?_
  refine z_iand d_In_bitCount_7 ?_
  refine z_isub d_In_bitCount_8 ?_
  obtain ⟨x1, ex2, hf⟩ := nm_some hf
  refine z_topi ex2 ?_
  refine z_istore_n (ls2 := [(0, vi x1)]) d_In_bitCount_9 rfl (by decide) rfl ?_
  refine z_iload_n 0 d_In_bitCount_10 rfl rfl ?_
  refine z_ldcw (v := (858993459 : Int32)) d_In_bitCount_11 (by decide +kernel) ?_
  refine z_iand d_In_bitCount_14 ?_
  refine z_iload_n 0 d_In_bitCount_15 rfl rfl ?_
  refine z_iconst (v := (2 : Int32)) d_In_bitCount_16 rfl ?_
  refine z_iushr d_In_bitCount_17 ?_
  refine z_ldcw (v := (858993459 : Int32)) d_In_bitCount_18 (by decide +kernel) ?_
  refine z_iand d_In_bitCount_21 ?_
  refine z_iadd d_In_bitCount_22 ?_
  obtain ⟨x3, ex4, hf⟩ := nm_some hf
  refine z_topi ex4 ?_
  refine z_istore_n (ls2 := [(0, vi x3)]) d_In_bitCount_23 rfl (by decide) rfl ?_
  refine z_iload_n 0 d_In_bitCount_24 rfl rfl ?_
  refine z_iload_n 0 d_In_bitCount_25 rfl rfl ?_
  refine z_iconst (v := (4 : Int32)) d_In_bitCount_26 rfl ?_
  refine z_iushr d_In_bitCount_27 ?_
  refine z_iadd d_In_bitCount_28 ?_
  refine z_ldcw (v := (252645135 : Int32)) d_In_bitCount_29 (by decide +kernel) ?_
  refine z_iand d_In_bitCount_32 ?_
  obtain ⟨x5, ex6, hf⟩ := nm_some hf
  refine z_topi ex6 ?_
  refine z_istore_n (ls2 := [(0, vi x5)]) d_In_bitCount_33 rfl (by decide) rfl ?_
  refine z_iload_n 0 d_In_bitCount_34 rfl rfl ?_
  refine z_iload_n 0 d_In_bitCount_35 rfl rfl ?_
  refine z_bipush (v := (8 : Int32)) d_In_bitCount_36 (by decide) ?_
  refine z_iushr d_In_bitCount_38 ?_
  refine z_iadd d_In_bitCount_39 ?_
  refine z_istore_n (ls2 := [(0, vi (x5 + (ushr x5 (8 : Int32))))]) d_In_bitCount_40 rfl (by decide) rfl ?_
  refine z_iload_n 0 d_In_bitCount_41 rfl rfl ?_
  refine z_iload_n 0 d_In_bitCount_42 rfl rfl ?_
  refine z_bipush (v := (16 : Int32)) d_In_bitCount_43 (by decide) ?_
  refine z_iushr d_In_bitCount_45 ?_
  refine z_iadd d_In_bitCount_46 ?_
  obtain ⟨x7, ex8, hf⟩ := nm_some hf
  refine z_topi ex8 ?_
  refine z_istore_n (ls2 := [(0, vi x7)]) d_In_bitCount_47 rfl (by decide) rfl ?_
  refine z_iload_n 0 d_In_bitCount_48 rfl rfl ?_
  refine z_bipush (v := (63 : Int32)) d_In_bitCount_49 (by decide) ?_
  refine z_iand d_In_bitCount_51 ?_
  obtain ⟨rfl, rfl⟩ := Prod.mk.inj (Option.some.inj hf)
  exact z_ret d_In_bitCount_52 rfl
set_option maxRecDepth 100000 in
set_option maxHeartbeats 4000000 in
theorem fr_In_bitCount {C : Ct} {mi : Nat} {p1 : Int32} {h h' : Hp} {v : Int32} (hf : f_In_bitCount p1 h = some (v, h')) : Keep W_In_bitCount h h' := by
  unfold f_In_bitCount at hf
  obtain ⟨x1, ex2, hf⟩ := nm_some hf
  obtain ⟨x3, ex4, hf⟩ := nm_some hf
  obtain ⟨x5, ex6, hf⟩ := nm_some hf
  obtain ⟨x7, ex8, hf⟩ := nm_some hf
  obtain ⟨rfl, rfl⟩ := Prod.mk.inj (Option.some.inj hf)
  exact (Keep.refl W_In_bitCount _)
theorem c_In_bitCount {l : Launch} {C : Ct} {mi : Nat} {p1 : Int32} {h h' : Hp} {v : Int32} (hf : f_In_bitCount p1 h = some (v, h')) : Mt l C mi m_In_bitCount 0 [vi p1] h (some (vi v)) h' := mt_I (ty := .int) rfl rfl rfl (by decide) (Nat.le_of_ble_eq_true rfl) (zf_In_bitCount hf)
end
section
-- VersionMaps$Present.<init>()V
def m_P_init : Mi := (⟨"VersionMaps$Present", "<init>", "()V"⟩, prog_7_method_1_code, 1, (Option.none : Option Jvm.ClassFile.FieldType), .return_)
theorem cw_P_init : cw_ok m_P_init 0 := ⟨by decide +kernel, by decide +kernel, by decide +kernel, by decide +kernel⟩
theorem im_P_init : Cond.instanceMethod m_P_init.1 ∈ lw_w := by decide +kernel
theorem d_P_init_0 : decode prog_7_method_1_code 0 = .ok (.aload_n 0, 1) := by decide +kernel
theorem d_P_init_1 : decode prog_7_method_1_code 1 = .ok (.invokespecial 3, 3) := by decide +kernel
theorem d_P_init_4 : decode prog_7_method_1_code 4 = .ok (.aload_n 0, 1) := by decide +kernel
theorem d_P_init_5 : decode prog_7_method_1_code 5 = .ok (.sipush 128, 3) := by decide +kernel
theorem d_P_init_8 : decode prog_7_method_1_code 8 = .ok (.newarray .int, 2) := by decide +kernel
theorem d_P_init_10 : decode prog_7_method_1_code 10 = .ok (.putfield 9, 3) := by decide +kernel
theorem d_P_init_13 : decode prog_7_method_1_code 13 = .ok (.aload_n 0, 1) := by decide +kernel
theorem d_P_init_14 : decode prog_7_method_1_code 14 = .ok (.iconst 4, 1) := by decide +kernel
theorem d_P_init_15 : decode prog_7_method_1_code 15 = .ok (.newarray .int, 2) := by decide +kernel
theorem d_P_init_17 : decode prog_7_method_1_code 17 = .ok (.putfield 15, 3) := by decide +kernel
theorem d_P_init_20 : decode prog_7_method_1_code 20 = .ok (.aload_n 0, 1) := by decide +kernel
theorem d_P_init_21 : decode prog_7_method_1_code 21 = .ok (.iconst 0, 1) := by decide +kernel
theorem d_P_init_22 : decode prog_7_method_1_code 22 = .ok (.putfield 18, 3) := by decide +kernel
theorem d_P_init_25 : decode prog_7_method_1_code 25 = .ok (.aload_n 0, 1) := by decide +kernel
theorem d_P_init_26 : decode prog_7_method_1_code 26 = .ok (.iconst 0, 1) := by decide +kernel
theorem d_P_init_27 : decode prog_7_method_1_code 27 = .ok (.putfield 22, 3) := by decide +kernel
theorem d_P_init_30 : decode prog_7_method_1_code 30 = .ok (.return_, 1) := by decide +kernel
def W_P_init : Wl := ([(5, 0), (5, 1), (5, 2), (5, 3)], [])
def f_P_init (a0 : Nat) (h : Hp) : Option Hp :=
  nm (nw h 66 128 128) fun h1 => gd (isK h1 a0 5) (nm (wR h1 a0 0 (some (hpN h))) fun h5 => nm (nw h5 67 4 4) fun h8 => gd (isK h8 a0 5) (nm (wR h8 a0 1 (some (hpN h5))) fun h12 => nm (wI h12 a0 2 (0 : Int32)) fun h15 => nm (wI h15 a0 3 (0 : Int32)) fun h18 => some h18))
set_option maxRecDepth 100000 in
set_option maxHeartbeats 4000000 in
theorem zf_P_init {l : Launch} {C : Ct} {mi : Nat} {a0 : Nat} {h h' : Hp} (hf : f_P_init a0 h = some h') : Z l C mi m_P_init 1 0 [(0, vr (some a0))] [] h none h' := by
  unfold f_P_init at hf
  refine z_aload_n 0 d_P_init_0 rfl rfl ?_
  refine z_oinit d_P_init_1 (by decide +kernel) rfl (by decide) (Nat.le_of_ble_eq_true rfl) ?_
  refine z_aload_n 0 d_P_init_4 rfl rfl ?_
  refine z_sipush (v := (128 : Int32)) d_P_init_5 (by decide) ?_
  obtain ⟨h1, eh2, hf⟩ := nm_some hf
  refine z_newI (N := 128) (κ := 66) d_P_init_8 (by decide) rfl (by decide) (by decide) (by decide) ?_
  refine z_hp eh2 ?_
  obtain ⟨g4, hf⟩ := gd_some hf
  obtain ⟨h5, eh6, hf⟩ := nm_some hf
  refine z_putR d_P_init_10 (fl_K (isK_eq g4) fl_P_9_5) (pu_K (isK_eq g4) (fun q hq => by cases (Option.some.inj hq); exact Or.inr ⟨rfl, rfl⟩)) (fi_K (isK_eq g4) rfl) rfl ?_
  refine z_hp eh6 ?_
  refine z_aload_n 0 d_P_init_13 rfl rfl ?_
  refine z_iconst (v := (4 : Int32)) d_P_init_14 rfl ?_
  obtain ⟨h8, eh9, hf⟩ := nm_some hf
  refine z_newI (N := 4) (κ := 67) d_P_init_15 (by decide) rfl (by decide) (by decide) (by decide) ?_
  refine z_hp eh9 ?_
  obtain ⟨g11, hf⟩ := gd_some hf
  obtain ⟨h12, eh13, hf⟩ := nm_some hf
  refine z_putR d_P_init_17 (fl_K (isK_eq g11) fl_P_15_5) (pu_K (isK_eq g11) (fun q hq => by cases (Option.some.inj hq); exact Or.inr ⟨rfl, rfl⟩)) (fi_K (isK_eq g11) rfl) rfl ?_
  refine z_hp eh13 ?_
  refine z_aload_n 0 d_P_init_20 rfl rfl ?_
  refine z_iconst (v := (0 : Int32)) d_P_init_21 rfl ?_
  obtain ⟨h15, eh16, hf⟩ := nm_some hf
  refine z_putI d_P_init_22 (fl_K (isK_eq (isK_wR eh13 g11)) fl_P_18_5) (pu_K (isK_eq (isK_wR eh13 g11)) (fun q hq => by cases (Option.some.inj hq); exact Or.inl rfl)) (fi_K (isK_eq (isK_wR eh13 g11)) rfl) rfl ?_
  refine z_hp eh16 ?_
  refine z_aload_n 0 d_P_init_25 rfl rfl ?_
  refine z_iconst (v := (0 : Int32)) d_P_init_26 rfl ?_
  obtain ⟨h18, eh19, hf⟩ := nm_some hf
  refine z_putI d_P_init_27 (fl_K (isK_eq (isK_wI eh16 (isK_wR eh13 g11))) fl_P_22_5) (pu_K (isK_eq (isK_wI eh16 (isK_wR eh13 g11))) (fun q hq => by cases (Option.some.inj hq); exact Or.inl rfl)) (fi_K (isK_eq (isK_wI eh16 (isK_wR eh13 g11))) rfl) rfl ?_
  refine z_hp eh19 ?_
  cases (Option.some.inj hf)
  exact z_ret d_P_init_30 rfl
set_option maxRecDepth 100000 in
set_option maxHeartbeats 4000000 in
theorem fr_P_init {C : Ct} {mi : Nat} {a0 : Nat} {h h' : Hp} (hf : f_P_init a0 h = some h') : Keep W_P_init h h' := by
  unfold f_P_init at hf
  obtain ⟨h1, eh2, hf⟩ := nm_some hf
  have K3 := (Keep.refl W_P_init _).trans (kw_N eh2)
  obtain ⟨g4, hf⟩ := gd_some hf
  obtain ⟨h5, eh6, hf⟩ := nm_some hf
  have K7 := K3.trans (kw_R eh6 (isK_eq g4) (Or.inl (by decide)))
  obtain ⟨h8, eh9, hf⟩ := nm_some hf
  have K10 := K7.trans (kw_N eh9)
  obtain ⟨g11, hf⟩ := gd_some hf
  obtain ⟨h12, eh13, hf⟩ := nm_some hf
  have K14 := K10.trans (kw_R eh13 (isK_eq g11) (Or.inl (by decide)))
  obtain ⟨h15, eh16, hf⟩ := nm_some hf
  have K17 := K14.trans (kw_I eh16 (isK_eq (isK_wR eh13 g11)) (Or.inl (by decide)))
  obtain ⟨h18, eh19, hf⟩ := nm_some hf
  have K20 := K17.trans (kw_I eh19 (isK_eq (isK_wI eh16 (isK_wR eh13 g11))) (Or.inl (by decide)))
  cases (Option.some.inj hf)
  exact K20
theorem c_P_init {l : Launch} {C : Ct} {mi : Nat} {a0 : Nat} {h h' : Hp} (hf : f_P_init a0 h = some h') : Mt l C mi m_P_init 1 [vr (some a0)] h none h' := mt_V rfl rfl (by decide) (Nat.le_of_ble_eq_true rfl) (zf_P_init hf)
-- VersionMaps$Version.<init>(ILVersionMaps$Meta;)V
def m_V_init : Mi := (⟨"VersionMaps$Version", "<init>", "(ILVersionMaps$Meta;)V"⟩, prog_9_method_1_code, 3, (Option.none : Option Jvm.ClassFile.FieldType), .return_)
theorem cw_V_init : cw_ok m_V_init 2 := ⟨by decide +kernel, by decide +kernel, by decide +kernel, by decide +kernel⟩
theorem im_V_init : Cond.instanceMethod m_V_init.1 ∈ lw_w := by decide +kernel
theorem d_V_init_0 : decode prog_9_method_1_code 0 = .ok (.aload_n 0, 1) := by decide +kernel
theorem d_V_init_1 : decode prog_9_method_1_code 1 = .ok (.invokespecial 1, 3) := by decide +kernel
theorem d_V_init_4 : decode prog_9_method_1_code 4 = .ok (.aload_n 0, 1) := by decide +kernel
theorem d_V_init_5 : decode prog_9_method_1_code 5 = .ok (.iconst 0, 1) := by decide +kernel
theorem d_V_init_6 : decode prog_9_method_1_code 6 = .ok (.putfield 7, 3) := by decide +kernel
theorem d_V_init_9 : decode prog_9_method_1_code 9 = .ok (.aload_n 0, 1) := by decide +kernel
theorem d_V_init_10 : decode prog_9_method_1_code 10 = .ok (.iload_n 1, 1) := by decide +kernel
theorem d_V_init_11 : decode prog_9_method_1_code 11 = .ok (.putfield 13, 3) := by decide +kernel
theorem d_V_init_14 : decode prog_9_method_1_code 14 = .ok (.aload_n 0, 1) := by decide +kernel
theorem d_V_init_15 : decode prog_9_method_1_code 15 = .ok (.aload_n 2, 1) := by decide +kernel
theorem d_V_init_16 : decode prog_9_method_1_code 16 = .ok (.putfield 16, 3) := by decide +kernel
theorem d_V_init_19 : decode prog_9_method_1_code 19 = .ok (.return_, 1) := by decide +kernel
def W_V_init : Wl := ([(7, 0), (7, 1), (7, 2)], [])
def f_V_init (a0 : Nat) (p1 : Int32) (p2 : Option Nat) (h : Hp) : Option Hp :=
  gd (isK h a0 7) (nm (wI h a0 2 (0 : Int32)) fun h2 => nm (wI h2 a0 0 p1) fun h5 => nm (wR h5 a0 1 p2) fun h8 => some h8)
set_option maxRecDepth 100000 in
set_option maxHeartbeats 4000000 in
theorem zf_V_init {l : Launch} {C : Ct} {mi : Nat} {a0 : Nat} {p1 : Int32} {p2 : Option Nat} {h h' : Hp} (hf : f_V_init a0 p1 p2 h = some h') : Z l C mi m_V_init 1 0 [(0, vr (some a0)), (1, vi p1), (2, vr p2)] [] h none h' := by
  unfold f_V_init at hf
  refine z_aload_n 0 d_V_init_0 rfl rfl ?_
  refine z_oinit d_V_init_1 (by decide +kernel) rfl (by decide) (Nat.le_of_ble_eq_true rfl) ?_
  refine z_aload_n 0 d_V_init_4 rfl rfl ?_
  refine z_iconst (v := (0 : Int32)) d_V_init_5 rfl ?_
  obtain ⟨g1, hf⟩ := gd_some hf
  obtain ⟨h2, eh3, hf⟩ := nm_some hf
  refine z_putI d_V_init_6 (fl_K (isK_eq g1) fl_V_7_7) (pu_K (isK_eq g1) (fun q hq => by cases (Option.some.inj hq); exact Or.inl rfl)) (fi_K (isK_eq g1) rfl) rfl ?_
  refine z_hp eh3 ?_
  refine z_aload_n 0 d_V_init_9 rfl rfl ?_
  refine z_iload_n 1 d_V_init_10 rfl rfl ?_
  obtain ⟨h5, eh6, hf⟩ := nm_some hf
  refine z_putI d_V_init_11 (fl_K (isK_eq (isK_wI eh3 g1)) fl_V_13_7) (pu_K (isK_eq (isK_wI eh3 g1)) (fun q hq => by cases (Option.some.inj hq); exact Or.inr ⟨rfl, rfl⟩)) (fi_K (isK_eq (isK_wI eh3 g1)) rfl) rfl ?_
  refine z_hp eh6 ?_
  refine z_aload_n 0 d_V_init_14 rfl rfl ?_
  refine z_aload_n 2 d_V_init_15 rfl rfl ?_
  obtain ⟨h8, eh9, hf⟩ := nm_some hf
  refine z_putR d_V_init_16 (fl_K (isK_eq (isK_wI eh6 (isK_wI eh3 g1))) fl_V_16_7) (pu_K (isK_eq (isK_wI eh6 (isK_wI eh3 g1))) (fun q hq => by cases (Option.some.inj hq); exact Or.inl rfl)) (fi_K (isK_eq (isK_wI eh6 (isK_wI eh3 g1))) rfl) rfl ?_
  refine z_hp eh9 ?_
  cases (Option.some.inj hf)
  exact z_ret d_V_init_19 rfl
set_option maxRecDepth 100000 in
set_option maxHeartbeats 4000000 in
theorem fr_V_init {C : Ct} {mi : Nat} {a0 : Nat} {p1 : Int32} {p2 : Option Nat} {h h' : Hp} (hf : f_V_init a0 p1 p2 h = some h') : Keep W_V_init h h' := by
  unfold f_V_init at hf
  obtain ⟨g1, hf⟩ := gd_some hf
  obtain ⟨h2, eh3, hf⟩ := nm_some hf
  have K4 := (Keep.refl W_V_init _).trans (kw_I eh3 (isK_eq g1) (Or.inl (by decide)))
  obtain ⟨h5, eh6, hf⟩ := nm_some hf
  have K7 := K4.trans (kw_I eh6 (isK_eq (isK_wI eh3 g1)) (Or.inl (by decide)))
  obtain ⟨h8, eh9, hf⟩ := nm_some hf
  have K10 := K7.trans (kw_R eh9 (isK_eq (isK_wI eh6 (isK_wI eh3 g1))) (Or.inl (by decide)))
  cases (Option.some.inj hf)
  exact K10
theorem c_V_init {l : Launch} {C : Ct} {mi : Nat} {a0 : Nat} {p1 : Int32} {p2 : Option Nat} {h h' : Hp} (hf : f_V_init a0 p1 p2 h = some h') : Mt l C mi m_V_init 1 [vr (some a0), vi p1, vr p2] h none h' := mt_V rfl rfl (by decide) (Nat.le_of_ble_eq_true rfl) (zf_V_init hf)
-- VersionMaps$Present.has(II)Z
def m_P_has : Mi := (⟨"VersionMaps$Present", "has", "(II)Z"⟩, prog_7_method_2_code, 3, (Option.some Jvm.ClassFile.FieldType.boolean), .ireturn)
theorem cw_P_has : cw_ok m_P_has 2 := ⟨by decide +kernel, by decide +kernel, by decide +kernel, by decide +kernel⟩
theorem im_P_has : Cond.instanceMethod m_P_has.1 ∈ lw_w := by decide +kernel
theorem se_P_has : Cond.selects "VersionMaps$Present" m_P_has.1 m_P_has.1 ∈ lw_w := by decide +kernel
theorem d_P_has_0 : decode prog_7_method_2_code 0 = .ok (.aload_n 0, 1) := by decide +kernel
theorem d_P_has_1 : decode prog_7_method_2_code 1 = .ok (.getfield 15, 3) := by decide +kernel
theorem d_P_has_4 : decode prog_7_method_2_code 4 = .ok (.iload_n 1, 1) := by decide +kernel
theorem d_P_has_5 : decode prog_7_method_2_code 5 = .ok (.iaload, 1) := by decide +kernel
theorem d_P_has_6 : decode prog_7_method_2_code 6 = .ok (.iload_n 2, 1) := by decide +kernel
theorem d_P_has_7 : decode prog_7_method_2_code 7 = .ok (.iushr, 1) := by decide +kernel
theorem d_P_has_8 : decode prog_7_method_2_code 8 = .ok (.iconst 1, 1) := by decide +kernel
theorem d_P_has_9 : decode prog_7_method_2_code 9 = .ok (.iand, 1) := by decide +kernel
theorem d_P_has_10 : decode prog_7_method_2_code 10 = .ok (.iconst 1, 1) := by decide +kernel
theorem d_P_has_11 : decode prog_7_method_2_code 11 = .ok (.if_icmp .ne 7, 3) := by decide +kernel
theorem d_P_has_14 : decode prog_7_method_2_code 14 = .ok (.iconst 1, 1) := by decide +kernel
theorem d_P_has_15 : decode prog_7_method_2_code 15 = .ok (.goto 4, 3) := by decide +kernel
theorem d_P_has_18 : decode prog_7_method_2_code 18 = .ok (.iconst 0, 1) := by decide +kernel
theorem d_P_has_19 : decode prog_7_method_2_code 19 = .ok (.ireturn, 1) := by decide +kernel
def W_P_has : Wl := ([], [])
def f0_P_has (a0 : Nat) (p1 : Int32) (p2 : Int32) (h : Hp) : Option (Int32 × Hp) :=
  gd (isK h a0 5) (dr (hpR h a0 1) fun a2 => gd (isK h a2 67) (gd (inb p1 (hpL h a2)) (if ((ushr (hpI h a2 p1.toNatClampNeg) p2) &&& (1 : Int32)) = (1 : Int32) then (some ((1 : Int32), h)) else (some ((0 : Int32), h)))))
def f_P_has (a0 : Nat) (p1 : Int32) (p2 : Int32) (h : Hp) : Option (Int32 × Hp) := zbw (f0_P_has a0 p1 p2 h)
set_option maxRecDepth 100000 in
set_option maxHeartbeats 4000000 in
theorem zf_P_has {l : Launch} {C : Ct} {mi : Nat} {a0 : Nat} {p1 : Int32} {p2 : Int32} {h h' : Hp} {v : Int32} (hf : f0_P_has a0 p1 p2 h = some (v, h')) : Z l C mi m_P_has 0 0 [(0, vr (some a0)), (1, vi p1), (2, vi p2)] [] h (some (vi v)) h' := by
  unfold f0_P_has at hf
  refine z_aload_n 0 d_P_has_0 rfl rfl ?_
  obtain ⟨g1, hf⟩ := gd_some hf
  refine z_getR d_P_has_1 (fl_K (isK_eq g1) fl_P_15_5) (fi_K (isK_eq g1) rfl) rfl ?_
  refine z_iload_n 1 d_P_has_4 rfl rfl ?_
  obtain ⟨a2, e3, hf⟩ := dr_some hf
  obtain ⟨g4, hf⟩ := gd_some hf
  obtain ⟨g5, hf⟩ := gd_some hf
  refine z_iald d_P_has_5 e3 (by rw [isK_eq g4]; decide) (by rw [isK_eq g4]; rfl) (inb_vp g5) ?_
  refine z_iload_n 2 d_P_has_6 rfl rfl ?_
  refine z_iushr d_P_has_7 ?_
  refine z_iconst (v := (1 : Int32)) d_P_has_8 rfl ?_
  refine z_iand d_P_has_9 ?_
  refine z_iconst (v := (1 : Int32)) d_P_has_10 rfl ?_
  refine z_icmp_ne (tgt := 18) d_P_has_11 (by decide) (fun c6 => ?_) (fun c6 => ?_)
  · rw [if_neg c6] at hf
    refine z_iconst (v := (0 : Int32)) d_P_has_18 rfl ?_
    obtain ⟨rfl, rfl⟩ := Prod.mk.inj (Option.some.inj hf)
    exact z_ret d_P_has_19 rfl
  · rw [if_pos c6] at hf
    refine z_iconst (v := (1 : Int32)) d_P_has_14 rfl ?_
    refine z_goto (tgt := 19) d_P_has_15 (by decide) ?_
    obtain ⟨rfl, rfl⟩ := Prod.mk.inj (Option.some.inj hf)
    exact z_ret d_P_has_19 rfl
set_option maxRecDepth 100000 in
set_option maxHeartbeats 4000000 in
theorem fr0_P_has {C : Ct} {mi : Nat} {a0 : Nat} {p1 : Int32} {p2 : Int32} {h h' : Hp} {v : Int32} (hf : f0_P_has a0 p1 p2 h = some (v, h')) : Keep W_P_has h h' := by
  unfold f0_P_has at hf
  obtain ⟨g1, hf⟩ := gd_some hf
  obtain ⟨a2, e3, hf⟩ := dr_some hf
  obtain ⟨g4, hf⟩ := gd_some hf
  obtain ⟨g5, hf⟩ := gd_some hf
  rcases (Classical.em (((ushr (hpI h a2 p1.toNatClampNeg) p2) &&& (1 : Int32)) = (1 : Int32))).symm with c6 | c6
  · rw [if_neg c6] at hf
    obtain ⟨rfl, rfl⟩ := Prod.mk.inj (Option.some.inj hf)
    exact (Keep.refl W_P_has _)
  · rw [if_pos c6] at hf
    obtain ⟨rfl, rfl⟩ := Prod.mk.inj (Option.some.inj hf)
    exact (Keep.refl W_P_has _)
theorem fr_P_has {C : Ct} {mi : Nat} {a0 : Nat} {p1 : Int32} {p2 : Int32} {h h' : Hp} {v : Int32} (hf : f_P_has a0 p1 p2 h = some (v, h')) : Keep W_P_has h h' := fr0_P_has (C := C) (mi := mi) (zbw_some hf).2
theorem c_P_has {l : Launch} {C : Ct} {mi : Nat} {a0 : Nat} {p1 : Int32} {p2 : Int32} {h h' : Hp} {v : Int32} (hf : f_P_has a0 p1 p2 h = some (v, h')) : Mt l C mi m_P_has 0 [vr (some a0), vi p1, vi p2] h (some (vi v)) h' := mt_I (ty := .boolean) rfl rfl (zb_eq (zbw_some hf).1) (by decide) (Nat.le_of_ble_eq_true rfl) (zf_P_has (zbw_some hf).2)
-- VersionMaps$Present.touchLeaf(II)V
def m_P_touchLeaf : Mi := (⟨"VersionMaps$Present", "touchLeaf", "(II)V"⟩, prog_7_method_15_code, 3, (Option.none : Option Jvm.ClassFile.FieldType), .return_)
theorem cw_P_touchLeaf : cw_ok m_P_touchLeaf 2 := ⟨by decide +kernel, by decide +kernel, by decide +kernel, by decide +kernel⟩
theorem im_P_touchLeaf : Cond.instanceMethod m_P_touchLeaf.1 ∈ lw_w := by decide +kernel
theorem se_P_touchLeaf : Cond.selects "VersionMaps$Present" m_P_touchLeaf.1 m_P_touchLeaf.1 ∈ lw_w := by decide +kernel
theorem d_P_touchLeaf_0 : decode prog_7_method_15_code 0 = .ok (.aload_n 0, 1) := by decide +kernel
theorem d_P_touchLeaf_1 : decode prog_7_method_15_code 1 = .ok (.dup, 1) := by decide +kernel
theorem d_P_touchLeaf_2 : decode prog_7_method_15_code 2 = .ok (.getfield 18, 3) := by decide +kernel
theorem d_P_touchLeaf_5 : decode prog_7_method_15_code 5 = .ok (.iconst 1, 1) := by decide +kernel
theorem d_P_touchLeaf_6 : decode prog_7_method_15_code 6 = .ok (.iconst 4, 1) := by decide +kernel
theorem d_P_touchLeaf_7 : decode prog_7_method_15_code 7 = .ok (.iload_n 1, 1) := by decide +kernel
theorem d_P_touchLeaf_8 : decode prog_7_method_15_code 8 = .ok (.imul, 1) := by decide +kernel
theorem d_P_touchLeaf_9 : decode prog_7_method_15_code 9 = .ok (.iload_n 2, 1) := by decide +kernel
theorem d_P_touchLeaf_10 : decode prog_7_method_15_code 10 = .ok (.iadd, 1) := by decide +kernel
theorem d_P_touchLeaf_11 : decode prog_7_method_15_code 11 = .ok (.ishl, 1) := by decide +kernel
theorem d_P_touchLeaf_12 : decode prog_7_method_15_code 12 = .ok (.ior, 1) := by decide +kernel
theorem d_P_touchLeaf_13 : decode prog_7_method_15_code 13 = .ok (.putfield 18, 3) := by decide +kernel
theorem d_P_touchLeaf_16 : decode prog_7_method_15_code 16 = .ok (.return_, 1) := by decide +kernel
def W_P_touchLeaf : Wl := ([(5, 2)], [])
def f_P_touchLeaf (a0 : Nat) (p1 : Int32) (p2 : Int32) (h : Hp) : Option Hp :=
  gd (isK h a0 5) (nm (wI h a0 2 ((hpI h a0 2) ||| ((1 : Int32) <<< ((((4 : Int32) * p1) + p2) &&& 31)))) fun h2 => some h2)
set_option maxRecDepth 100000 in
set_option maxHeartbeats 4000000 in
theorem zf_P_touchLeaf {l : Launch} {C : Ct} {mi : Nat} {a0 : Nat} {p1 : Int32} {p2 : Int32} {h h' : Hp} (hf : f_P_touchLeaf a0 p1 p2 h = some h') : Z l C mi m_P_touchLeaf 0 0 [(0, vr (some a0)), (1, vi p1), (2, vi p2)] [] h none h' := by
  unfold f_P_touchLeaf at hf
  refine z_aload_n 0 d_P_touchLeaf_0 rfl rfl ?_
  refine z_dup d_P_touchLeaf_1 rfl ?_
  obtain ⟨g1, hf⟩ := gd_some hf
  refine z_getI d_P_touchLeaf_2 (fl_K (isK_eq g1) fl_P_18_5) (fi_K (isK_eq g1) rfl) rfl ?_
  refine z_iconst (v := (1 : Int32)) d_P_touchLeaf_5 rfl ?_
  refine z_iconst (v := (4 : Int32)) d_P_touchLeaf_6 rfl ?_
  refine z_iload_n 1 d_P_touchLeaf_7 rfl rfl ?_
  refine z_imul d_P_touchLeaf_8 ?_
  refine z_iload_n 2 d_P_touchLeaf_9 rfl rfl ?_
  refine z_iadd d_P_touchLeaf_10 ?_
  refine z_ishl d_P_touchLeaf_11 ?_
  refine z_ior d_P_touchLeaf_12 ?_
  obtain ⟨h2, eh3, hf⟩ := nm_some hf
  refine z_putI d_P_touchLeaf_13 (fl_K (isK_eq g1) fl_P_18_5) (pu_K (isK_eq g1) (fun q hq => by cases (Option.some.inj hq); exact Or.inl rfl)) (fi_K (isK_eq g1) rfl) rfl ?_
  refine z_hp eh3 ?_
  cases (Option.some.inj hf)
  exact z_ret d_P_touchLeaf_16 rfl
set_option maxRecDepth 100000 in
set_option maxHeartbeats 4000000 in
theorem fr_P_touchLeaf {C : Ct} {mi : Nat} {a0 : Nat} {p1 : Int32} {p2 : Int32} {h h' : Hp} (hf : f_P_touchLeaf a0 p1 p2 h = some h') : Keep W_P_touchLeaf h h' := by
  unfold f_P_touchLeaf at hf
  obtain ⟨g1, hf⟩ := gd_some hf
  obtain ⟨h2, eh3, hf⟩ := nm_some hf
  have K4 := (Keep.refl W_P_touchLeaf _).trans (kw_I eh3 (isK_eq g1) (Or.inl (by decide)))
  cases (Option.some.inj hf)
  exact K4
theorem c_P_touchLeaf {l : Launch} {C : Ct} {mi : Nat} {a0 : Nat} {p1 : Int32} {p2 : Int32} {h h' : Hp} (hf : f_P_touchLeaf a0 p1 p2 h = some h') : Mt l C mi m_P_touchLeaf 0 [vr (some a0), vi p1, vi p2] h none h' := mt_V rfl rfl (by decide) (Nat.le_of_ble_eq_true rfl) (zf_P_touchLeaf hf)
-- VersionMaps$Present.assign(III)V
def m_P_assign : Mi := (⟨"VersionMaps$Present", "assign", "(III)V"⟩, prog_7_method_4_code, 4, (Option.none : Option Jvm.ClassFile.FieldType), .return_)
theorem cw_P_assign : cw_ok m_P_assign 3 := ⟨by decide +kernel, by decide +kernel, by decide +kernel, by decide +kernel⟩
theorem im_P_assign : Cond.instanceMethod m_P_assign.1 ∈ lw_w := by decide +kernel
theorem se_P_assign : Cond.selects "VersionMaps$Present" m_P_assign.1 m_P_assign.1 ∈ lw_w := by decide +kernel
theorem d_P_assign_0 : decode prog_7_method_4_code 0 = .ok (.aload_n 0, 1) := by decide +kernel
theorem d_P_assign_1 : decode prog_7_method_4_code 1 = .ok (.getfield 9, 3) := by decide +kernel
theorem d_P_assign_4 : decode prog_7_method_4_code 4 = .ok (.bipush 32, 2) := by decide +kernel
theorem d_P_assign_6 : decode prog_7_method_4_code 6 = .ok (.iload_n 1, 1) := by decide +kernel
theorem d_P_assign_7 : decode prog_7_method_4_code 7 = .ok (.imul, 1) := by decide +kernel
theorem d_P_assign_8 : decode prog_7_method_4_code 8 = .ok (.iload_n 2, 1) := by decide +kernel
theorem d_P_assign_9 : decode prog_7_method_4_code 9 = .ok (.iadd, 1) := by decide +kernel
theorem d_P_assign_10 : decode prog_7_method_4_code 10 = .ok (.iload_n 3, 1) := by decide +kernel
theorem d_P_assign_11 : decode prog_7_method_4_code 11 = .ok (.iastore, 1) := by decide +kernel
theorem d_P_assign_12 : decode prog_7_method_4_code 12 = .ok (.aload_n 0, 1) := by decide +kernel
theorem d_P_assign_13 : decode prog_7_method_4_code 13 = .ok (.getfield 15, 3) := by decide +kernel
theorem d_P_assign_16 : decode prog_7_method_4_code 16 = .ok (.iload_n 1, 1) := by decide +kernel
theorem d_P_assign_17 : decode prog_7_method_4_code 17 = .ok (.dup2, 1) := by decide +kernel
theorem d_P_assign_18 : decode prog_7_method_4_code 18 = .ok (.iaload, 1) := by decide +kernel
theorem d_P_assign_19 : decode prog_7_method_4_code 19 = .ok (.iconst 1, 1) := by decide +kernel
theorem d_P_assign_20 : decode prog_7_method_4_code 20 = .ok (.iload_n 2, 1) := by decide +kernel
theorem d_P_assign_21 : decode prog_7_method_4_code 21 = .ok (.ishl, 1) := by decide +kernel
theorem d_P_assign_22 : decode prog_7_method_4_code 22 = .ok (.ior, 1) := by decide +kernel
theorem d_P_assign_23 : decode prog_7_method_4_code 23 = .ok (.iastore, 1) := by decide +kernel
theorem d_P_assign_24 : decode prog_7_method_4_code 24 = .ok (.aload_n 0, 1) := by decide +kernel
theorem d_P_assign_25 : decode prog_7_method_4_code 25 = .ok (.iload_n 1, 1) := by decide +kernel
theorem d_P_assign_26 : decode prog_7_method_4_code 26 = .ok (.iload_n 2, 1) := by decide +kernel
theorem d_P_assign_27 : decode prog_7_method_4_code 27 = .ok (.bipush 8, 2) := by decide +kernel
theorem d_P_assign_29 : decode prog_7_method_4_code 29 = .ok (.idiv, 1) := by decide +kernel
theorem d_P_assign_30 : decode prog_7_method_4_code 30 = .ok (.invokevirtual 25, 3) := by decide +kernel
theorem d_P_assign_33 : decode prog_7_method_4_code 33 = .ok (.return_, 1) := by decide +kernel
def W_P_assign : Wl := ([(5, 2)], [66, 67])
def f_P_assign (a0 : Nat) (p1 : Int32) (p2 : Int32) (p3 : Int32) (h : Hp) : Option Hp :=
  gd (isK h a0 5) (dr (hpR h a0 0) fun a2 => gd (isK h a2 66) (gd (inb (((32 : Int32) * p1) + p2) (hpL h a2)) (nm (wI h a2 (((32 : Int32) * p1) + p2).toNatClampNeg p3) fun h6 => dr (hpR h6 a0 1) fun a9 => gd (isK h6 a9 67) (gd (inb p1 (hpL h6 a9)) (nm (wI h6 a9 p1.toNatClampNeg ((hpI h6 a9 p1.toNatClampNeg) ||| ((1 : Int32) <<< (p2 &&& 31)))) fun h13 => cv (f_P_touchLeaf a0 p1 (p2 / (8 : Int32)) h13) fun h16 => some h16)))))
set_option maxRecDepth 100000 in
set_option maxHeartbeats 4000000 in
theorem zf_P_assign {l : Launch} {C : Ct} {mi : Nat} {a0 : Nat} {p1 : Int32} {p2 : Int32} {p3 : Int32} {h h' : Hp} (hf : f_P_assign a0 p1 p2 p3 h = some h') : Z l C mi m_P_assign 1 0 [(0, vr (some a0)), (1, vi p1), (2, vi p2), (3, vi p3)] [] h none h' := by
  unfold f_P_assign at hf
  refine z_aload_n 0 d_P_assign_0 rfl rfl ?_
  obtain ⟨g1, hf⟩ := gd_some hf
  refine z_getR d_P_assign_1 (fl_K (isK_eq g1) fl_P_9_5) (fi_K (isK_eq g1) rfl) rfl ?_
  refine z_bipush (v := (32 : Int32)) d_P_assign_4 (by decide) ?_
  refine z_iload_n 1 d_P_assign_6 rfl rfl ?_
  refine z_imul d_P_assign_7 ?_
  refine z_iload_n 2 d_P_assign_8 rfl rfl ?_
  refine z_iadd d_P_assign_9 ?_
  refine z_iload_n 3 d_P_assign_10 rfl rfl ?_
  obtain ⟨a2, e3, hf⟩ := dr_some hf
  obtain ⟨g4, hf⟩ := gd_some hf
  obtain ⟨g5, hf⟩ := gd_some hf
  obtain ⟨h6, eh7, hf⟩ := nm_some hf
  refine z_iast d_P_assign_11 e3 (by rw [isK_eq g4]; decide) (by rw [isK_eq g4]; rfl) (inb_vp g5) ?_
  refine z_hp eh7 ?_
  refine z_aload_n 0 d_P_assign_12 rfl rfl ?_
  refine z_getR d_P_assign_13 (fl_K (isK_eq (isK_wI eh7 g1)) fl_P_15_5) (fi_K (isK_eq (isK_wI eh7 g1)) rfl) rfl ?_
  refine z_iload_n 1 d_P_assign_16 rfl rfl ?_
  refine z_dup2 d_P_assign_17 rfl rfl ?_
  obtain ⟨a9, e10, hf⟩ := dr_some hf
  obtain ⟨g11, hf⟩ := gd_some hf
  obtain ⟨g12, hf⟩ := gd_some hf
  refine z_iald d_P_assign_18 e10 (by rw [isK_eq g11]; decide) (by rw [isK_eq g11]; rfl) (inb_vp g12) ?_
  refine z_iconst (v := (1 : Int32)) d_P_assign_19 rfl ?_
  refine z_iload_n 2 d_P_assign_20 rfl rfl ?_
  refine z_ishl d_P_assign_21 ?_
  refine z_ior d_P_assign_22 ?_
  obtain ⟨h13, eh14, hf⟩ := nm_some hf
  refine z_iast d_P_assign_23 e10 (by rw [isK_eq g11]; decide) (by rw [isK_eq g11]; rfl) (inb_vp g12) ?_
  refine z_hp eh14 ?_
  refine z_aload_n 0 d_P_assign_24 rfl rfl ?_
  refine z_iload_n 1 d_P_assign_25 rfl rfl ?_
  refine z_iload_n 2 d_P_assign_26 rfl rfl ?_
  refine z_bipush (v := (8 : Int32)) d_P_assign_27 (by decide) ?_
  refine z_idiv d_P_assign_29 (by decide) ?_
  obtain ⟨h16, ec17, hf⟩ := cv_some hf
  refine z_callVx rfl (c_P_touchLeaf ec17) d_P_assign_30 cw_P_touchLeaf lk_P_25 im_P_touchLeaf se_P_touchLeaf (kc_K (isK_eq (isK_wI eh14 (isK_wI eh7 g1))) kc_5) ⟨by decide, by decide⟩ (Nat.le_of_ble_eq_true rfl) rfl ?_
  cases (Option.some.inj hf)
  exact z_ret d_P_assign_33 rfl
set_option maxRecDepth 100000 in
set_option maxHeartbeats 4000000 in
theorem fr_P_assign {C : Ct} {mi : Nat} {a0 : Nat} {p1 : Int32} {p2 : Int32} {p3 : Int32} {h h' : Hp} (hf : f_P_assign a0 p1 p2 p3 h = some h') : Keep W_P_assign h h' := by
  unfold f_P_assign at hf
  obtain ⟨g1, hf⟩ := gd_some hf
  obtain ⟨a2, e3, hf⟩ := dr_some hf
  obtain ⟨g4, hf⟩ := gd_some hf
  obtain ⟨g5, hf⟩ := gd_some hf
  obtain ⟨h6, eh7, hf⟩ := nm_some hf
  have K8 := (Keep.refl W_P_assign _).trans (kw_I eh7 (isK_eq g4) (Or.inr (by decide)))
  obtain ⟨a9, e10, hf⟩ := dr_some hf
  obtain ⟨g11, hf⟩ := gd_some hf
  obtain ⟨g12, hf⟩ := gd_some hf
  obtain ⟨h13, eh14, hf⟩ := nm_some hf
  have K15 := K8.trans (kw_I eh14 (isK_eq g11) (Or.inr (by decide)))
  obtain ⟨h16, ec17, hf⟩ := cv_some hf
  have K18 := K15.trans ((fr_P_touchLeaf (C := C) (mi := mi) ec17).mono (by decide) (by decide))
  cases (Option.some.inj hf)
  exact K18
theorem c_P_assign {l : Launch} {C : Ct} {mi : Nat} {a0 : Nat} {p1 : Int32} {p2 : Int32} {p3 : Int32} {h h' : Hp} (hf : f_P_assign a0 p1 p2 p3 h = some h') : Mt l C mi m_P_assign 1 [vr (some a0), vi p1, vi p2, vi p3] h none h' := mt_V rfl rfl (by decide) (Nat.le_of_ble_eq_true rfl) (zf_P_assign hf)
-- VersionMaps$Present.erase(II)V
def m_P_erase : Mi := (⟨"VersionMaps$Present", "erase", "(II)V"⟩, prog_7_method_5_code, 3, (Option.none : Option Jvm.ClassFile.FieldType), .return_)
theorem cw_P_erase : cw_ok m_P_erase 2 := ⟨by decide +kernel, by decide +kernel, by decide +kernel, by decide +kernel⟩
theorem im_P_erase : Cond.instanceMethod m_P_erase.1 ∈ lw_w := by decide +kernel
theorem se_P_erase : Cond.selects "VersionMaps$Present" m_P_erase.1 m_P_erase.1 ∈ lw_w := by decide +kernel
theorem d_P_erase_0 : decode prog_7_method_5_code 0 = .ok (.aload_n 0, 1) := by decide +kernel
theorem d_P_erase_1 : decode prog_7_method_5_code 1 = .ok (.getfield 15, 3) := by decide +kernel
theorem d_P_erase_4 : decode prog_7_method_5_code 4 = .ok (.iload_n 1, 1) := by decide +kernel
theorem d_P_erase_5 : decode prog_7_method_5_code 5 = .ok (.dup2, 1) := by decide +kernel
theorem d_P_erase_6 : decode prog_7_method_5_code 6 = .ok (.iaload, 1) := by decide +kernel
theorem d_P_erase_7 : decode prog_7_method_5_code 7 = .ok (.iconst 1, 1) := by decide +kernel
theorem d_P_erase_8 : decode prog_7_method_5_code 8 = .ok (.iload_n 2, 1) := by decide +kernel
theorem d_P_erase_9 : decode prog_7_method_5_code 9 = .ok (.ishl, 1) := by decide +kernel
theorem d_P_erase_10 : decode prog_7_method_5_code 10 = .ok (.iconst (-1), 1) := by decide +kernel
theorem d_P_erase_11 : decode prog_7_method_5_code 11 = .ok (.ixor, 1) := by decide +kernel
theorem d_P_erase_12 : decode prog_7_method_5_code 12 = .ok (.iand, 1) := by decide +kernel
theorem d_P_erase_13 : decode prog_7_method_5_code 13 = .ok (.iastore, 1) := by decide +kernel
theorem d_P_erase_14 : decode prog_7_method_5_code 14 = .ok (.aload_n 0, 1) := by decide +kernel
theorem d_P_erase_15 : decode prog_7_method_5_code 15 = .ok (.iload_n 1, 1) := by decide +kernel
theorem d_P_erase_16 : decode prog_7_method_5_code 16 = .ok (.iload_n 2, 1) := by decide +kernel
theorem d_P_erase_17 : decode prog_7_method_5_code 17 = .ok (.bipush 8, 2) := by decide +kernel
theorem d_P_erase_19 : decode prog_7_method_5_code 19 = .ok (.idiv, 1) := by decide +kernel
theorem d_P_erase_20 : decode prog_7_method_5_code 20 = .ok (.invokevirtual 25, 3) := by decide +kernel
theorem d_P_erase_23 : decode prog_7_method_5_code 23 = .ok (.return_, 1) := by decide +kernel
def W_P_erase : Wl := ([(5, 2)], [67])
def f_P_erase (a0 : Nat) (p1 : Int32) (p2 : Int32) (h : Hp) : Option Hp :=
  gd (isK h a0 5) (dr (hpR h a0 1) fun a2 => gd (isK h a2 67) (gd (inb p1 (hpL h a2)) (nm (wI h a2 p1.toNatClampNeg ((hpI h a2 p1.toNatClampNeg) &&& (((1 : Int32) <<< (p2 &&& 31)) ^^^ (-1 : Int32)))) fun h6 => cv (f_P_touchLeaf a0 p1 (p2 / (8 : Int32)) h6) fun h9 => some h9)))
set_option maxRecDepth 100000 in
set_option maxHeartbeats 4000000 in
theorem zf_P_erase {l : Launch} {C : Ct} {mi : Nat} {a0 : Nat} {p1 : Int32} {p2 : Int32} {h h' : Hp} (hf : f_P_erase a0 p1 p2 h = some h') : Z l C mi m_P_erase 1 0 [(0, vr (some a0)), (1, vi p1), (2, vi p2)] [] h none h' := by
  unfold f_P_erase at hf
  refine z_aload_n 0 d_P_erase_0 rfl rfl ?_
  obtain ⟨g1, hf⟩ := gd_some hf
  refine z_getR d_P_erase_1 (fl_K (isK_eq g1) fl_P_15_5) (fi_K (isK_eq g1) rfl) rfl ?_
  refine z_iload_n 1 d_P_erase_4 rfl rfl ?_
  refine z_dup2 d_P_erase_5 rfl rfl ?_
  obtain ⟨a2, e3, hf⟩ := dr_some hf
  obtain ⟨g4, hf⟩ := gd_some hf
  obtain ⟨g5, hf⟩ := gd_some hf
  refine z_iald d_P_erase_6 e3 (by rw [isK_eq g4]; decide) (by rw [isK_eq g4]; rfl) (inb_vp g5) ?_
  refine z_iconst (v := (1 : Int32)) d_P_erase_7 rfl ?_
  refine z_iload_n 2 d_P_erase_8 rfl rfl ?_
  refine z_ishl d_P_erase_9 ?_
  refine z_iconst (v := (-1 : Int32)) d_P_erase_10 rfl ?_
  refine z_ixor d_P_erase_11 ?_
  refine z_iand d_P_erase_12 ?_
  obtain ⟨h6, eh7, hf⟩ := nm_some hf
  refine z_iast d_P_erase_13 e3 (by rw [isK_eq g4]; decide) (by rw [isK_eq g4]; rfl) (inb_vp g5) ?_
  refine z_hp eh7 ?_
  refine z_aload_n 0 d_P_erase_14 rfl rfl ?_
  refine z_iload_n 1 d_P_erase_15 rfl rfl ?_
  refine z_iload_n 2 d_P_erase_16 rfl rfl ?_
  refine z_bipush (v := (8 : Int32)) d_P_erase_17 (by decide) ?_
  refine z_idiv d_P_erase_19 (by decide) ?_
  obtain ⟨h9, ec10, hf⟩ := cv_some hf
  refine z_callVx rfl (c_P_touchLeaf ec10) d_P_erase_20 cw_P_touchLeaf lk_P_25 im_P_touchLeaf se_P_touchLeaf (kc_K (isK_eq (isK_wI eh7 g1)) kc_5) ⟨by decide, by decide⟩ (Nat.le_of_ble_eq_true rfl) rfl ?_
  cases (Option.some.inj hf)
  exact z_ret d_P_erase_23 rfl
set_option maxRecDepth 100000 in
set_option maxHeartbeats 4000000 in
theorem fr_P_erase {C : Ct} {mi : Nat} {a0 : Nat} {p1 : Int32} {p2 : Int32} {h h' : Hp} (hf : f_P_erase a0 p1 p2 h = some h') : Keep W_P_erase h h' := by
  unfold f_P_erase at hf
  obtain ⟨g1, hf⟩ := gd_some hf
  obtain ⟨a2, e3, hf⟩ := dr_some hf
  obtain ⟨g4, hf⟩ := gd_some hf
  obtain ⟨g5, hf⟩ := gd_some hf
  obtain ⟨h6, eh7, hf⟩ := nm_some hf
  have K8 := (Keep.refl W_P_erase _).trans (kw_I eh7 (isK_eq g4) (Or.inr (by decide)))
  obtain ⟨h9, ec10, hf⟩ := cv_some hf
  have K11 := K8.trans ((fr_P_touchLeaf (C := C) (mi := mi) ec10).mono (by decide) (by decide))
  cases (Option.some.inj hf)
  exact K11
theorem c_P_erase {l : Launch} {C : Ct} {mi : Nat} {a0 : Nat} {p1 : Int32} {p2 : Int32} {h h' : Hp} (hf : f_P_erase a0 p1 p2 h = some h') : Mt l C mi m_P_erase 1 [vr (some a0), vi p1, vi p2] h none h' := mt_V rfl rfl (by decide) (Nat.le_of_ble_eq_true rfl) (zf_P_erase hf)
-- VersionMaps$Present.valueOf(II)I
def m_P_valueOf : Mi := (⟨"VersionMaps$Present", "valueOf", "(II)I"⟩, prog_7_method_3_code, 3, (Option.some Jvm.ClassFile.FieldType.int), .ireturn)
theorem cw_P_valueOf : cw_ok m_P_valueOf 2 := ⟨by decide +kernel, by decide +kernel, by decide +kernel, by decide +kernel⟩
theorem im_P_valueOf : Cond.instanceMethod m_P_valueOf.1 ∈ lw_w := by decide +kernel
theorem se_P_valueOf : Cond.selects "VersionMaps$Present" m_P_valueOf.1 m_P_valueOf.1 ∈ lw_w := by decide +kernel
theorem d_P_valueOf_0 : decode prog_7_method_3_code 0 = .ok (.aload_n 0, 1) := by decide +kernel
theorem d_P_valueOf_1 : decode prog_7_method_3_code 1 = .ok (.getfield 9, 3) := by decide +kernel
theorem d_P_valueOf_4 : decode prog_7_method_3_code 4 = .ok (.bipush 32, 2) := by decide +kernel
theorem d_P_valueOf_6 : decode prog_7_method_3_code 6 = .ok (.iload_n 1, 1) := by decide +kernel
theorem d_P_valueOf_7 : decode prog_7_method_3_code 7 = .ok (.imul, 1) := by decide +kernel
theorem d_P_valueOf_8 : decode prog_7_method_3_code 8 = .ok (.iload_n 2, 1) := by decide +kernel
theorem d_P_valueOf_9 : decode prog_7_method_3_code 9 = .ok (.iadd, 1) := by decide +kernel
theorem d_P_valueOf_10 : decode prog_7_method_3_code 10 = .ok (.iaload, 1) := by decide +kernel
theorem d_P_valueOf_11 : decode prog_7_method_3_code 11 = .ok (.ireturn, 1) := by decide +kernel
def W_P_valueOf : Wl := ([], [])
def f_P_valueOf (a0 : Nat) (p1 : Int32) (p2 : Int32) (h : Hp) : Option (Int32 × Hp) :=
  gd (isK h a0 5) (dr (hpR h a0 0) fun a2 => gd (isK h a2 66) (gd (inb (((32 : Int32) * p1) + p2) (hpL h a2)) (some ((hpI h a2 (((32 : Int32) * p1) + p2).toNatClampNeg), h))))
set_option maxRecDepth 100000 in
set_option maxHeartbeats 4000000 in
theorem zf_P_valueOf {l : Launch} {C : Ct} {mi : Nat} {a0 : Nat} {p1 : Int32} {p2 : Int32} {h h' : Hp} {v : Int32} (hf : f_P_valueOf a0 p1 p2 h = some (v, h')) : Z l C mi m_P_valueOf 0 0 [(0, vr (some a0)), (1, vi p1), (2, vi p2)] [] h (some (vi v)) h' := by
  unfold f_P_valueOf at hf
  refine z_aload_n 0 d_P_valueOf_0 rfl rfl ?_
  obtain ⟨g1, hf⟩ := gd_some hf
  refine z_getR d_P_valueOf_1 (fl_K (isK_eq g1) fl_P_9_5) (fi_K (isK_eq g1) rfl) rfl ?_
  refine z_bipush (v := (32 : Int32)) d_P_valueOf_4 (by decide) ?_
  refine z_iload_n 1 d_P_valueOf_6 rfl rfl ?_
  refine z_imul d_P_valueOf_7 ?_
  refine z_iload_n 2 d_P_valueOf_8 rfl rfl ?_
  refine z_iadd d_P_valueOf_9 ?_
  obtain ⟨a2, e3, hf⟩ := dr_some hf
  obtain ⟨g4, hf⟩ := gd_some hf
  obtain ⟨g5, hf⟩ := gd_some hf
  refine z_iald d_P_valueOf_10 e3 (by rw [isK_eq g4]; decide) (by rw [isK_eq g4]; rfl) (inb_vp g5) ?_
  obtain ⟨rfl, rfl⟩ := Prod.mk.inj (Option.some.inj hf)
  exact z_ret d_P_valueOf_11 rfl
set_option maxRecDepth 100000 in
set_option maxHeartbeats 4000000 in
theorem fr_P_valueOf {C : Ct} {mi : Nat} {a0 : Nat} {p1 : Int32} {p2 : Int32} {h h' : Hp} {v : Int32} (hf : f_P_valueOf a0 p1 p2 h = some (v, h')) : Keep W_P_valueOf h h' := by
  unfold f_P_valueOf at hf
  obtain ⟨g1, hf⟩ := gd_some hf
  obtain ⟨a2, e3, hf⟩ := dr_some hf
  obtain ⟨g4, hf⟩ := gd_some hf
  obtain ⟨g5, hf⟩ := gd_some hf
  obtain ⟨rfl, rfl⟩ := Prod.mk.inj (Option.some.inj hf)
  exact (Keep.refl W_P_valueOf _)
theorem c_P_valueOf {l : Launch} {C : Ct} {mi : Nat} {a0 : Nat} {p1 : Int32} {p2 : Int32} {h h' : Hp} {v : Int32} (hf : f_P_valueOf a0 p1 p2 h = some (v, h')) : Mt l C mi m_P_valueOf 0 [vr (some a0), vi p1, vi p2] h (some (vi v)) h' := mt_I (ty := .int) rfl rfl rfl (by decide) (Nat.le_of_ble_eq_true rfl) (zf_P_valueOf hf)
-- VersionMaps$Meta.leafOf(II)LVersionMaps$Leaf;
def m_E_leafOf : Mi := (⟨"VersionMaps$Meta", "leafOf", "(II)LVersionMaps$Leaf;"⟩, prog_5_method_2_code, 3, (Option.some (Jvm.ClassFile.FieldType.object "VersionMaps$Leaf")), .areturn)
theorem cw_E_leafOf : cw_ok m_E_leafOf 2 := ⟨by decide +kernel, by decide +kernel, by decide +kernel, by decide +kernel⟩
theorem im_E_leafOf : Cond.instanceMethod m_E_leafOf.1 ∈ lw_w := by decide +kernel
theorem se_E_leafOf : Cond.selects "VersionMaps$Meta" m_E_leafOf.1 m_E_leafOf.1 ∈ lw_w := by decide +kernel
theorem d_E_leafOf_0 : decode prog_5_method_2_code 0 = .ok (.aload_n 0, 1) := by decide +kernel
theorem d_E_leafOf_1 : decode prog_5_method_2_code 1 = .ok (.getfield 11, 3) := by decide +kernel
theorem d_E_leafOf_4 : decode prog_5_method_2_code 4 = .ok (.iload_n 1, 1) := by decide +kernel
theorem d_E_leafOf_5 : decode prog_5_method_2_code 5 = .ok (.aaload, 1) := by decide +kernel
theorem d_E_leafOf_6 : decode prog_5_method_2_code 6 = .ok (.ifnonnull 7, 3) := by decide +kernel
theorem d_E_leafOf_9 : decode prog_5_method_2_code 9 = .ok (.aconst_null, 1) := by decide +kernel
theorem d_E_leafOf_10 : decode prog_5_method_2_code 10 = .ok (.goto 14, 3) := by decide +kernel
theorem d_E_leafOf_13 : decode prog_5_method_2_code 13 = .ok (.aload_n 0, 1) := by decide +kernel
theorem d_E_leafOf_14 : decode prog_5_method_2_code 14 = .ok (.getfield 11, 3) := by decide +kernel
theorem d_E_leafOf_17 : decode prog_5_method_2_code 17 = .ok (.iload_n 1, 1) := by decide +kernel
theorem d_E_leafOf_18 : decode prog_5_method_2_code 18 = .ok (.aaload, 1) := by decide +kernel
theorem d_E_leafOf_19 : decode prog_5_method_2_code 19 = .ok (.getfield 21, 3) := by decide +kernel
theorem d_E_leafOf_22 : decode prog_5_method_2_code 22 = .ok (.iload_n 2, 1) := by decide +kernel
theorem d_E_leafOf_23 : decode prog_5_method_2_code 23 = .ok (.aaload, 1) := by decide +kernel
theorem d_E_leafOf_24 : decode prog_5_method_2_code 24 = .ok (.areturn, 1) := by decide +kernel
def W_E_leafOf : Wl := ([], [])
def f_E_leafOf (a0 : Nat) (p1 : Int32) (p2 : Int32) (h : Hp) : Option (Option Nat × Hp) :=
  gd (isK h a0 4) (dr (hpR h a0 4) fun a2 => gd (isK h a2 104) (gd (inb p1 (hpL h a2)) (if (hpR h a2 p1.toNatClampNeg) = none then (some (none, h)) else (dr (hpR h a2 p1.toNatClampNeg) fun a7 => gd (isK h a7 6) (dr (hpR h a7 3) fun a10 => gd (isK h a10 105) (gd (inb p2 (hpL h a10)) (some ((hpR h a10 p2.toNatClampNeg), h))))))))
set_option maxRecDepth 100000 in
set_option maxHeartbeats 4000000 in
theorem zf_E_leafOf {l : Launch} {C : Ct} {mi : Nat} {a0 : Nat} {p1 : Int32} {p2 : Int32} {h h' : Hp} {v : Option Nat} (hf : f_E_leafOf a0 p1 p2 h = some (v, h')) : Z l C mi m_E_leafOf 0 0 [(0, vr (some a0)), (1, vi p1), (2, vi p2)] [] h (some (vr v)) h' := by
  unfold f_E_leafOf at hf
  refine z_aload_n 0 d_E_leafOf_0 rfl rfl ?_
  obtain ⟨g1, hf⟩ := gd_some hf
  refine z_getR d_E_leafOf_1 (fl_K (isK_eq g1) fl_E_11_4) (fi_K (isK_eq g1) rfl) rfl ?_
  refine z_iload_n 1 d_E_leafOf_4 rfl rfl ?_
  obtain ⟨a2, e3, hf⟩ := dr_some hf
  obtain ⟨g4, hf⟩ := gd_some hf
  obtain ⟨g5, hf⟩ := gd_some hf
  refine z_aald d_E_leafOf_5 e3 (by rw [isK_eq g4]; decide) (by rw [isK_eq g4]; decide) (inb_vp g5) ?_
  refine z_ifnonnull (tgt := 13) d_E_leafOf_6 (by decide) (fun c6 => ?_) (fun c6 => ?_)
  · rw [if_neg c6] at hf
    refine z_aload_n 0 d_E_leafOf_13 rfl rfl ?_
    refine z_getR d_E_leafOf_14 (fl_K (isK_eq g1) fl_E_11_4) (fi_K (isK_eq g1) rfl) rfl ?_
    refine z_iload_n 1 d_E_leafOf_17 rfl rfl ?_
    refine z_aald d_E_leafOf_18 e3 (by rw [isK_eq g4]; decide) (by rw [isK_eq g4]; decide) (inb_vp g5) ?_
    obtain ⟨a7, e8, hf⟩ := dr_some hf
    obtain ⟨g9, hf⟩ := gd_some hf
    refine z_getR d_E_leafOf_19 (fl_K (isK_eq g9) fl_E_21_6) (fi_K (isK_eq g9) rfl) e8 ?_
    refine z_iload_n 2 d_E_leafOf_22 rfl rfl ?_
    obtain ⟨a10, e11, hf⟩ := dr_some hf
    obtain ⟨g12, hf⟩ := gd_some hf
    obtain ⟨g13, hf⟩ := gd_some hf
    refine z_aald d_E_leafOf_23 e11 (by rw [isK_eq g12]; decide) (by rw [isK_eq g12]; decide) (inb_vp g13) ?_
    obtain ⟨rfl, rfl⟩ := Prod.mk.inj (Option.some.inj hf)
    exact z_ret d_E_leafOf_24 rfl
  · rw [if_pos c6] at hf
    refine z_aconst_null d_E_leafOf_9 ?_
    refine z_goto (tgt := 24) d_E_leafOf_10 (by decide) ?_
    obtain ⟨rfl, rfl⟩ := Prod.mk.inj (Option.some.inj hf)
    exact z_ret d_E_leafOf_24 rfl
set_option maxRecDepth 100000 in
set_option maxHeartbeats 4000000 in
theorem fr_E_leafOf {C : Ct} {mi : Nat} {a0 : Nat} {p1 : Int32} {p2 : Int32} {h h' : Hp} {v : Option Nat} (hf : f_E_leafOf a0 p1 p2 h = some (v, h')) : Keep W_E_leafOf h h' := by
  unfold f_E_leafOf at hf
  obtain ⟨g1, hf⟩ := gd_some hf
  obtain ⟨a2, e3, hf⟩ := dr_some hf
  obtain ⟨g4, hf⟩ := gd_some hf
  obtain ⟨g5, hf⟩ := gd_some hf
  rcases (Classical.em ((hpR h a2 p1.toNatClampNeg) = none)).symm with c6 | c6
  · rw [if_neg c6] at hf
    obtain ⟨a7, e8, hf⟩ := dr_some hf
    obtain ⟨g9, hf⟩ := gd_some hf
    obtain ⟨a10, e11, hf⟩ := dr_some hf
    obtain ⟨g12, hf⟩ := gd_some hf
    obtain ⟨g13, hf⟩ := gd_some hf
    obtain ⟨rfl, rfl⟩ := Prod.mk.inj (Option.some.inj hf)
    exact (Keep.refl W_E_leafOf _)
  · rw [if_pos c6] at hf
    obtain ⟨rfl, rfl⟩ := Prod.mk.inj (Option.some.inj hf)
    exact (Keep.refl W_E_leafOf _)
theorem c_E_leafOf {l : Launch} {C : Ct} {mi : Nat} {a0 : Nat} {p1 : Int32} {p2 : Int32} {h h' : Hp} {v : Option Nat} (hf : f_E_leafOf a0 p1 p2 h = some (v, h')) : Mt l C mi m_E_leafOf 0 [vr (some a0), vi p1, vi p2] h (some (vr v)) h' := mt_R rfl (Or.inl ⟨_, rfl⟩) rfl (by decide) (Nat.le_of_ble_eq_true rfl) (zf_E_leafOf hf)
-- VersionMaps$Meta.valueOf(II)J
def m_E_valueOf : Mi := (⟨"VersionMaps$Meta", "valueOf", "(II)J"⟩, prog_5_method_3_code, 5, (Option.some Jvm.ClassFile.FieldType.long), .lreturn)
theorem cw_E_valueOf : cw_ok m_E_valueOf 2 := ⟨by decide +kernel, by decide +kernel, by decide +kernel, by decide +kernel⟩
theorem im_E_valueOf : Cond.instanceMethod m_E_valueOf.1 ∈ lw_w := by decide +kernel
theorem se_E_valueOf : Cond.selects "VersionMaps$Meta" m_E_valueOf.1 m_E_valueOf.1 ∈ lw_w := by decide +kernel
theorem d_E_valueOf_0 : decode prog_5_method_3_code 0 = .ok (.aload_n 0, 1) := by decide +kernel
theorem d_E_valueOf_1 : decode prog_5_method_3_code 1 = .ok (.iload_n 1, 1) := by decide +kernel
theorem d_E_valueOf_2 : decode prog_5_method_3_code 2 = .ok (.iload_n 2, 1) := by decide +kernel
theorem d_E_valueOf_3 : decode prog_5_method_3_code 3 = .ok (.bipush 8, 2) := by decide +kernel
theorem d_E_valueOf_5 : decode prog_5_method_3_code 5 = .ok (.idiv, 1) := by decide +kernel
theorem d_E_valueOf_6 : decode prog_5_method_3_code 6 = .ok (.invokevirtual 25, 3) := by decide +kernel
theorem d_E_valueOf_9 : decode prog_5_method_3_code 9 = .ok (.astore_n 3, 1) := by decide +kernel
theorem d_E_valueOf_10 : decode prog_5_method_3_code 10 = .ok (.iload_n 2, 1) := by decide +kernel
theorem d_E_valueOf_11 : decode prog_5_method_3_code 11 = .ok (.bipush 8, 2) := by decide +kernel
theorem d_E_valueOf_13 : decode prog_5_method_3_code 13 = .ok (.irem, 1) := by decide +kernel
theorem d_E_valueOf_14 : decode prog_5_method_3_code 14 = .ok (.istore 4, 2) := by decide +kernel
theorem d_E_valueOf_16 : decode prog_5_method_3_code 16 = .ok (.aload_n 3, 1) := by decide +kernel
theorem d_E_valueOf_17 : decode prog_5_method_3_code 17 = .ok (.ifnull 15, 3) := by decide +kernel
theorem d_E_valueOf_20 : decode prog_5_method_3_code 20 = .ok (.aload_n 3, 1) := by decide +kernel
theorem d_E_valueOf_21 : decode prog_5_method_3_code 21 = .ok (.getfield 29, 3) := by decide +kernel
theorem d_E_valueOf_24 : decode prog_5_method_3_code 24 = .ok (.iload 4, 2) := by decide +kernel
theorem d_E_valueOf_26 : decode prog_5_method_3_code 26 = .ok (.ishr, 1) := by decide +kernel
theorem d_E_valueOf_27 : decode prog_5_method_3_code 27 = .ok (.iconst 1, 1) := by decide +kernel
theorem d_E_valueOf_28 : decode prog_5_method_3_code 28 = .ok (.iand, 1) := by decide +kernel
theorem d_E_valueOf_29 : decode prog_5_method_3_code 29 = .ok (.ifCond .ne 7, 3) := by decide +kernel
theorem d_E_valueOf_32 : decode prog_5_method_3_code 32 = .ok (.ldc2_w 34, 3) := by decide +kernel
theorem d_E_valueOf_35 : decode prog_5_method_3_code 35 = .ok (.lreturn, 1) := by decide +kernel
theorem d_E_valueOf_36 : decode prog_5_method_3_code 36 = .ok (.aload_n 3, 1) := by decide +kernel
theorem d_E_valueOf_37 : decode prog_5_method_3_code 37 = .ok (.getfield 36, 3) := by decide +kernel
theorem d_E_valueOf_40 : decode prog_5_method_3_code 40 = .ok (.iload 4, 2) := by decide +kernel
theorem d_E_valueOf_42 : decode prog_5_method_3_code 42 = .ok (.iaload, 1) := by decide +kernel
theorem d_E_valueOf_43 : decode prog_5_method_3_code 43 = .ok (.i2l, 1) := by decide +kernel
theorem d_E_valueOf_44 : decode prog_5_method_3_code 44 = .ok (.lreturn, 1) := by decide +kernel
def W_E_valueOf : Wl := ([], [])
def f_E_valueOf (a0 : Nat) (p1 : Int32) (p2 : Int32) (h : Hp) : Option (Int64 × Hp) :=
  gd (isK h a0 4) (cl (f_E_leafOf a0 p1 (p2 / (8 : Int32)) h) fun v4 h2 => if v4 = none then (some ((1099511627776 : Int64), h2)) else (dr v4 fun a7 => gd (isK h2 a7 3) (if (((hpI h2 a7 4) >>> ((p2 - p2 / (8 : Int32) * (8 : Int32)) &&& 31)) &&& (1 : Int32)) = 0 then (some ((1099511627776 : Int64), h2)) else (dr (hpR h2 a7 3) fun a11 => gd (isK h2 a11 106) (gd (inb (p2 - p2 / (8 : Int32) * (8 : Int32)) (hpL h2 a11)) (some ((hpI h2 a11 (p2 - p2 / (8 : Int32) * (8 : Int32)).toNatClampNeg).toInt64, h2)))))))
set_option maxRecDepth 100000 in
set_option maxHeartbeats 4000000 in
theorem zf_E_valueOf {l : Launch} {C : Ct} {mi : Nat} {a0 : Nat} {p1 : Int32} {p2 : Int32} {h h' : Hp} {v : Int64} (hf : f_E_valueOf a0 p1 p2 h = some (v, h')) : Z l C mi m_E_valueOf 1 0 [(0, vr (some a0)), (1, vi p1), (2, vi p2)] [] h (some (vl v)) h' := by
  unfold f_E_valueOf at hf
  refine z_aload_n 0 d_E_valueOf_0 rfl rfl ?_
  refine z_iload_n 1 d_E_valueOf_1 rfl rfl ?_
  refine z_iload_n 2 d_E_valueOf_2 rfl rfl ?_
  refine z_bipush (v := (8 : Int32)) d_E_valueOf_3 (by decide) ?_
  refine z_idiv d_E_valueOf_5 (by decide) ?_
  obtain ⟨g1, hf⟩ := gd_some hf
  obtain ⟨v4, h2, ec3, hf⟩ := cl_some hf
  refine z_callVx rfl (c_E_leafOf ec3) d_E_valueOf_6 cw_E_leafOf lk_E_25 im_E_leafOf se_E_leafOf (kc_K (isK_eq g1) kc_4) ⟨by decide, by decide⟩ (Nat.le_of_ble_eq_true rfl) rfl ?_
  refine z_astore_n (ls2 := [(3, vr v4), (0, vr (some a0)), (1, vi p1), (2, vi p2)]) d_E_valueOf_9 rfl (by decide) rfl ?_
  refine z_iload_n 3 d_E_valueOf_10 rfl rfl ?_
  refine z_bipush (v := (8 : Int32)) d_E_valueOf_11 (by decide) ?_
  refine z_irem d_E_valueOf_13 (by decide) ?_
  refine z_istore (ls2 := [(4, vi (p2 - p2 / (8 : Int32) * (8 : Int32))), (3, vr v4), (0, vr (some a0)), (1, vi p1), (2, vi p2)]) d_E_valueOf_14 (by decide) rfl ?_
  refine z_aload_n 1 d_E_valueOf_16 rfl rfl ?_
  refine z_ifnull (tgt := 32) d_E_valueOf_17 (by decide) (fun c6 => ?_) (fun c6 => ?_)
  · rw [if_pos c6] at hf
    refine z_ldc2 (v := (1099511627776 : Int64)) d_E_valueOf_32 (by decide +kernel) ?_
    obtain ⟨rfl, rfl⟩ := Prod.mk.inj (Option.some.inj hf)
    exact z_ret d_E_valueOf_35 rfl
  · rw [if_neg c6] at hf
    refine z_aload_n 1 d_E_valueOf_20 rfl rfl ?_
    obtain ⟨a7, e8, hf⟩ := dr_some hf
    obtain ⟨g9, hf⟩ := gd_some hf
    refine z_getI d_E_valueOf_21 (fl_K (isK_eq g9) fl_E_29_3) (fi_K (isK_eq g9) rfl) e8 ?_
    refine z_iload 0 d_E_valueOf_24 rfl ?_
    refine z_ishr d_E_valueOf_26 ?_
    refine z_iconst (v := (1 : Int32)) d_E_valueOf_27 rfl ?_
    refine z_iand d_E_valueOf_28 ?_
    refine z_if_ne (tgt := 36) d_E_valueOf_29 (by decide) (fun c10 => ?_) (fun c10 => ?_)
    · rw [if_neg c10] at hf
      refine z_aload_n 1 d_E_valueOf_36 rfl rfl ?_
      refine z_getR d_E_valueOf_37 (fl_K (isK_eq g9) fl_E_36_3) (fi_K (isK_eq g9) rfl) e8 ?_
      refine z_iload 0 d_E_valueOf_40 rfl ?_
      obtain ⟨a11, e12, hf⟩ := dr_some hf
      obtain ⟨g13, hf⟩ := gd_some hf
      obtain ⟨g14, hf⟩ := gd_some hf
      refine z_iald d_E_valueOf_42 e12 (by rw [isK_eq g13]; decide) (by rw [isK_eq g13]; rfl) (inb_vp g14) ?_
      refine z_i2l d_E_valueOf_43 ?_
      obtain ⟨rfl, rfl⟩ := Prod.mk.inj (Option.some.inj hf)
      exact z_ret d_E_valueOf_44 rfl
    · rw [if_pos c10] at hf
      refine z_ldc2 (v := (1099511627776 : Int64)) d_E_valueOf_32 (by decide +kernel) ?_
      obtain ⟨rfl, rfl⟩ := Prod.mk.inj (Option.some.inj hf)
      exact z_ret d_E_valueOf_35 rfl
set_option maxRecDepth 100000 in
set_option maxHeartbeats 4000000 in
theorem fr_E_valueOf {C : Ct} {mi : Nat} {a0 : Nat} {p1 : Int32} {p2 : Int32} {h h' : Hp} {v : Int64} (hf : f_E_valueOf a0 p1 p2 h = some (v, h')) : Keep W_E_valueOf h h' := by
  unfold f_E_valueOf at hf
  obtain ⟨g1, hf⟩ := gd_some hf
  obtain ⟨v4, h2, ec3, hf⟩ := cl_some hf
  have K5 := (Keep.refl W_E_valueOf _).trans ((fr_E_leafOf (C := C) (mi := mi) ec3).mono (by decide) (by decide))
  rcases Classical.em (v4 = none) with c6 | c6
  · rw [if_pos c6] at hf
    obtain ⟨rfl, rfl⟩ := Prod.mk.inj (Option.some.inj hf)
    exact K5
  · rw [if_neg c6] at hf
    obtain ⟨a7, e8, hf⟩ := dr_some hf
    obtain ⟨g9, hf⟩ := gd_some hf
    rcases (Classical.em ((((hpI h2 a7 4) >>> ((p2 - p2 / (8 : Int32) * (8 : Int32)) &&& 31)) &&& (1 : Int32)) = 0)).symm with c10 | c10
    · rw [if_neg c10] at hf
      obtain ⟨a11, e12, hf⟩ := dr_some hf
      obtain ⟨g13, hf⟩ := gd_some hf
      obtain ⟨g14, hf⟩ := gd_some hf
      obtain ⟨rfl, rfl⟩ := Prod.mk.inj (Option.some.inj hf)
      exact K5
    · rw [if_pos c10] at hf
      obtain ⟨rfl, rfl⟩ := Prod.mk.inj (Option.some.inj hf)
      exact K5
theorem c_E_valueOf {l : Launch} {C : Ct} {mi : Nat} {a0 : Nat} {p1 : Int32} {p2 : Int32} {h h' : Hp} {v : Int64} (hf : f_E_valueOf a0 p1 p2 h = some (v, h')) : Mt l C mi m_E_valueOf 1 [vr (some a0), vi p1, vi p2] h (some (vl v)) h' := mt_L rfl rfl (by decide) (Nat.le_of_ble_eq_true rfl) (zf_E_valueOf hf)
-- VersionMaps$Present.isTouched()Z
def m_P_isTouched : Mi := (⟨"VersionMaps$Present", "isTouched", "()Z"⟩, prog_7_method_7_code, 1, (Option.some Jvm.ClassFile.FieldType.boolean), .ireturn)
theorem cw_P_isTouched : cw_ok m_P_isTouched 0 := ⟨by decide +kernel, by decide +kernel, by decide +kernel, by decide +kernel⟩
theorem im_P_isTouched : Cond.instanceMethod m_P_isTouched.1 ∈ lw_w := by decide +kernel
theorem se_P_isTouched : Cond.selects "VersionMaps$Present" m_P_isTouched.1 m_P_isTouched.1 ∈ lw_w := by decide +kernel
theorem d_P_isTouched_0 : decode prog_7_method_7_code 0 = .ok (.aload_n 0, 1) := by decide +kernel
theorem d_P_isTouched_1 : decode prog_7_method_7_code 1 = .ok (.getfield 18, 3) := by decide +kernel
theorem d_P_isTouched_4 : decode prog_7_method_7_code 4 = .ok (.ifCond .ne 10, 3) := by decide +kernel
theorem d_P_isTouched_7 : decode prog_7_method_7_code 7 = .ok (.aload_n 0, 1) := by decide +kernel
theorem d_P_isTouched_8 : decode prog_7_method_7_code 8 = .ok (.getfield 22, 3) := by decide +kernel
theorem d_P_isTouched_11 : decode prog_7_method_7_code 11 = .ok (.ifCond .eq 7, 3) := by decide +kernel
theorem d_P_isTouched_14 : decode prog_7_method_7_code 14 = .ok (.iconst 1, 1) := by decide +kernel
theorem d_P_isTouched_15 : decode prog_7_method_7_code 15 = .ok (.goto 4, 3) := by decide +kernel
theorem d_P_isTouched_18 : decode prog_7_method_7_code 18 = .ok (.iconst 0, 1) := by decide +kernel
theorem d_P_isTouched_19 : decode prog_7_method_7_code 19 = .ok (.ireturn, 1) := by decide +kernel
def W_P_isTouched : Wl := ([], [])
def f0_P_isTouched (a0 : Nat) (h : Hp) : Option (Int32 × Hp) :=
  gd (isK h a0 5) (if (hpI h a0 2) = 0 then (if (hpI h a0 3) = 0 then (some ((0 : Int32), h)) else (some ((1 : Int32), h))) else (some ((1 : Int32), h)))
def f_P_isTouched (a0 : Nat) (h : Hp) : Option (Int32 × Hp) := zbw (f0_P_isTouched a0 h)
set_option maxRecDepth 100000 in
set_option maxHeartbeats 4000000 in
theorem zf_P_isTouched {l : Launch} {C : Ct} {mi : Nat} {a0 : Nat} {h h' : Hp} {v : Int32} (hf : f0_P_isTouched a0 h = some (v, h')) : Z l C mi m_P_isTouched 0 0 [(0, vr (some a0))] [] h (some (vi v)) h' := by
  unfold f0_P_isTouched at hf
  refine z_aload_n 0 d_P_isTouched_0 rfl rfl ?_
  obtain ⟨g1, hf⟩ := gd_some hf
  refine z_getI d_P_isTouched_1 (fl_K (isK_eq g1) fl_P_18_5) (fi_K (isK_eq g1) rfl) rfl ?_
  refine z_if_ne (tgt := 14) d_P_isTouched_4 (by decide) (fun c2 => ?_) (fun c2 => ?_)
  · rw [if_neg c2] at hf
    refine z_iconst (v := (1 : Int32)) d_P_isTouched_14 rfl ?_
    refine z_goto (tgt := 19) d_P_isTouched_15 (by decide) ?_
    obtain ⟨rfl, rfl⟩ := Prod.mk.inj (Option.some.inj hf)
    exact z_ret d_P_isTouched_19 rfl
  · rw [if_pos c2] at hf
    refine z_aload_n 0 d_P_isTouched_7 rfl rfl ?_
    refine z_getI d_P_isTouched_8 (fl_K (isK_eq g1) fl_P_22_5) (fi_K (isK_eq g1) rfl) rfl ?_
    refine z_if_eq (tgt := 18) d_P_isTouched_11 (by decide) (fun c3 => ?_) (fun c3 => ?_)
    · rw [if_pos c3] at hf
      refine z_iconst (v := (0 : Int32)) d_P_isTouched_18 rfl ?_
      obtain ⟨rfl, rfl⟩ := Prod.mk.inj (Option.some.inj hf)
      exact z_ret d_P_isTouched_19 rfl
    · rw [if_neg c3] at hf
      refine z_iconst (v := (1 : Int32)) d_P_isTouched_14 rfl ?_
      refine z_goto (tgt := 19) d_P_isTouched_15 (by decide) ?_
      obtain ⟨rfl, rfl⟩ := Prod.mk.inj (Option.some.inj hf)
      exact z_ret d_P_isTouched_19 rfl
set_option maxRecDepth 100000 in
set_option maxHeartbeats 4000000 in
theorem fr0_P_isTouched {C : Ct} {mi : Nat} {a0 : Nat} {h h' : Hp} {v : Int32} (hf : f0_P_isTouched a0 h = some (v, h')) : Keep W_P_isTouched h h' := by
  unfold f0_P_isTouched at hf
  obtain ⟨g1, hf⟩ := gd_some hf
  rcases (Classical.em ((hpI h a0 2) = 0)).symm with c2 | c2
  · rw [if_neg c2] at hf
    obtain ⟨rfl, rfl⟩ := Prod.mk.inj (Option.some.inj hf)
    exact (Keep.refl W_P_isTouched _)
  · rw [if_pos c2] at hf
    rcases Classical.em ((hpI h a0 3) = 0) with c3 | c3
    · rw [if_pos c3] at hf
      obtain ⟨rfl, rfl⟩ := Prod.mk.inj (Option.some.inj hf)
      exact (Keep.refl W_P_isTouched _)
    · rw [if_neg c3] at hf
      obtain ⟨rfl, rfl⟩ := Prod.mk.inj (Option.some.inj hf)
      exact (Keep.refl W_P_isTouched _)
theorem fr_P_isTouched {C : Ct} {mi : Nat} {a0 : Nat} {h h' : Hp} {v : Int32} (hf : f_P_isTouched a0 h = some (v, h')) : Keep W_P_isTouched h h' := fr0_P_isTouched (C := C) (mi := mi) (zbw_some hf).2
theorem c_P_isTouched {l : Launch} {C : Ct} {mi : Nat} {a0 : Nat} {h h' : Hp} {v : Int32} (hf : f_P_isTouched a0 h = some (v, h')) : Mt l C mi m_P_isTouched 0 [vr (some a0)] h (some (vi v)) h' := mt_I (ty := .boolean) rfl rfl (zb_eq (zbw_some hf).1) (by decide) (Nat.le_of_ble_eq_true rfl) (zf_P_isTouched (zbw_some hf).2)
-- VersionMaps$Present.isMapChanged(I)Z
def m_P_isMapChanged : Mi := (⟨"VersionMaps$Present", "isMapChanged", "(I)Z"⟩, prog_7_method_18_code, 2, (Option.some Jvm.ClassFile.FieldType.boolean), .ireturn)
theorem cw_P_isMapChanged : cw_ok m_P_isMapChanged 1 := ⟨by decide +kernel, by decide +kernel, by decide +kernel, by decide +kernel⟩
theorem im_P_isMapChanged : Cond.instanceMethod m_P_isMapChanged.1 ∈ lw_w := by decide +kernel
theorem se_P_isMapChanged : Cond.selects "VersionMaps$Present" m_P_isMapChanged.1 m_P_isMapChanged.1 ∈ lw_w := by decide +kernel
theorem d_P_isMapChanged_0 : decode prog_7_method_18_code 0 = .ok (.aload_n 0, 1) := by decide +kernel
theorem d_P_isMapChanged_1 : decode prog_7_method_18_code 1 = .ok (.getfield 22, 3) := by decide +kernel
theorem d_P_isMapChanged_4 : decode prog_7_method_18_code 4 = .ok (.iload_n 1, 1) := by decide +kernel
theorem d_P_isMapChanged_5 : decode prog_7_method_18_code 5 = .ok (.ishr, 1) := by decide +kernel
theorem d_P_isMapChanged_6 : decode prog_7_method_18_code 6 = .ok (.iconst 1, 1) := by decide +kernel
theorem d_P_isMapChanged_7 : decode prog_7_method_18_code 7 = .ok (.iand, 1) := by decide +kernel
theorem d_P_isMapChanged_8 : decode prog_7_method_18_code 8 = .ok (.iconst 1, 1) := by decide +kernel
theorem d_P_isMapChanged_9 : decode prog_7_method_18_code 9 = .ok (.if_icmp .eq 17, 3) := by decide +kernel
theorem d_P_isMapChanged_12 : decode prog_7_method_18_code 12 = .ok (.aload_n 0, 1) := by decide +kernel
theorem d_P_isMapChanged_13 : decode prog_7_method_18_code 13 = .ok (.getfield 18, 3) := by decide +kernel
theorem d_P_isMapChanged_16 : decode prog_7_method_18_code 16 = .ok (.iconst 4, 1) := by decide +kernel
theorem d_P_isMapChanged_17 : decode prog_7_method_18_code 17 = .ok (.iload_n 1, 1) := by decide +kernel
theorem d_P_isMapChanged_18 : decode prog_7_method_18_code 18 = .ok (.imul, 1) := by decide +kernel
theorem d_P_isMapChanged_19 : decode prog_7_method_18_code 19 = .ok (.ishr, 1) := by decide +kernel
theorem d_P_isMapChanged_20 : decode prog_7_method_18_code 20 = .ok (.bipush 15, 2) := by decide +kernel
theorem d_P_isMapChanged_22 : decode prog_7_method_18_code 22 = .ok (.iand, 1) := by decide +kernel
theorem d_P_isMapChanged_23 : decode prog_7_method_18_code 23 = .ok (.ifCond .eq 7, 3) := by decide +kernel
theorem d_P_isMapChanged_26 : decode prog_7_method_18_code 26 = .ok (.iconst 1, 1) := by decide +kernel
theorem d_P_isMapChanged_27 : decode prog_7_method_18_code 27 = .ok (.goto 4, 3) := by decide +kernel
theorem d_P_isMapChanged_30 : decode prog_7_method_18_code 30 = .ok (.iconst 0, 1) := by decide +kernel
theorem d_P_isMapChanged_31 : decode prog_7_method_18_code 31 = .ok (.ireturn, 1) := by decide +kernel
def W_P_isMapChanged : Wl := ([], [])
def f0_P_isMapChanged (a0 : Nat) (p1 : Int32) (h : Hp) : Option (Int32 × Hp) :=
  gd (isK h a0 5) (if (((hpI h a0 3) >>> (p1 &&& 31)) &&& (1 : Int32)) = (1 : Int32) then (some ((1 : Int32), h)) else (if (((hpI h a0 2) >>> (((4 : Int32) * p1) &&& 31)) &&& (15 : Int32)) = 0 then (some ((0 : Int32), h)) else (some ((1 : Int32), h))))
def f_P_isMapChanged (a0 : Nat) (p1 : Int32) (h : Hp) : Option (Int32 × Hp) := zbw (f0_P_isMapChanged a0 p1 h)
set_option maxRecDepth 100000 in
set_option maxHeartbeats 4000000 in
theorem zf_P_isMapChanged {l : Launch} {C : Ct} {mi : Nat} {a0 : Nat} {p1 : Int32} {h h' : Hp} {v : Int32} (hf : f0_P_isMapChanged a0 p1 h = some (v, h')) : Z l C mi m_P_isMapChanged 0 0 [(0, vr (some a0)), (1, vi p1)] [] h (some (vi v)) h' := by
  unfold f0_P_isMapChanged at hf
  refine z_aload_n 0 d_P_isMapChanged_0 rfl rfl ?_
  obtain ⟨g1, hf⟩ := gd_some hf
  refine z_getI d_P_isMapChanged_1 (fl_K (isK_eq g1) fl_P_22_5) (fi_K (isK_eq g1) rfl) rfl ?_
  refine z_iload_n 1 d_P_isMapChanged_4 rfl rfl ?_
  refine z_ishr d_P_isMapChanged_5 ?_
  refine z_iconst (v := (1 : Int32)) d_P_isMapChanged_6 rfl ?_
  refine z_iand d_P_isMapChanged_7 ?_
  refine z_iconst (v := (1 : Int32)) d_P_isMapChanged_8 rfl ?_
  refine z_icmp_eq (tgt := 26) d_P_isMapChanged_9 (by decide) (fun c2 => ?_) (fun c2 => ?_)
  · rw [if_pos c2] at hf
    refine z_iconst (v := (1 : Int32)) d_P_isMapChanged_26 rfl ?_
    refine z_goto (tgt := 31) d_P_isMapChanged_27 (by decide) ?_
    obtain ⟨rfl, rfl⟩ := Prod.mk.inj (Option.some.inj hf)
    exact z_ret d_P_isMapChanged_31 rfl
  · rw [if_neg c2] at hf
    refine z_aload_n 0 d_P_isMapChanged_12 rfl rfl ?_
    refine z_getI d_P_isMapChanged_13 (fl_K (isK_eq g1) fl_P_18_5) (fi_K (isK_eq g1) rfl) rfl ?_
    refine z_iconst (v := (4 : Int32)) d_P_isMapChanged_16 rfl ?_
    refine z_iload_n 1 d_P_isMapChanged_17 rfl rfl ?_
    refine z_imul d_P_isMapChanged_18 ?_
    refine z_ishr d_P_isMapChanged_19 ?_
    refine z_bipush (v := (15 : Int32)) d_P_isMapChanged_20 (by decide) ?_
    refine z_iand d_P_isMapChanged_22 ?_
    refine z_if_eq (tgt := 30) d_P_isMapChanged_23 (by decide) (fun c3 => ?_) (fun c3 => ?_)
    · rw [if_pos c3] at hf
      refine z_iconst (v := (0 : Int32)) d_P_isMapChanged_30 rfl ?_
      obtain ⟨rfl, rfl⟩ := Prod.mk.inj (Option.some.inj hf)
      exact z_ret d_P_isMapChanged_31 rfl
    · rw [if_neg c3] at hf
      refine z_iconst (v := (1 : Int32)) d_P_isMapChanged_26 rfl ?_
      refine z_goto (tgt := 31) d_P_isMapChanged_27 (by decide) ?_
      obtain ⟨rfl, rfl⟩ := Prod.mk.inj (Option.some.inj hf)
      exact z_ret d_P_isMapChanged_31 rfl
set_option maxRecDepth 100000 in
set_option maxHeartbeats 4000000 in
theorem fr0_P_isMapChanged {C : Ct} {mi : Nat} {a0 : Nat} {p1 : Int32} {h h' : Hp} {v : Int32} (hf : f0_P_isMapChanged a0 p1 h = some (v, h')) : Keep W_P_isMapChanged h h' := by
  unfold f0_P_isMapChanged at hf
  obtain ⟨g1, hf⟩ := gd_some hf
  rcases Classical.em ((((hpI h a0 3) >>> (p1 &&& 31)) &&& (1 : Int32)) = (1 : Int32)) with c2 | c2
  · rw [if_pos c2] at hf
    obtain ⟨rfl, rfl⟩ := Prod.mk.inj (Option.some.inj hf)
    exact (Keep.refl W_P_isMapChanged _)
  · rw [if_neg c2] at hf
    rcases Classical.em ((((hpI h a0 2) >>> (((4 : Int32) * p1) &&& 31)) &&& (15 : Int32)) = 0) with c3 | c3
    · rw [if_pos c3] at hf
      obtain ⟨rfl, rfl⟩ := Prod.mk.inj (Option.some.inj hf)
      exact (Keep.refl W_P_isMapChanged _)
    · rw [if_neg c3] at hf
      obtain ⟨rfl, rfl⟩ := Prod.mk.inj (Option.some.inj hf)
      exact (Keep.refl W_P_isMapChanged _)
theorem fr_P_isMapChanged {C : Ct} {mi : Nat} {a0 : Nat} {p1 : Int32} {h h' : Hp} {v : Int32} (hf : f_P_isMapChanged a0 p1 h = some (v, h')) : Keep W_P_isMapChanged h h' := fr0_P_isMapChanged (C := C) (mi := mi) (zbw_some hf).2
theorem c_P_isMapChanged {l : Launch} {C : Ct} {mi : Nat} {a0 : Nat} {p1 : Int32} {h h' : Hp} {v : Int32} (hf : f_P_isMapChanged a0 p1 h = some (v, h')) : Mt l C mi m_P_isMapChanged 0 [vr (some a0), vi p1] h (some (vi v)) h' := mt_I (ty := .boolean) rfl rfl (zb_eq (zbw_some hf).1) (by decide) (Nat.le_of_ble_eq_true rfl) (zf_P_isMapChanged (zbw_some hf).2)
-- VersionMaps$Present.needsRoot(I)Z
def m_P_needsRoot : Mi := (⟨"VersionMaps$Present", "needsRoot", "(I)Z"⟩, prog_7_method_20_code, 2, (Option.some Jvm.ClassFile.FieldType.boolean), .ireturn)
theorem cw_P_needsRoot : cw_ok m_P_needsRoot 1 := ⟨by decide +kernel, by decide +kernel, by decide +kernel, by decide +kernel⟩
theorem im_P_needsRoot : Cond.instanceMethod m_P_needsRoot.1 ∈ lw_w := by decide +kernel
theorem se_P_needsRoot : Cond.selects "VersionMaps$Present" m_P_needsRoot.1 m_P_needsRoot.1 ∈ lw_w := by decide +kernel
theorem d_P_needsRoot_0 : decode prog_7_method_20_code 0 = .ok (.aload_n 0, 1) := by decide +kernel
theorem d_P_needsRoot_1 : decode prog_7_method_20_code 1 = .ok (.iload_n 1, 1) := by decide +kernel
theorem d_P_needsRoot_2 : decode prog_7_method_20_code 2 = .ok (.invokevirtual 77, 3) := by decide +kernel
theorem d_P_needsRoot_5 : decode prog_7_method_20_code 5 = .ok (.ifCond .eq 16, 3) := by decide +kernel
theorem d_P_needsRoot_8 : decode prog_7_method_20_code 8 = .ok (.aload_n 0, 1) := by decide +kernel
theorem d_P_needsRoot_9 : decode prog_7_method_20_code 9 = .ok (.getfield 15, 3) := by decide +kernel
theorem d_P_needsRoot_12 : decode prog_7_method_20_code 12 = .ok (.iload_n 1, 1) := by decide +kernel
theorem d_P_needsRoot_13 : decode prog_7_method_20_code 13 = .ok (.iaload, 1) := by decide +kernel
theorem d_P_needsRoot_14 : decode prog_7_method_20_code 14 = .ok (.ifCond .eq 7, 3) := by decide +kernel
theorem d_P_needsRoot_17 : decode prog_7_method_20_code 17 = .ok (.iconst 1, 1) := by decide +kernel
theorem d_P_needsRoot_18 : decode prog_7_method_20_code 18 = .ok (.goto 4, 3) := by decide +kernel
theorem d_P_needsRoot_21 : decode prog_7_method_20_code 21 = .ok (.iconst 0, 1) := by decide +kernel
theorem d_P_needsRoot_22 : decode prog_7_method_20_code 22 = .ok (.ireturn, 1) := by decide +kernel
def W_P_needsRoot : Wl := ([], [])
def f0_P_needsRoot (a0 : Nat) (p1 : Int32) (h : Hp) : Option (Int32 × Hp) :=
  gd (isK h a0 5) (cl (f_P_isMapChanged a0 p1 h) fun v4 h2 => if v4 = 0 then (some ((0 : Int32), h2)) else (gd (isK h2 a0 5) (dr (hpR h2 a0 1) fun a8 => gd (isK h2 a8 67) (gd (inb p1 (hpL h2 a8)) (if (hpI h2 a8 p1.toNatClampNeg) = 0 then (some ((0 : Int32), h2)) else (some ((1 : Int32), h2)))))))
def f_P_needsRoot (a0 : Nat) (p1 : Int32) (h : Hp) : Option (Int32 × Hp) := zbw (f0_P_needsRoot a0 p1 h)
set_option maxRecDepth 100000 in
set_option maxHeartbeats 4000000 in
theorem zf_P_needsRoot {l : Launch} {C : Ct} {mi : Nat} {a0 : Nat} {p1 : Int32} {h h' : Hp} {v : Int32} (hf : f0_P_needsRoot a0 p1 h = some (v, h')) : Z l C mi m_P_needsRoot 1 0 [(0, vr (some a0)), (1, vi p1)] [] h (some (vi v)) h' := by
  unfold f0_P_needsRoot at hf
  refine z_aload_n 0 d_P_needsRoot_0 rfl rfl ?_
  refine z_iload_n 1 d_P_needsRoot_1 rfl rfl ?_
  obtain ⟨g1, hf⟩ := gd_some hf
  obtain ⟨v4, h2, ec3, hf⟩ := cl_some hf
  refine z_callVx rfl (c_P_isMapChanged ec3) d_P_needsRoot_2 cw_P_isMapChanged lk_P_77 im_P_isMapChanged se_P_isMapChanged (kc_K (isK_eq g1) kc_5) ⟨by decide, by decide⟩ (Nat.le_of_ble_eq_true rfl) rfl ?_
  refine z_if_eq (tgt := 21) d_P_needsRoot_5 (by decide) (fun c6 => ?_) (fun c6 => ?_)
  · rw [if_pos c6] at hf
    refine z_iconst (v := (0 : Int32)) d_P_needsRoot_21 rfl ?_
    obtain ⟨rfl, rfl⟩ := Prod.mk.inj (Option.some.inj hf)
    exact z_ret d_P_needsRoot_22 rfl
  · rw [if_neg c6] at hf
    refine z_aload_n 0 d_P_needsRoot_8 rfl rfl ?_
    obtain ⟨g7, hf⟩ := gd_some hf
    refine z_getR d_P_needsRoot_9 (fl_K (isK_eq g7) fl_P_15_5) (fi_K (isK_eq g7) rfl) rfl ?_
    refine z_iload_n 1 d_P_needsRoot_12 rfl rfl ?_
    obtain ⟨a8, e9, hf⟩ := dr_some hf
    obtain ⟨g10, hf⟩ := gd_some hf
    obtain ⟨g11, hf⟩ := gd_some hf
    refine z_iald d_P_needsRoot_13 e9 (by rw [isK_eq g10]; decide) (by rw [isK_eq g10]; rfl) (inb_vp g11) ?_
    refine z_if_eq (tgt := 21) d_P_needsRoot_14 (by decide) (fun c12 => ?_) (fun c12 => ?_)
    · rw [if_pos c12] at hf
      refine z_iconst (v := (0 : Int32)) d_P_needsRoot_21 rfl ?_
      obtain ⟨rfl, rfl⟩ := Prod.mk.inj (Option.some.inj hf)
      exact z_ret d_P_needsRoot_22 rfl
    · rw [if_neg c12] at hf
      refine z_iconst (v := (1 : Int32)) d_P_needsRoot_17 rfl ?_
      refine z_goto (tgt := 22) d_P_needsRoot_18 (by decide) ?_
      obtain ⟨rfl, rfl⟩ := Prod.mk.inj (Option.some.inj hf)
      exact z_ret d_P_needsRoot_22 rfl
set_option maxRecDepth 100000 in
set_option maxHeartbeats 4000000 in
theorem fr0_P_needsRoot {C : Ct} {mi : Nat} {a0 : Nat} {p1 : Int32} {h h' : Hp} {v : Int32} (hf : f0_P_needsRoot a0 p1 h = some (v, h')) : Keep W_P_needsRoot h h' := by
  unfold f0_P_needsRoot at hf
  obtain ⟨g1, hf⟩ := gd_some hf
  obtain ⟨v4, h2, ec3, hf⟩ := cl_some hf
  have K5 := (Keep.refl W_P_needsRoot _).trans ((fr_P_isMapChanged (C := C) (mi := mi) ec3).mono (by decide) (by decide))
  rcases Classical.em (v4 = 0) with c6 | c6
  · rw [if_pos c6] at hf
    obtain ⟨rfl, rfl⟩ := Prod.mk.inj (Option.some.inj hf)
    exact K5
  · rw [if_neg c6] at hf
    obtain ⟨g7, hf⟩ := gd_some hf
    obtain ⟨a8, e9, hf⟩ := dr_some hf
    obtain ⟨g10, hf⟩ := gd_some hf
    obtain ⟨g11, hf⟩ := gd_some hf
    rcases Classical.em ((hpI h2 a8 p1.toNatClampNeg) = 0) with c12 | c12
    · rw [if_pos c12] at hf
      obtain ⟨rfl, rfl⟩ := Prod.mk.inj (Option.some.inj hf)
      exact K5
    · rw [if_neg c12] at hf
      obtain ⟨rfl, rfl⟩ := Prod.mk.inj (Option.some.inj hf)
      exact K5
theorem fr_P_needsRoot {C : Ct} {mi : Nat} {a0 : Nat} {p1 : Int32} {h h' : Hp} {v : Int32} (hf : f_P_needsRoot a0 p1 h = some (v, h')) : Keep W_P_needsRoot h h' := fr0_P_needsRoot (C := C) (mi := mi) (zbw_some hf).2
theorem c_P_needsRoot {l : Launch} {C : Ct} {mi : Nat} {a0 : Nat} {p1 : Int32} {h h' : Hp} {v : Int32} (hf : f_P_needsRoot a0 p1 h = some (v, h')) : Mt l C mi m_P_needsRoot 1 [vr (some a0), vi p1] h (some (vi v)) h' := mt_I (ty := .boolean) rfl rfl (zb_eq (zbw_some hf).1) (by decide) (Nat.le_of_ble_eq_true rfl) (zf_P_needsRoot (zbw_some hf).2)
-- VersionMaps$Present.isLeafTouched(II)Z
def m_P_isLeafTouched : Mi := (⟨"VersionMaps$Present", "isLeafTouched", "(II)Z"⟩, prog_7_method_16_code, 3, (Option.some Jvm.ClassFile.FieldType.boolean), .ireturn)
theorem cw_P_isLeafTouched : cw_ok m_P_isLeafTouched 2 := ⟨by decide +kernel, by decide +kernel, by decide +kernel, by decide +kernel⟩
theorem im_P_isLeafTouched : Cond.instanceMethod m_P_isLeafTouched.1 ∈ lw_w := by decide +kernel
theorem se_P_isLeafTouched : Cond.selects "VersionMaps$Present" m_P_isLeafTouched.1 m_P_isLeafTouched.1 ∈ lw_w := by decide +kernel
theorem d_P_isLeafTouched_0 : decode prog_7_method_16_code 0 = .ok (.aload_n 0, 1) := by decide +kernel
theorem d_P_isLeafTouched_1 : decode prog_7_method_16_code 1 = .ok (.getfield 18, 3) := by decide +kernel
theorem d_P_isLeafTouched_4 : decode prog_7_method_16_code 4 = .ok (.iconst 4, 1) := by decide +kernel
theorem d_P_isLeafTouched_5 : decode prog_7_method_16_code 5 = .ok (.iload_n 1, 1) := by decide +kernel
theorem d_P_isLeafTouched_6 : decode prog_7_method_16_code 6 = .ok (.imul, 1) := by decide +kernel
theorem d_P_isLeafTouched_7 : decode prog_7_method_16_code 7 = .ok (.iload_n 2, 1) := by decide +kernel
theorem d_P_isLeafTouched_8 : decode prog_7_method_16_code 8 = .ok (.iadd, 1) := by decide +kernel
theorem d_P_isLeafTouched_9 : decode prog_7_method_16_code 9 = .ok (.ishr, 1) := by decide +kernel
theorem d_P_isLeafTouched_10 : decode prog_7_method_16_code 10 = .ok (.iconst 1, 1) := by decide +kernel
theorem d_P_isLeafTouched_11 : decode prog_7_method_16_code 11 = .ok (.iand, 1) := by decide +kernel
theorem d_P_isLeafTouched_12 : decode prog_7_method_16_code 12 = .ok (.iconst 1, 1) := by decide +kernel
theorem d_P_isLeafTouched_13 : decode prog_7_method_16_code 13 = .ok (.if_icmp .ne 7, 3) := by decide +kernel
theorem d_P_isLeafTouched_16 : decode prog_7_method_16_code 16 = .ok (.iconst 1, 1) := by decide +kernel
theorem d_P_isLeafTouched_17 : decode prog_7_method_16_code 17 = .ok (.goto 4, 3) := by decide +kernel
theorem d_P_isLeafTouched_20 : decode prog_7_method_16_code 20 = .ok (.iconst 0, 1) := by decide +kernel
theorem d_P_isLeafTouched_21 : decode prog_7_method_16_code 21 = .ok (.ireturn, 1) := by decide +kernel
def W_P_isLeafTouched : Wl := ([], [])
def f0_P_isLeafTouched (a0 : Nat) (p1 : Int32) (p2 : Int32) (h : Hp) : Option (Int32 × Hp) :=
  gd (isK h a0 5) (if (((hpI h a0 2) >>> ((((4 : Int32) * p1) + p2) &&& 31)) &&& (1 : Int32)) = (1 : Int32) then (some ((1 : Int32), h)) else (some ((0 : Int32), h)))
def f_P_isLeafTouched (a0 : Nat) (p1 : Int32) (p2 : Int32) (h : Hp) : Option (Int32 × Hp) := zbw (f0_P_isLeafTouched a0 p1 p2 h)
set_option maxRecDepth 100000 in
set_option maxHeartbeats 4000000 in
theorem zf_P_isLeafTouched {l : Launch} {C : Ct} {mi : Nat} {a0 : Nat} {p1 : Int32} {p2 : Int32} {h h' : Hp} {v : Int32} (hf : f0_P_isLeafTouched a0 p1 p2 h = some (v, h')) : Z l C mi m_P_isLeafTouched 0 0 [(0, vr (some a0)), (1, vi p1), (2, vi p2)] [] h (some (vi v)) h' := by
  unfold f0_P_isLeafTouched at hf
  refine z_aload_n 0 d_P_isLeafTouched_0 rfl rfl ?_
  obtain ⟨g1, hf⟩ := gd_some hf
  refine z_getI d_P_isLeafTouched_1 (fl_K (isK_eq g1) fl_P_18_5) (fi_K (isK_eq g1) rfl) rfl ?_
  refine z_iconst (v := (4 : Int32)) d_P_isLeafTouched_4 rfl ?_
  refine z_iload_n 1 d_P_isLeafTouched_5 rfl rfl ?_
  refine z_imul d_P_isLeafTouched_6 ?_
  refine z_iload_n 2 d_P_isLeafTouched_7 rfl rfl ?_
  refine z_iadd d_P_isLeafTouched_8 ?_
  refine z_ishr d_P_isLeafTouched_9 ?_
  refine z_iconst (v := (1 : Int32)) d_P_isLeafTouched_10 rfl ?_
  refine z_iand d_P_isLeafTouched_11 ?_
  refine z_iconst (v := (1 : Int32)) d_P_isLeafTouched_12 rfl ?_
  refine z_icmp_ne (tgt := 20) d_P_isLeafTouched_13 (by decide) (fun c2 => ?_) (fun c2 => ?_)
  · rw [if_neg c2] at hf
    refine z_iconst (v := (0 : Int32)) d_P_isLeafTouched_20 rfl ?_
    obtain ⟨rfl, rfl⟩ := Prod.mk.inj (Option.some.inj hf)
    exact z_ret d_P_isLeafTouched_21 rfl
  · rw [if_pos c2] at hf
    refine z_iconst (v := (1 : Int32)) d_P_isLeafTouched_16 rfl ?_
    refine z_goto (tgt := 21) d_P_isLeafTouched_17 (by decide) ?_
    obtain ⟨rfl, rfl⟩ := Prod.mk.inj (Option.some.inj hf)
    exact z_ret d_P_isLeafTouched_21 rfl
set_option maxRecDepth 100000 in
set_option maxHeartbeats 4000000 in
theorem fr0_P_isLeafTouched {C : Ct} {mi : Nat} {a0 : Nat} {p1 : Int32} {p2 : Int32} {h h' : Hp} {v : Int32} (hf : f0_P_isLeafTouched a0 p1 p2 h = some (v, h')) : Keep W_P_isLeafTouched h h' := by
  unfold f0_P_isLeafTouched at hf
  obtain ⟨g1, hf⟩ := gd_some hf
  rcases (Classical.em ((((hpI h a0 2) >>> ((((4 : Int32) * p1) + p2) &&& 31)) &&& (1 : Int32)) = (1 : Int32))).symm with c2 | c2
  · rw [if_neg c2] at hf
    obtain ⟨rfl, rfl⟩ := Prod.mk.inj (Option.some.inj hf)
    exact (Keep.refl W_P_isLeafTouched _)
  · rw [if_pos c2] at hf
    obtain ⟨rfl, rfl⟩ := Prod.mk.inj (Option.some.inj hf)
    exact (Keep.refl W_P_isLeafTouched _)
theorem fr_P_isLeafTouched {C : Ct} {mi : Nat} {a0 : Nat} {p1 : Int32} {p2 : Int32} {h h' : Hp} {v : Int32} (hf : f_P_isLeafTouched a0 p1 p2 h = some (v, h')) : Keep W_P_isLeafTouched h h' := fr0_P_isLeafTouched (C := C) (mi := mi) (zbw_some hf).2
theorem c_P_isLeafTouched {l : Launch} {C : Ct} {mi : Nat} {a0 : Nat} {p1 : Int32} {p2 : Int32} {h h' : Hp} {v : Int32} (hf : f_P_isLeafTouched a0 p1 p2 h = some (v, h')) : Mt l C mi m_P_isLeafTouched 0 [vr (some a0), vi p1, vi p2] h (some (vi v)) h' := mt_I (ty := .boolean) rfl rfl (zb_eq (zbw_some hf).1) (by decide) (Nat.le_of_ble_eq_true rfl) (zf_P_isLeafTouched (zbw_some hf).2)
-- VersionMaps$Present.leafKeys(II)I
def m_P_leafKeys : Mi := (⟨"VersionMaps$Present", "leafKeys", "(II)I"⟩, prog_7_method_17_code, 3, (Option.some Jvm.ClassFile.FieldType.int), .ireturn)
theorem cw_P_leafKeys : cw_ok m_P_leafKeys 2 := ⟨by decide +kernel, by decide +kernel, by decide +kernel, by decide +kernel⟩
theorem im_P_leafKeys : Cond.instanceMethod m_P_leafKeys.1 ∈ lw_w := by decide +kernel
theorem se_P_leafKeys : Cond.selects "VersionMaps$Present" m_P_leafKeys.1 m_P_leafKeys.1 ∈ lw_w := by decide +kernel
theorem d_P_leafKeys_0 : decode prog_7_method_17_code 0 = .ok (.aload_n 0, 1) := by decide +kernel
theorem d_P_leafKeys_1 : decode prog_7_method_17_code 1 = .ok (.getfield 15, 3) := by decide +kernel
theorem d_P_leafKeys_4 : decode prog_7_method_17_code 4 = .ok (.iload_n 1, 1) := by decide +kernel
theorem d_P_leafKeys_5 : decode prog_7_method_17_code 5 = .ok (.iaload, 1) := by decide +kernel
theorem d_P_leafKeys_6 : decode prog_7_method_17_code 6 = .ok (.bipush 8, 2) := by decide +kernel
theorem d_P_leafKeys_8 : decode prog_7_method_17_code 8 = .ok (.iload_n 2, 1) := by decide +kernel
theorem d_P_leafKeys_9 : decode prog_7_method_17_code 9 = .ok (.imul, 1) := by decide +kernel
theorem d_P_leafKeys_10 : decode prog_7_method_17_code 10 = .ok (.iushr, 1) := by decide +kernel
theorem d_P_leafKeys_11 : decode prog_7_method_17_code 11 = .ok (.sipush 255, 3) := by decide +kernel
theorem d_P_leafKeys_14 : decode prog_7_method_17_code 14 = .ok (.iand, 1) := by decide +kernel
theorem d_P_leafKeys_15 : decode prog_7_method_17_code 15 = .ok (.ireturn, 1) := by decide +kernel
def W_P_leafKeys : Wl := ([], [])
def f_P_leafKeys (a0 : Nat) (p1 : Int32) (p2 : Int32) (h : Hp) : Option (Int32 × Hp) :=
  gd (isK h a0 5) (dr (hpR h a0 1) fun a2 => gd (isK h a2 67) (gd (inb p1 (hpL h a2)) (some (((ushr (hpI h a2 p1.toNatClampNeg) ((8 : Int32) * p2)) &&& (255 : Int32)), h))))
set_option maxRecDepth 100000 in
set_option maxHeartbeats 4000000 in
theorem zf_P_leafKeys {l : Launch} {C : Ct} {mi : Nat} {a0 : Nat} {p1 : Int32} {p2 : Int32} {h h' : Hp} {v : Int32} (hf : f_P_leafKeys a0 p1 p2 h = some (v, h')) : Z l C mi m_P_leafKeys 0 0 [(0, vr (some a0)), (1, vi p1), (2, vi p2)] [] h (some (vi v)) h' := by
  unfold f_P_leafKeys at hf
  refine z_aload_n 0 d_P_leafKeys_0 rfl rfl ?_
  obtain ⟨g1, hf⟩ := gd_some hf
  refine z_getR d_P_leafKeys_1 (fl_K (isK_eq g1) fl_P_15_5) (fi_K (isK_eq g1) rfl) rfl ?_
  refine z_iload_n 1 d_P_leafKeys_4 rfl rfl ?_
  obtain ⟨a2, e3, hf⟩ := dr_some hf
  obtain ⟨g4, hf⟩ := gd_some hf
  obtain ⟨g5, hf⟩ := gd_some hf
  refine z_iald d_P_leafKeys_5 e3 (by rw [isK_eq g4]; decide) (by rw [isK_eq g4]; rfl) (inb_vp g5) ?_
  refine z_bipush (v := (8 : Int32)) d_P_leafKeys_6 (by decide) ?_
  refine z_iload_n 2 d_P_leafKeys_8 rfl rfl ?_
  refine z_imul d_P_leafKeys_9 ?_
  refine z_iushr d_P_leafKeys_10 ?_
  refine z_sipush (v := (255 : Int32)) d_P_leafKeys_11 (by decide) ?_
  refine z_iand d_P_leafKeys_14 ?_
  obtain ⟨rfl, rfl⟩ := Prod.mk.inj (Option.some.inj hf)
  exact z_ret d_P_leafKeys_15 rfl
set_option maxRecDepth 100000 in
set_option maxHeartbeats 4000000 in
theorem fr_P_leafKeys {C : Ct} {mi : Nat} {a0 : Nat} {p1 : Int32} {p2 : Int32} {h h' : Hp} {v : Int32} (hf : f_P_leafKeys a0 p1 p2 h = some (v, h')) : Keep W_P_leafKeys h h' := by
  unfold f_P_leafKeys at hf
  obtain ⟨g1, hf⟩ := gd_some hf
  obtain ⟨a2, e3, hf⟩ := dr_some hf
  obtain ⟨g4, hf⟩ := gd_some hf
  obtain ⟨g5, hf⟩ := gd_some hf
  obtain ⟨rfl, rfl⟩ := Prod.mk.inj (Option.some.inj hf)
  exact (Keep.refl W_P_leafKeys _)
theorem c_P_leafKeys {l : Launch} {C : Ct} {mi : Nat} {a0 : Nat} {p1 : Int32} {p2 : Int32} {h h' : Hp} {v : Int32} (hf : f_P_leafKeys a0 p1 p2 h = some (v, h')) : Mt l C mi m_P_leafKeys 0 [vr (some a0), vi p1, vi p2] h (some (vi v)) h' := mt_I (ty := .int) rfl rfl rfl (by decide) (Nat.le_of_ble_eq_true rfl) (zf_P_leafKeys hf)
-- VersionMaps$Present.needsLeaf(II)Z
def m_P_needsLeaf : Mi := (⟨"VersionMaps$Present", "needsLeaf", "(II)Z"⟩, prog_7_method_19_code, 3, (Option.some Jvm.ClassFile.FieldType.boolean), .ireturn)
theorem cw_P_needsLeaf : cw_ok m_P_needsLeaf 2 := ⟨by decide +kernel, by decide +kernel, by decide +kernel, by decide +kernel⟩
theorem im_P_needsLeaf : Cond.instanceMethod m_P_needsLeaf.1 ∈ lw_w := by decide +kernel
theorem se_P_needsLeaf : Cond.selects "VersionMaps$Present" m_P_needsLeaf.1 m_P_needsLeaf.1 ∈ lw_w := by decide +kernel
theorem d_P_needsLeaf_0 : decode prog_7_method_19_code 0 = .ok (.aload_n 0, 1) := by decide +kernel
theorem d_P_needsLeaf_1 : decode prog_7_method_19_code 1 = .ok (.iload_n 1, 1) := by decide +kernel
theorem d_P_needsLeaf_2 : decode prog_7_method_19_code 2 = .ok (.iload_n 2, 1) := by decide +kernel
theorem d_P_needsLeaf_3 : decode prog_7_method_19_code 3 = .ok (.invokevirtual 99, 3) := by decide +kernel
theorem d_P_needsLeaf_6 : decode prog_7_method_19_code 6 = .ok (.ifCond .eq 16, 3) := by decide +kernel
theorem d_P_needsLeaf_9 : decode prog_7_method_19_code 9 = .ok (.aload_n 0, 1) := by decide +kernel
theorem d_P_needsLeaf_10 : decode prog_7_method_19_code 10 = .ok (.iload_n 1, 1) := by decide +kernel
theorem d_P_needsLeaf_11 : decode prog_7_method_19_code 11 = .ok (.iload_n 2, 1) := by decide +kernel
theorem d_P_needsLeaf_12 : decode prog_7_method_19_code 12 = .ok (.invokevirtual 107, 3) := by decide +kernel
theorem d_P_needsLeaf_15 : decode prog_7_method_19_code 15 = .ok (.ifCond .eq 7, 3) := by decide +kernel
theorem d_P_needsLeaf_18 : decode prog_7_method_19_code 18 = .ok (.iconst 1, 1) := by decide +kernel
theorem d_P_needsLeaf_19 : decode prog_7_method_19_code 19 = .ok (.goto 4, 3) := by decide +kernel
theorem d_P_needsLeaf_22 : decode prog_7_method_19_code 22 = .ok (.iconst 0, 1) := by decide +kernel
theorem d_P_needsLeaf_23 : decode prog_7_method_19_code 23 = .ok (.ireturn, 1) := by decide +kernel
def W_P_needsLeaf : Wl := ([], [])
def f0_P_needsLeaf (a0 : Nat) (p1 : Int32) (p2 : Int32) (h : Hp) : Option (Int32 × Hp) :=
  gd (isK h a0 5) (cl (f_P_isLeafTouched a0 p1 p2 h) fun v4 h2 => if v4 = 0 then (some ((0 : Int32), h2)) else (gd (isK h2 a0 5) (cl (f_P_leafKeys a0 p1 p2 h2) fun v10 h8 => if v10 = 0 then (some ((0 : Int32), h8)) else (some ((1 : Int32), h8)))))
def f_P_needsLeaf (a0 : Nat) (p1 : Int32) (p2 : Int32) (h : Hp) : Option (Int32 × Hp) := zbw (f0_P_needsLeaf a0 p1 p2 h)
set_option maxRecDepth 100000 in
set_option maxHeartbeats 4000000 in
theorem zf_P_needsLeaf {l : Launch} {C : Ct} {mi : Nat} {a0 : Nat} {p1 : Int32} {p2 : Int32} {h h' : Hp} {v : Int32} (hf : f0_P_needsLeaf a0 p1 p2 h = some (v, h')) : Z l C mi m_P_needsLeaf 1 0 [(0, vr (some a0)), (1, vi p1), (2, vi p2)] [] h (some (vi v)) h' := by
  unfold f0_P_needsLeaf at hf
  refine z_aload_n 0 d_P_needsLeaf_0 rfl rfl ?_
  refine z_iload_n 1 d_P_needsLeaf_1 rfl rfl ?_
  refine z_iload_n 2 d_P_needsLeaf_2 rfl rfl ?_
  obtain ⟨g1, hf⟩ := gd_some hf
  obtain ⟨v4, h2, ec3, hf⟩ := cl_some hf
  refine z_callVx rfl (c_P_isLeafTouched ec3) d_P_needsLeaf_3 cw_P_isLeafTouched lk_P_99 im_P_isLeafTouched se_P_isLeafTouched (kc_K (isK_eq g1) kc_5) ⟨by decide, by decide⟩ (Nat.le_of_ble_eq_true rfl) rfl ?_
  refine z_if_eq (tgt := 22) d_P_needsLeaf_6 (by decide) (fun c6 => ?_) (fun c6 => ?_)
  · rw [if_pos c6] at hf
    refine z_iconst (v := (0 : Int32)) d_P_needsLeaf_22 rfl ?_
    obtain ⟨rfl, rfl⟩ := Prod.mk.inj (Option.some.inj hf)
    exact z_ret d_P_needsLeaf_23 rfl
  · rw [if_neg c6] at hf
    refine z_aload_n 0 d_P_needsLeaf_9 rfl rfl ?_
    refine z_iload_n 1 d_P_needsLeaf_10 rfl rfl ?_
    refine z_iload_n 2 d_P_needsLeaf_11 rfl rfl ?_
    obtain ⟨g7, hf⟩ := gd_some hf
    obtain ⟨v10, h8, ec9, hf⟩ := cl_some hf
    refine z_callVx rfl (c_P_leafKeys ec9) d_P_needsLeaf_12 cw_P_leafKeys lk_P_107 im_P_leafKeys se_P_leafKeys (kc_K (isK_eq g7) kc_5) ⟨by decide, by decide⟩ (Nat.le_of_ble_eq_true rfl) rfl ?_
    refine z_if_eq (tgt := 22) d_P_needsLeaf_15 (by decide) (fun c12 => ?_) (fun c12 => ?_)
    · rw [if_pos c12] at hf
      refine z_iconst (v := (0 : Int32)) d_P_needsLeaf_22 rfl ?_
      obtain ⟨rfl, rfl⟩ := Prod.mk.inj (Option.some.inj hf)
      exact z_ret d_P_needsLeaf_23 rfl
    · rw [if_neg c12] at hf
      refine z_iconst (v := (1 : Int32)) d_P_needsLeaf_18 rfl ?_
      refine z_goto (tgt := 23) d_P_needsLeaf_19 (by decide) ?_
      obtain ⟨rfl, rfl⟩ := Prod.mk.inj (Option.some.inj hf)
      exact z_ret d_P_needsLeaf_23 rfl
set_option maxRecDepth 100000 in
set_option maxHeartbeats 4000000 in
theorem fr0_P_needsLeaf {C : Ct} {mi : Nat} {a0 : Nat} {p1 : Int32} {p2 : Int32} {h h' : Hp} {v : Int32} (hf : f0_P_needsLeaf a0 p1 p2 h = some (v, h')) : Keep W_P_needsLeaf h h' := by
  unfold f0_P_needsLeaf at hf
  obtain ⟨g1, hf⟩ := gd_some hf
  obtain ⟨v4, h2, ec3, hf⟩ := cl_some hf
  have K5 := (Keep.refl W_P_needsLeaf _).trans ((fr_P_isLeafTouched (C := C) (mi := mi) ec3).mono (by decide) (by decide))
  rcases Classical.em (v4 = 0) with c6 | c6
  · rw [if_pos c6] at hf
    obtain ⟨rfl, rfl⟩ := Prod.mk.inj (Option.some.inj hf)
    exact K5
  · rw [if_neg c6] at hf
    obtain ⟨g7, hf⟩ := gd_some hf
    obtain ⟨v10, h8, ec9, hf⟩ := cl_some hf
    have K11 := K5.trans ((fr_P_leafKeys (C := C) (mi := mi) ec9).mono (by decide) (by decide))
    rcases Classical.em (v10 = 0) with c12 | c12
    · rw [if_pos c12] at hf
      obtain ⟨rfl, rfl⟩ := Prod.mk.inj (Option.some.inj hf)
      exact K11
    · rw [if_neg c12] at hf
      obtain ⟨rfl, rfl⟩ := Prod.mk.inj (Option.some.inj hf)
      exact K11
theorem fr_P_needsLeaf {C : Ct} {mi : Nat} {a0 : Nat} {p1 : Int32} {p2 : Int32} {h h' : Hp} {v : Int32} (hf : f_P_needsLeaf a0 p1 p2 h = some (v, h')) : Keep W_P_needsLeaf h h' := fr0_P_needsLeaf (C := C) (mi := mi) (zbw_some hf).2
theorem c_P_needsLeaf {l : Launch} {C : Ct} {mi : Nat} {a0 : Nat} {p1 : Int32} {p2 : Int32} {h h' : Hp} {v : Int32} (hf : f_P_needsLeaf a0 p1 p2 h = some (v, h')) : Mt l C mi m_P_needsLeaf 1 [vr (some a0), vi p1, vi p2] h (some (vi v)) h' := mt_I (ty := .boolean) rfl rfl (zb_eq (zbw_some hf).1) (by decide) (Nat.le_of_ble_eq_true rfl) (zf_P_needsLeaf (zbw_some hf).2)
-- VersionMaps$Present.pagesToWrite()I
def m_P_pagesToWrite : Mi := (⟨"VersionMaps$Present", "pagesToWrite", "()I"⟩, prog_7_method_11_code, 4, (Option.some Jvm.ClassFile.FieldType.int), .ireturn)
theorem cw_P_pagesToWrite : cw_ok m_P_pagesToWrite 0 := ⟨by decide +kernel, by decide +kernel, by decide +kernel, by decide +kernel⟩
theorem im_P_pagesToWrite : Cond.instanceMethod m_P_pagesToWrite.1 ∈ lw_w := by decide +kernel
theorem se_P_pagesToWrite : Cond.selects "VersionMaps$Present" m_P_pagesToWrite.1 m_P_pagesToWrite.1 ∈ lw_w := by decide +kernel
theorem d_P_pagesToWrite_0 : decode prog_7_method_11_code 0 = .ok (.iconst 1, 1) := by decide +kernel
theorem d_P_pagesToWrite_1 : decode prog_7_method_11_code 1 = .ok (.istore_n 1, 1) := by decide +kernel
theorem d_P_pagesToWrite_2 : decode prog_7_method_11_code 2 = .ok (.iconst 0, 1) := by decide +kernel
theorem d_P_pagesToWrite_3 : decode prog_7_method_11_code 3 = .ok (.istore_n 2, 1) := by decide +kernel
theorem d_P_pagesToWrite_4 : decode prog_7_method_11_code 4 = .ok (.iload_n 2, 1) := by decide +kernel
theorem d_P_pagesToWrite_5 : decode prog_7_method_11_code 5 = .ok (.iconst 4, 1) := by decide +kernel
theorem d_P_pagesToWrite_6 : decode prog_7_method_11_code 6 = .ok (.if_icmp .ge 45, 3) := by decide +kernel
theorem d_P_pagesToWrite_9 : decode prog_7_method_11_code 9 = .ok (.aload_n 0, 1) := by decide +kernel
theorem d_P_pagesToWrite_10 : decode prog_7_method_11_code 10 = .ok (.iload_n 2, 1) := by decide +kernel
theorem d_P_pagesToWrite_11 : decode prog_7_method_11_code 11 = .ok (.invokevirtual 66, 3) := by decide +kernel
theorem d_P_pagesToWrite_14 : decode prog_7_method_11_code 14 = .ok (.ifCond .eq 6, 3) := by decide +kernel
theorem d_P_pagesToWrite_17 : decode prog_7_method_11_code 17 = .ok (.iinc 1 1, 3) := by decide +kernel
theorem d_P_pagesToWrite_20 : decode prog_7_method_11_code 20 = .ok (.iconst 0, 1) := by decide +kernel
theorem d_P_pagesToWrite_21 : decode prog_7_method_11_code 21 = .ok (.istore_n 3, 1) := by decide +kernel
theorem d_P_pagesToWrite_22 : decode prog_7_method_11_code 22 = .ok (.iload_n 3, 1) := by decide +kernel
theorem d_P_pagesToWrite_23 : decode prog_7_method_11_code 23 = .ok (.iconst 4, 1) := by decide +kernel
theorem d_P_pagesToWrite_24 : decode prog_7_method_11_code 24 = .ok (.if_icmp .ge 21, 3) := by decide +kernel
theorem d_P_pagesToWrite_27 : decode prog_7_method_11_code 27 = .ok (.aload_n 0, 1) := by decide +kernel
theorem d_P_pagesToWrite_28 : decode prog_7_method_11_code 28 = .ok (.iload_n 2, 1) := by decide +kernel
theorem d_P_pagesToWrite_29 : decode prog_7_method_11_code 29 = .ok (.iload_n 3, 1) := by decide +kernel
theorem d_P_pagesToWrite_30 : decode prog_7_method_11_code 30 = .ok (.invokevirtual 70, 3) := by decide +kernel
theorem d_P_pagesToWrite_33 : decode prog_7_method_11_code 33 = .ok (.ifCond .eq 6, 3) := by decide +kernel
theorem d_P_pagesToWrite_36 : decode prog_7_method_11_code 36 = .ok (.iinc 1 1, 3) := by decide +kernel
theorem d_P_pagesToWrite_39 : decode prog_7_method_11_code 39 = .ok (.iinc 3 1, 3) := by decide +kernel
theorem d_P_pagesToWrite_42 : decode prog_7_method_11_code 42 = .ok (.goto (-20), 3) := by decide +kernel
theorem d_P_pagesToWrite_45 : decode prog_7_method_11_code 45 = .ok (.iinc 2 1, 3) := by decide +kernel
theorem d_P_pagesToWrite_48 : decode prog_7_method_11_code 48 = .ok (.goto (-44), 3) := by decide +kernel
theorem d_P_pagesToWrite_51 : decode prog_7_method_11_code 51 = .ok (.iload_n 1, 1) := by decide +kernel
theorem d_P_pagesToWrite_52 : decode prog_7_method_11_code 52 = .ok (.ireturn, 1) := by decide +kernel
def W_P_pagesToWrite : Wl := ([], [])
def b_P_pagesToWrite_22 (y0 : Nat) (y1 : Int32) (y2 : Int32) (y3 : Int32) (h : Hp) : Option ((Int32 × Int32 × Hp) ⊕ (Int32 × Hp)) :=
  if (4 : Int32) ≤ y3 then (some (.inr (y1, h))) else (gd (isK h y0 5) (cl (f_P_needsLeaf y0 y2 y3 h) fun v12 h10 => if v12 = 0 then (some (.inl (y1, (y3 + (1 : Int32)), h10))) else (some (.inl ((y1 + (1 : Int32)), (y3 + (1 : Int32)), h10)))))
set_option maxRecDepth 100000 in
set_option maxHeartbeats 4000000 in
theorem zb_P_pagesToWrite_22 {l : Launch} {C : Ct} {mi : Nat} {y0 : Nat} {y1 : Int32} {y2 : Int32} {y3 : Int32} {h h' : Hp} {v : Int32} {q : ((Int32 × Int32 × Hp) ⊕ (Int32 × Hp))} (hf : b_P_pagesToWrite_22 y0 y1 y2 y3 h = some q) (kc : ∀ s, q = .inl s → Z l C mi m_P_pagesToWrite 2 22 [(0, vr (some y0)), (1, vi s.1), (2, vi y2), (3, vi s.2.1)] [] s.2.2 (some (vi v)) h') (ke : ∀ x, q = .inr x → Z l C mi m_P_pagesToWrite 2 45 [(0, vr (some y0)), (1, vi x.1), (2, vi y2)] [] x.2 (some (vi v)) h') : Z l C mi m_P_pagesToWrite 2 22 [(0, vr (some y0)), (1, vi y1), (2, vi y2), (3, vi y3)] [] h (some (vi v)) h' := by
  unfold b_P_pagesToWrite_22 at hf
  refine z_iload_n 3 d_P_pagesToWrite_22 rfl rfl ?_
  refine z_iconst (v := (4 : Int32)) d_P_pagesToWrite_23 rfl ?_
  refine z_icmp_ge (tgt := 45) d_P_pagesToWrite_24 (by decide) (fun c8 => ?_) (fun c8 => ?_)
  · rw [if_pos c8] at hf
    refine z_ls [0, 1, 2] rfl ?_
    exact ke (y1, h) (Option.some.inj hf).symm
  · rw [if_neg c8] at hf
    refine z_aload_n 0 d_P_pagesToWrite_27 rfl rfl ?_
    refine z_iload_n 2 d_P_pagesToWrite_28 rfl rfl ?_
    refine z_iload_n 3 d_P_pagesToWrite_29 rfl rfl ?_
    obtain ⟨g9, hf⟩ := gd_some hf
    obtain ⟨v12, h10, ec11, hf⟩ := cl_some hf
    refine z_callVx rfl (c_P_needsLeaf ec11) d_P_pagesToWrite_30 cw_P_needsLeaf lk_P_70 im_P_needsLeaf se_P_needsLeaf (kc_K (isK_eq g9) kc_5) ⟨by decide, by decide⟩ (Nat.le_of_ble_eq_true rfl) rfl ?_
    refine z_if_eq (tgt := 39) d_P_pagesToWrite_33 (by decide) (fun c14 => ?_) (fun c14 => ?_)
    · rw [if_pos c14] at hf
      refine z_iinc (ls2 := [(3, vi (y3 + (1 : Int32))), (0, vr (some y0)), (1, vi y1), (2, vi y2)]) 3 d_P_pagesToWrite_39 rfl rfl (by decide) rfl ?_
      refine z_goto (tgt := 22) d_P_pagesToWrite_42 (by decide) ?_
      refine z_ls [1, 2, 3, 0] rfl ?_
      exact kc (y1, (y3 + (1 : Int32)), h10) (Option.some.inj hf).symm
    · rw [if_neg c14] at hf
      refine z_iinc (ls2 := [(1, vi (y1 + (1 : Int32))), (0, vr (some y0)), (2, vi y2), (3, vi y3)]) 1 d_P_pagesToWrite_36 rfl rfl (by decide) rfl ?_
      refine z_iinc (ls2 := [(3, vi (y3 + (1 : Int32))), (1, vi (y1 + (1 : Int32))), (0, vr (some y0)), (2, vi y2)]) 3 d_P_pagesToWrite_39 rfl rfl (by decide) rfl ?_
      refine z_goto (tgt := 22) d_P_pagesToWrite_42 (by decide) ?_
      refine z_ls [2, 1, 3, 0] rfl ?_
      exact kc ((y1 + (1 : Int32)), (y3 + (1 : Int32)), h10) (Option.some.inj hf).symm
set_option maxRecDepth 100000 in
set_option maxHeartbeats 4000000 in
theorem kb_P_pagesToWrite_22 {C : Ct} {mi : Nat} {y0 : Nat} {y1 : Int32} {y2 : Int32} {y3 : Int32} {h : Hp} {q : ((Int32 × Int32 × Hp) ⊕ (Int32 × Hp))} (hf : b_P_pagesToWrite_22 y0 y1 y2 y3 h = some q) : Keep W_P_pagesToWrite h (Sum.elim (fun s : Int32 × Int32 × Hp => s.2.2) (fun x : Int32 × Hp => x.2) q) := by
  unfold b_P_pagesToWrite_22 at hf
  rcases Classical.em ((4 : Int32) ≤ y3) with c8 | c8
  · rw [if_pos c8] at hf
    cases (Option.some.inj hf)
    exact (Keep.refl W_P_pagesToWrite _)
  · rw [if_neg c8] at hf
    obtain ⟨g9, hf⟩ := gd_some hf
    obtain ⟨v12, h10, ec11, hf⟩ := cl_some hf
    have K13 := (Keep.refl W_P_pagesToWrite _).trans ((fr_P_needsLeaf (C := C) (mi := mi) ec11).mono (by decide) (by decide))
    rcases Classical.em (v12 = 0) with c14 | c14
    · rw [if_pos c14] at hf
      cases (Option.some.inj hf)
      exact K13
    · rw [if_neg c14] at hf
      cases (Option.some.inj hf)
      exact K13
def l_P_pagesToWrite_22 (y0 : Nat) (y2 : Int32) (s : Int32 × Int32 × Hp) : Option (Int32 × Hp) := lp (fun s => b_P_pagesToWrite_22 y0 s.1 y2 s.2.1 s.2.2) FU s
theorem zzl_P_pagesToWrite_22 {l : Launch} {C : Ct} {mi : Nat} {y0 : Nat} {y2 : Int32} {h' : Hp} {v : Int32} : ∀ (n : Nat) (s : Int32 × Int32 × Hp) (x : (Int32 × Hp)), lp (fun s : Int32 × Int32 × Hp => b_P_pagesToWrite_22 y0 s.1 y2 s.2.1 s.2.2) n s = some x → Z l C mi m_P_pagesToWrite 2 45 [(0, vr (some y0)), (1, vi x.1), (2, vi y2)] [] x.2 (some (vi v)) h' → Z l C mi m_P_pagesToWrite 2 22 [(0, vr (some y0)), (1, vi s.1), (2, vi y2), (3, vi s.2.1)] [] s.2.2 (some (vi v)) h' := by
  intro n
  induction n with
  | zero => intro s x hl; cases hl
  | succ n ih =>
    intro s x hl ke
    rcases lp_some hl with ⟨s2, hb, hl2⟩ | hb
    · exact zb_P_pagesToWrite_22 hb (fun s3 e3 => by cases e3; refine z_ls [0, 1, 2, 3] rfl ?_; exact ih s2 x hl2 ke) (fun x e3 => by cases e3)
    · exact zb_P_pagesToWrite_22 hb (fun s3 e3 => by cases e3) (fun x e3 => by cases e3; exact ke)
theorem zl_P_pagesToWrite_22 {l : Launch} {C : Ct} {mi : Nat} {y0 : Nat} {y2 : Int32} {h' : Hp} {v : Int32} {s : Int32 × Int32 × Hp} {x : (Int32 × Hp)} (hl : l_P_pagesToWrite_22 y0 y2 s = some x) (ke : Z l C mi m_P_pagesToWrite 2 45 [(0, vr (some y0)), (1, vi x.1), (2, vi y2)] [] x.2 (some (vi v)) h') : Z l C mi m_P_pagesToWrite 2 22 [(0, vr (some y0)), (1, vi s.1), (2, vi y2), (3, vi s.2.1)] [] s.2.2 (some (vi v)) h' := zzl_P_pagesToWrite_22 FU s x hl ke
theorem kl_P_pagesToWrite_22 {C : Ct} {mi : Nat} {y0 : Nat} {y2 : Int32} {s : Int32 × Int32 × Hp} {q : (Int32 × Hp)} (hl : l_P_pagesToWrite_22 y0 y2 s = some q) : Keep W_P_pagesToWrite s.2.2 ((fun x : Int32 × Hp => x.2) q) := lpk (sh := (fun s : Int32 × Int32 × Hp => s.2.2)) (rh := (fun x : Int32 × Hp => x.2)) (fun s q hb => kb_P_pagesToWrite_22 (C := C) (mi := mi) hb) FU s q hl
def j_P_pagesToWrite_20_L4 (y0 : Nat) (y1 : Int32) (y2 : Int32) (h : Hp) : Option ((Int32 × Int32 × Hp) ⊕ (Int32 × Hp)) :=
  bd (l_P_pagesToWrite_22 y0 y2 (y1, (0 : Int32), h)) fun x15 => some (.inl (x15.1, (y2 + (1 : Int32)), x15.2))
set_option maxRecDepth 100000 in
set_option maxHeartbeats 4000000 in
theorem zj_P_pagesToWrite_20_L4 {l : Launch} {C : Ct} {mi : Nat} {y0 : Nat} {y1 : Int32} {y2 : Int32} {h h' : Hp} {v : Int32} {q : ((Int32 × Int32 × Hp) ⊕ (Int32 × Hp))} (hf : j_P_pagesToWrite_20_L4 y0 y1 y2 h = some q) (kc : ∀ s, q = .inl s → Z l C mi m_P_pagesToWrite 2 4 [(0, vr (some y0)), (1, vi s.1), (2, vi s.2.1)] [] s.2.2 (some (vi v)) h') (ke : ∀ x, q = .inr x → Z l C mi m_P_pagesToWrite 2 51 [(1, vi x.1)] [] x.2 (some (vi v)) h') : Z l C mi m_P_pagesToWrite 2 20 [(0, vr (some y0)), (1, vi y1), (2, vi y2)] [] h (some (vi v)) h' := by
  unfold j_P_pagesToWrite_20_L4 at hf
  refine z_iconst (v := (0 : Int32)) d_P_pagesToWrite_20 rfl ?_
  refine z_istore_n (ls2 := [(3, vi (0 : Int32)), (0, vr (some y0)), (1, vi y1), (2, vi y2)]) d_P_pagesToWrite_21 rfl (by decide) rfl ?_
  obtain ⟨x15, el16, hf⟩ := bd_some hf
  refine z_ls [1, 2, 3, 0] rfl ?_
  refine zl_P_pagesToWrite_22 el16 ?_
  refine z_iinc (ls2 := [(2, vi (y2 + (1 : Int32))), (0, vr (some y0)), (1, vi x15.1)]) 2 d_P_pagesToWrite_45 rfl rfl (by decide) rfl ?_
  refine z_goto (tgt := 4) d_P_pagesToWrite_48 (by decide) ?_
  refine z_ls [1, 2, 0] rfl ?_
  exact kc (x15.1, (y2 + (1 : Int32)), x15.2) (Option.some.inj hf).symm
set_option maxRecDepth 100000 in
set_option maxHeartbeats 4000000 in
theorem kj_P_pagesToWrite_20_L4 {C : Ct} {mi : Nat} {y0 : Nat} {y1 : Int32} {y2 : Int32} {h : Hp} {q : ((Int32 × Int32 × Hp) ⊕ (Int32 × Hp))} (hf : j_P_pagesToWrite_20_L4 y0 y1 y2 h = some q) : Keep W_P_pagesToWrite h (Sum.elim (fun s : Int32 × Int32 × Hp => s.2.2) (fun x : Int32 × Hp => x.2) q) := by
  unfold j_P_pagesToWrite_20_L4 at hf
  obtain ⟨x15, el16, hf⟩ := bd_some hf
  have K17 := (Keep.refl W_P_pagesToWrite _).trans (kl_P_pagesToWrite_22 (C := C) (mi := mi) el16)
  cases (Option.some.inj hf)
  exact K17
def b_P_pagesToWrite_4 (y0 : Nat) (y1 : Int32) (y2 : Int32) (h : Hp) : Option ((Int32 × Int32 × Hp) ⊕ (Int32 × Hp)) :=
  if (4 : Int32) ≤ y2 then (some (.inr (y1, h))) else (gd (isK h y0 5) (cl (f_P_needsRoot y0 y2 h) fun v5 h3 => if v5 = 0 then (j_P_pagesToWrite_20_L4 y0 y1 y2 h3) else (j_P_pagesToWrite_20_L4 y0 (y1 + (1 : Int32)) y2 h3)))
set_option maxRecDepth 100000 in
set_option maxHeartbeats 4000000 in
theorem zb_P_pagesToWrite_4 {l : Launch} {C : Ct} {mi : Nat} {y0 : Nat} {y1 : Int32} {y2 : Int32} {h h' : Hp} {v : Int32} {q : ((Int32 × Int32 × Hp) ⊕ (Int32 × Hp))} (hf : b_P_pagesToWrite_4 y0 y1 y2 h = some q) (kc : ∀ s, q = .inl s → Z l C mi m_P_pagesToWrite 2 4 [(0, vr (some y0)), (1, vi s.1), (2, vi s.2.1)] [] s.2.2 (some (vi v)) h') (ke : ∀ x, q = .inr x → Z l C mi m_P_pagesToWrite 2 51 [(1, vi x.1)] [] x.2 (some (vi v)) h') : Z l C mi m_P_pagesToWrite 2 4 [(0, vr (some y0)), (1, vi y1), (2, vi y2)] [] h (some (vi v)) h' := by
  unfold b_P_pagesToWrite_4 at hf
  refine z_iload_n 2 d_P_pagesToWrite_4 rfl rfl ?_
  refine z_iconst (v := (4 : Int32)) d_P_pagesToWrite_5 rfl ?_
  refine z_icmp_ge (tgt := 51) d_P_pagesToWrite_6 (by decide) (fun c1 => ?_) (fun c1 => ?_)
  · rw [if_pos c1] at hf
    refine z_ls [1] rfl ?_
    exact ke (y1, h) (Option.some.inj hf).symm
  · rw [if_neg c1] at hf
    refine z_aload_n 0 d_P_pagesToWrite_9 rfl rfl ?_
    refine z_iload_n 2 d_P_pagesToWrite_10 rfl rfl ?_
    obtain ⟨g2, hf⟩ := gd_some hf
    obtain ⟨v5, h3, ec4, hf⟩ := cl_some hf
    refine z_callVx rfl (c_P_needsRoot ec4) d_P_pagesToWrite_11 cw_P_needsRoot lk_P_66 im_P_needsRoot se_P_needsRoot (kc_K (isK_eq g2) kc_5) ⟨by decide, by decide⟩ (Nat.le_of_ble_eq_true rfl) rfl ?_
    refine z_if_eq (tgt := 20) d_P_pagesToWrite_14 (by decide) (fun c7 => ?_) (fun c7 => ?_)
    · rw [if_pos c7] at hf
      refine z_ls [0, 1, 2] rfl ?_
      exact zj_P_pagesToWrite_20_L4 hf kc ke
    · rw [if_neg c7] at hf
      refine z_iinc (ls2 := [(1, vi (y1 + (1 : Int32))), (0, vr (some y0)), (2, vi y2)]) 1 d_P_pagesToWrite_17 rfl rfl (by decide) rfl ?_
      refine z_ls [1, 0, 2] rfl ?_
      exact zj_P_pagesToWrite_20_L4 hf kc ke
set_option maxRecDepth 100000 in
set_option maxHeartbeats 4000000 in
theorem kb_P_pagesToWrite_4 {C : Ct} {mi : Nat} {y0 : Nat} {y1 : Int32} {y2 : Int32} {h : Hp} {q : ((Int32 × Int32 × Hp) ⊕ (Int32 × Hp))} (hf : b_P_pagesToWrite_4 y0 y1 y2 h = some q) : Keep W_P_pagesToWrite h (Sum.elim (fun s : Int32 × Int32 × Hp => s.2.2) (fun x : Int32 × Hp => x.2) q) := by
  unfold b_P_pagesToWrite_4 at hf
  rcases Classical.em ((4 : Int32) ≤ y2) with c1 | c1
  · rw [if_pos c1] at hf
    cases (Option.some.inj hf)
    exact (Keep.refl W_P_pagesToWrite _)
  · rw [if_neg c1] at hf
    obtain ⟨g2, hf⟩ := gd_some hf
    obtain ⟨v5, h3, ec4, hf⟩ := cl_some hf
    have K6 := (Keep.refl W_P_pagesToWrite _).trans ((fr_P_needsRoot (C := C) (mi := mi) ec4).mono (by decide) (by decide))
    rcases Classical.em (v5 = 0) with c7 | c7
    · rw [if_pos c7] at hf
      exact K6.trans (kj_P_pagesToWrite_20_L4 (C := C) (mi := mi) hf)
    · rw [if_neg c7] at hf
      exact K6.trans (kj_P_pagesToWrite_20_L4 (C := C) (mi := mi) hf)
def l_P_pagesToWrite_4 (y0 : Nat) (s : Int32 × Int32 × Hp) : Option (Int32 × Hp) := lp (fun s => b_P_pagesToWrite_4 y0 s.1 s.2.1 s.2.2) FU s
theorem zzl_P_pagesToWrite_4 {l : Launch} {C : Ct} {mi : Nat} {y0 : Nat} {h' : Hp} {v : Int32} : ∀ (n : Nat) (s : Int32 × Int32 × Hp) (x : (Int32 × Hp)), lp (fun s : Int32 × Int32 × Hp => b_P_pagesToWrite_4 y0 s.1 s.2.1 s.2.2) n s = some x → Z l C mi m_P_pagesToWrite 2 51 [(1, vi x.1)] [] x.2 (some (vi v)) h' → Z l C mi m_P_pagesToWrite 2 4 [(0, vr (some y0)), (1, vi s.1), (2, vi s.2.1)] [] s.2.2 (some (vi v)) h' := by
  intro n
  induction n with
  | zero => intro s x hl; cases hl
  | succ n ih =>
    intro s x hl ke
    rcases lp_some hl with ⟨s2, hb, hl2⟩ | hb
    · exact zb_P_pagesToWrite_4 hb (fun s3 e3 => by cases e3; refine z_ls [0, 1, 2] rfl ?_; exact ih s2 x hl2 ke) (fun x e3 => by cases e3)
    · exact zb_P_pagesToWrite_4 hb (fun s3 e3 => by cases e3) (fun x e3 => by cases e3; exact ke)
theorem zl_P_pagesToWrite_4 {l : Launch} {C : Ct} {mi : Nat} {y0 : Nat} {h' : Hp} {v : Int32} {s : Int32 × Int32 × Hp} {x : (Int32 × Hp)} (hl : l_P_pagesToWrite_4 y0 s = some x) (ke : Z l C mi m_P_pagesToWrite 2 51 [(1, vi x.1)] [] x.2 (some (vi v)) h') : Z l C mi m_P_pagesToWrite 2 4 [(0, vr (some y0)), (1, vi s.1), (2, vi s.2.1)] [] s.2.2 (some (vi v)) h' := zzl_P_pagesToWrite_4 FU s x hl ke
theorem kl_P_pagesToWrite_4 {C : Ct} {mi : Nat} {y0 : Nat} {s : Int32 × Int32 × Hp} {q : (Int32 × Hp)} (hl : l_P_pagesToWrite_4 y0 s = some q) : Keep W_P_pagesToWrite s.2.2 ((fun x : Int32 × Hp => x.2) q) := lpk (sh := (fun s : Int32 × Int32 × Hp => s.2.2)) (rh := (fun x : Int32 × Hp => x.2)) (fun s q hb => kb_P_pagesToWrite_4 (C := C) (mi := mi) hb) FU s q hl
def f_P_pagesToWrite (a0 : Nat) (h : Hp) : Option (Int32 × Hp) :=
  bd (l_P_pagesToWrite_4 a0 ((1 : Int32), (0 : Int32), h)) fun x18 => some (x18.1, x18.2)
set_option maxRecDepth 100000 in
set_option maxHeartbeats 4000000 in
theorem zf_P_pagesToWrite {l : Launch} {C : Ct} {mi : Nat} {a0 : Nat} {h h' : Hp} {v : Int32} (hf : f_P_pagesToWrite a0 h = some (v, h')) : Z l C mi m_P_pagesToWrite 2 0 [(0, vr (some a0))] [] h (some (vi v)) h' := by
  unfold f_P_pagesToWrite at hf
  refine z_iconst (v := (1 : Int32)) d_P_pagesToWrite_0 rfl ?_
  refine z_istore_n (ls2 := [(1, vi (1 : Int32)), (0, vr (some a0))]) d_P_pagesToWrite_1 rfl (by decide) rfl ?_
  refine z_iconst (v := (0 : Int32)) d_P_pagesToWrite_2 rfl ?_
  refine z_istore_n (ls2 := [(2, vi (0 : Int32)), (1, vi (1 : Int32)), (0, vr (some a0))]) d_P_pagesToWrite_3 rfl (by decide) rfl ?_
  obtain ⟨x18, el19, hf⟩ := bd_some hf
  refine z_ls [2, 1, 0] rfl ?_
  refine zl_P_pagesToWrite_4 el19 ?_
  refine z_iload_n 0 d_P_pagesToWrite_51 rfl rfl ?_
  obtain ⟨rfl, rfl⟩ := Prod.mk.inj (Option.some.inj hf)
  exact z_ret d_P_pagesToWrite_52 rfl
set_option maxRecDepth 100000 in
set_option maxHeartbeats 4000000 in
theorem fr_P_pagesToWrite {C : Ct} {mi : Nat} {a0 : Nat} {h h' : Hp} {v : Int32} (hf : f_P_pagesToWrite a0 h = some (v, h')) : Keep W_P_pagesToWrite h h' := by
  unfold f_P_pagesToWrite at hf
  obtain ⟨x18, el19, hf⟩ := bd_some hf
  have K20 := (Keep.refl W_P_pagesToWrite _).trans (kl_P_pagesToWrite_4 (C := C) (mi := mi) el19)
  obtain ⟨rfl, rfl⟩ := Prod.mk.inj (Option.some.inj hf)
  exact K20
theorem c_P_pagesToWrite {l : Launch} {C : Ct} {mi : Nat} {a0 : Nat} {h h' : Hp} {v : Int32} (hf : f_P_pagesToWrite a0 h = some (v, h')) : Mt l C mi m_P_pagesToWrite 2 [vr (some a0)] h (some (vi v)) h' := mt_I (ty := .int) rfl rfl rfl (by decide) (Nat.le_of_ble_eq_true rfl) (zf_P_pagesToWrite hf)
-- VersionMaps.blocksFor(I)I
def m_X_blocksFor : Mi := (⟨"VersionMaps", "blocksFor", "(I)I"⟩, prog_1_method_21_code, 1, (Option.some Jvm.ClassFile.FieldType.int), .ireturn)
theorem cw_X_blocksFor : cw_ok m_X_blocksFor 1 := ⟨by decide +kernel, by decide +kernel, by decide +kernel, by decide +kernel⟩
theorem d_X_blocksFor_0 : decode prog_1_method_21_code 0 = .ok (.iload_n 0, 1) := by decide +kernel
theorem d_X_blocksFor_1 : decode prog_1_method_21_code 1 = .ok (.iconst 2, 1) := by decide +kernel
theorem d_X_blocksFor_2 : decode prog_1_method_21_code 2 = .ok (.iadd, 1) := by decide +kernel
theorem d_X_blocksFor_3 : decode prog_1_method_21_code 3 = .ok (.iconst 1, 1) := by decide +kernel
theorem d_X_blocksFor_4 : decode prog_1_method_21_code 4 = .ok (.isub, 1) := by decide +kernel
theorem d_X_blocksFor_5 : decode prog_1_method_21_code 5 = .ok (.iconst 2, 1) := by decide +kernel
theorem d_X_blocksFor_6 : decode prog_1_method_21_code 6 = .ok (.idiv, 1) := by decide +kernel
theorem d_X_blocksFor_7 : decode prog_1_method_21_code 7 = .ok (.ireturn, 1) := by decide +kernel
def W_X_blocksFor : Wl := ([], [])
def f_X_blocksFor (p1 : Int32) (h : Hp) : Option (Int32 × Hp) :=
  some ((((p1 + (2 : Int32)) - (1 : Int32)) / (2 : Int32)), h)
set_option maxRecDepth 100000 in
set_option maxHeartbeats 4000000 in
theorem zf_X_blocksFor {l : Launch} {C : Ct} {mi : Nat} {p1 : Int32} {h h' : Hp} {v : Int32} (hf : f_X_blocksFor p1 h = some (v, h')) : Z l C mi m_X_blocksFor 0 0 [(0, vi p1)] [] h (some (vi v)) h' := by
  unfold f_X_blocksFor at hf
  refine z_iload_n 0 d_X_blocksFor_0 rfl rfl ?_
  refine z_iconst (v := (2 : Int32)) d_X_blocksFor_1 rfl ?_
  refine z_iadd d_X_blocksFor_2 ?_
  refine z_iconst (v := (1 : Int32)) d_X_blocksFor_3 rfl ?_
  refine z_isub d_X_blocksFor_4 ?_
  refine z_iconst (v := (2 : Int32)) d_X_blocksFor_5 rfl ?_
  refine z_idiv d_X_blocksFor_6 (by decide) ?_
  obtain ⟨rfl, rfl⟩ := Prod.mk.inj (Option.some.inj hf)
  exact z_ret d_X_blocksFor_7 rfl
set_option maxRecDepth 100000 in
set_option maxHeartbeats 4000000 in
theorem fr_X_blocksFor {C : Ct} {mi : Nat} {p1 : Int32} {h h' : Hp} {v : Int32} (hf : f_X_blocksFor p1 h = some (v, h')) : Keep W_X_blocksFor h h' := by
  unfold f_X_blocksFor at hf
  obtain ⟨rfl, rfl⟩ := Prod.mk.inj (Option.some.inj hf)
  exact (Keep.refl W_X_blocksFor _)
theorem c_X_blocksFor {l : Launch} {C : Ct} {mi : Nat} {p1 : Int32} {h h' : Hp} {v : Int32} (hf : f_X_blocksFor p1 h = some (v, h')) : Mt l C mi m_X_blocksFor 0 [vi p1] h (some (vi v)) h' := mt_I (ty := .int) rfl rfl rfl (by decide) (Nat.le_of_ble_eq_true rfl) (zf_X_blocksFor hf)
-- VersionMaps$Chunk.<init>(III)V
def m_K_init : Mi := (⟨"VersionMaps$Chunk", "<init>", "(III)V"⟩, prog_3_method_1_code, 4, (Option.none : Option Jvm.ClassFile.FieldType), .return_)
theorem cw_K_init : cw_ok m_K_init 3 := ⟨by decide +kernel, by decide +kernel, by decide +kernel, by decide +kernel⟩
theorem im_K_init : Cond.instanceMethod m_K_init.1 ∈ lw_w := by decide +kernel
theorem d_K_init_0 : decode prog_3_method_1_code 0 = .ok (.aload_n 0, 1) := by decide +kernel
theorem d_K_init_1 : decode prog_3_method_1_code 1 = .ok (.invokespecial 1, 3) := by decide +kernel
theorem d_K_init_4 : decode prog_3_method_1_code 4 = .ok (.aload_n 0, 1) := by decide +kernel
theorem d_K_init_5 : decode prog_3_method_1_code 5 = .ok (.iconst 0, 1) := by decide +kernel
theorem d_K_init_6 : decode prog_3_method_1_code 6 = .ok (.putfield 7, 3) := by decide +kernel
theorem d_K_init_9 : decode prog_3_method_1_code 9 = .ok (.aload_n 0, 1) := by decide +kernel
theorem d_K_init_10 : decode prog_3_method_1_code 10 = .ok (.aconst_null, 1) := by decide +kernel
theorem d_K_init_11 : decode prog_3_method_1_code 11 = .ok (.putfield 13, 3) := by decide +kernel
theorem d_K_init_14 : decode prog_3_method_1_code 14 = .ok (.aload_n 0, 1) := by decide +kernel
theorem d_K_init_15 : decode prog_3_method_1_code 15 = .ok (.iload_n 1, 1) := by decide +kernel
theorem d_K_init_16 : decode prog_3_method_1_code 16 = .ok (.putfield 17, 3) := by decide +kernel
theorem d_K_init_19 : decode prog_3_method_1_code 19 = .ok (.aload_n 0, 1) := by decide +kernel
theorem d_K_init_20 : decode prog_3_method_1_code 20 = .ok (.iload_n 2, 1) := by decide +kernel
theorem d_K_init_21 : decode prog_3_method_1_code 21 = .ok (.putfield 20, 3) := by decide +kernel
theorem d_K_init_24 : decode prog_3_method_1_code 24 = .ok (.aload_n 0, 1) := by decide +kernel
theorem d_K_init_25 : decode prog_3_method_1_code 25 = .ok (.iload_n 3, 1) := by decide +kernel
theorem d_K_init_26 : decode prog_3_method_1_code 26 = .ok (.anewarray 23, 3) := by decide +kernel
theorem d_K_init_29 : decode prog_3_method_1_code 29 = .ok (.putfield 25, 3) := by decide +kernel
theorem d_K_init_32 : decode prog_3_method_1_code 32 = .ok (.return_, 1) := by decide +kernel
def W_K_init : Wl := ([(2, 0), (2, 1), (2, 2), (2, 3), (2, 4)], [])
def f_K_init (a0 : Nat) (p1 : Int32) (p2 : Int32) (p3 : Int32) (h : Hp) : Option Hp :=
  gd (isK h a0 2) (nm (wI h a0 3 (0 : Int32)) fun h2 => nm (wR h2 a0 4 none) fun h5 => nm (wI h5 a0 0 p1) fun h8 => nm (wI h8 a0 1 p2) fun h11 => gd (lnB p3) (nm (nw h11 103 p3.toNatClampNeg p3.toNatClampNeg) fun h15 => gd (isK h15 a0 2) (nm (wR h15 a0 2 (some (hpN h11))) fun h19 => some h19)))
set_option maxRecDepth 100000 in
set_option maxHeartbeats 4000000 in
theorem zf_K_init {l : Launch} {C : Ct} {mi : Nat} {a0 : Nat} {p1 : Int32} {p2 : Int32} {p3 : Int32} {h h' : Hp} (hf : f_K_init a0 p1 p2 p3 h = some h') : Z l C mi m_K_init 1 0 [(0, vr (some a0)), (1, vi p1), (2, vi p2), (3, vi p3)] [] h none h' := by
  unfold f_K_init at hf
  refine z_aload_n 0 d_K_init_0 rfl rfl ?_
  refine z_oinit d_K_init_1 (by decide +kernel) rfl (by decide) (Nat.le_of_ble_eq_true rfl) ?_
  refine z_aload_n 0 d_K_init_4 rfl rfl ?_
  refine z_iconst (v := (0 : Int32)) d_K_init_5 rfl ?_
  obtain ⟨g1, hf⟩ := gd_some hf
  obtain ⟨h2, eh3, hf⟩ := nm_some hf
  refine z_putI d_K_init_6 (fl_K (isK_eq g1) fl_K_7_2) (pu_K (isK_eq g1) (fun q hq => by cases (Option.some.inj hq); exact Or.inl rfl)) (fi_K (isK_eq g1) rfl) rfl ?_
  refine z_hp eh3 ?_
  refine z_aload_n 0 d_K_init_9 rfl rfl ?_
  refine z_aconst_null d_K_init_10 ?_
  obtain ⟨h5, eh6, hf⟩ := nm_some hf
  refine z_putR d_K_init_11 (fl_K (isK_eq (isK_wI eh3 g1)) fl_K_13_2) (pu_K (isK_eq (isK_wI eh3 g1)) (fun q hq => by cases (Option.some.inj hq); exact Or.inl rfl)) (fi_K (isK_eq (isK_wI eh3 g1)) rfl) rfl ?_
  refine z_hp eh6 ?_
  refine z_aload_n 0 d_K_init_14 rfl rfl ?_
  refine z_iload_n 1 d_K_init_15 rfl rfl ?_
  obtain ⟨h8, eh9, hf⟩ := nm_some hf
  refine z_putI d_K_init_16 (fl_K (isK_eq (isK_wR eh6 (isK_wI eh3 g1))) fl_K_17_2) (pu_K (isK_eq (isK_wR eh6 (isK_wI eh3 g1))) (fun q hq => by cases (Option.some.inj hq); exact Or.inr ⟨rfl, rfl⟩)) (fi_K (isK_eq (isK_wR eh6 (isK_wI eh3 g1))) rfl) rfl ?_
  refine z_hp eh9 ?_
  refine z_aload_n 0 d_K_init_19 rfl rfl ?_
  refine z_iload_n 2 d_K_init_20 rfl rfl ?_
  obtain ⟨h11, eh12, hf⟩ := nm_some hf
  refine z_putI d_K_init_21 (fl_K (isK_eq (isK_wI eh9 (isK_wR eh6 (isK_wI eh3 g1)))) fl_K_20_2) (pu_K (isK_eq (isK_wI eh9 (isK_wR eh6 (isK_wI eh3 g1)))) (fun q hq => by cases (Option.some.inj hq); exact Or.inr ⟨rfl, rfl⟩)) (fi_K (isK_eq (isK_wI eh9 (isK_wR eh6 (isK_wI eh3 g1)))) rfl) rfl ?_
  refine z_hp eh12 ?_
  refine z_aload_n 0 d_K_init_24 rfl rfl ?_
  refine z_iload_n 3 d_K_init_25 rfl rfl ?_
  obtain ⟨g14, hf⟩ := gd_some hf
  obtain ⟨h15, eh16, hf⟩ := nm_some hf
  refine z_newR (N := p3.toNatClampNeg) (κ := 103) (t := 3) d_K_init_26 (by decide +kernel) (by decide +kernel) (by decide) (by decide) rfl (lnB_eq g14).1 rfl (lnB_eq g14).2 ?_
  refine z_hp eh16 ?_
  obtain ⟨g18, hf⟩ := gd_some hf
  obtain ⟨h19, eh20, hf⟩ := nm_some hf
  refine z_putR d_K_init_29 (fl_K (isK_eq g18) fl_K_25_2) (pu_K (isK_eq g18) (fun q hq => by cases (Option.some.inj hq); exact Or.inr ⟨rfl, rfl⟩)) (fi_K (isK_eq g18) rfl) rfl ?_
  refine z_hp eh20 ?_
  cases (Option.some.inj hf)
  exact z_ret d_K_init_32 rfl
set_option maxRecDepth 100000 in
set_option maxHeartbeats 4000000 in
theorem fr_K_init {C : Ct} {mi : Nat} {a0 : Nat} {p1 : Int32} {p2 : Int32} {p3 : Int32} {h h' : Hp} (hf : f_K_init a0 p1 p2 p3 h = some h') : Keep W_K_init h h' := by
  unfold f_K_init at hf
  obtain ⟨g1, hf⟩ := gd_some hf
  obtain ⟨h2, eh3, hf⟩ := nm_some hf
  have K4 := (Keep.refl W_K_init _).trans (kw_I eh3 (isK_eq g1) (Or.inl (by decide)))
  obtain ⟨h5, eh6, hf⟩ := nm_some hf
  have K7 := K4.trans (kw_R eh6 (isK_eq (isK_wI eh3 g1)) (Or.inl (by decide)))
  obtain ⟨h8, eh9, hf⟩ := nm_some hf
  have K10 := K7.trans (kw_I eh9 (isK_eq (isK_wR eh6 (isK_wI eh3 g1))) (Or.inl (by decide)))
  obtain ⟨h11, eh12, hf⟩ := nm_some hf
  have K13 := K10.trans (kw_I eh12 (isK_eq (isK_wI eh9 (isK_wR eh6 (isK_wI eh3 g1)))) (Or.inl (by decide)))
  obtain ⟨g14, hf⟩ := gd_some hf
  obtain ⟨h15, eh16, hf⟩ := nm_some hf
  have K17 := K13.trans (kw_N eh16)
  obtain ⟨g18, hf⟩ := gd_some hf
  obtain ⟨h19, eh20, hf⟩ := nm_some hf
  have K21 := K17.trans (kw_R eh20 (isK_eq g18) (Or.inl (by decide)))
  cases (Option.some.inj hf)
  exact K21
theorem c_K_init {l : Launch} {C : Ct} {mi : Nat} {a0 : Nat} {p1 : Int32} {p2 : Int32} {p3 : Int32} {h h' : Hp} (hf : f_K_init a0 p1 p2 p3 h = some h') : Mt l C mi m_K_init 1 [vr (some a0), vi p1, vi p2, vi p3] h none h' := mt_V rfl rfl (by decide) (Nat.le_of_ble_eq_true rfl) (zf_K_init hf)
-- VersionMaps$Page.<init>()V
def m_G_init : Mi := (⟨"VersionMaps$Page", "<init>", "()V"⟩, prog_6_method_1_code, 1, (Option.none : Option Jvm.ClassFile.FieldType), .return_)
theorem cw_G_init : cw_ok m_G_init 0 := ⟨by decide +kernel, by decide +kernel, by decide +kernel, by decide +kernel⟩
theorem im_G_init : Cond.instanceMethod m_G_init.1 ∈ lw_w := by decide +kernel
theorem d_G_init_0 : decode prog_6_method_1_code 0 = .ok (.aload_n 0, 1) := by decide +kernel
theorem d_G_init_1 : decode prog_6_method_1_code 1 = .ok (.invokespecial 1, 3) := by decide +kernel
theorem d_G_init_4 : decode prog_6_method_1_code 4 = .ok (.aload_n 0, 1) := by decide +kernel
theorem d_G_init_5 : decode prog_6_method_1_code 5 = .ok (.aconst_null, 1) := by decide +kernel
theorem d_G_init_6 : decode prog_6_method_1_code 6 = .ok (.putfield 7, 3) := by decide +kernel
theorem d_G_init_9 : decode prog_6_method_1_code 9 = .ok (.aload_n 0, 1) := by decide +kernel
theorem d_G_init_10 : decode prog_6_method_1_code 10 = .ok (.iconst 0, 1) := by decide +kernel
theorem d_G_init_11 : decode prog_6_method_1_code 11 = .ok (.putfield 13, 3) := by decide +kernel
theorem d_G_init_14 : decode prog_6_method_1_code 14 = .ok (.aload_n 0, 1) := by decide +kernel
theorem d_G_init_15 : decode prog_6_method_1_code 15 = .ok (.iconst 0, 1) := by decide +kernel
theorem d_G_init_16 : decode prog_6_method_1_code 16 = .ok (.putfield 17, 3) := by decide +kernel
theorem d_G_init_19 : decode prog_6_method_1_code 19 = .ok (.return_, 1) := by decide +kernel
def W_G_init : Wl := ([(3, 0), (3, 1), (3, 2), (4, 0), (4, 1), (4, 2), (6, 0), (6, 1), (6, 2)], [])
def f_G_init (a0 : Nat) (h : Hp) : Option Hp :=
  gd (isPg h a0) (nm (wR h a0 0 none) fun h2 => nm (wI h2 a0 1 (0 : Int32)) fun h5 => nm (wI h5 a0 2 (0 : Int32)) fun h8 => some h8)
set_option maxRecDepth 100000 in
set_option maxHeartbeats 4000000 in
theorem zf_G_init {l : Launch} {C : Ct} {mi : Nat} {a0 : Nat} {h h' : Hp} (hf : f_G_init a0 h = some h') : Z l C mi m_G_init 1 0 [(0, vr (some a0))] [] h none h' := by
  unfold f_G_init at hf
  refine z_aload_n 0 d_G_init_0 rfl rfl ?_
  refine z_oinit d_G_init_1 (by decide +kernel) rfl (by decide) (Nat.le_of_ble_eq_true rfl) ?_
  refine z_aload_n 0 d_G_init_4 rfl rfl ?_
  refine z_aconst_null d_G_init_5 ?_
  obtain ⟨g1, hf⟩ := gd_some hf
  obtain ⟨h2, eh3, hf⟩ := nm_some hf
  refine z_putR d_G_init_6 (fl_P g1 fl_G_7_3 fl_G_7_4 fl_G_7_6) (pu_P g1 (fun q hq => by cases (Option.some.inj hq); exact Or.inl rfl) (fun q hq => by cases (Option.some.inj hq); exact Or.inl rfl) (fun q hq => by cases (Option.some.inj hq); exact Or.inl rfl)) (fi_P g1 rfl rfl rfl) rfl ?_
  refine z_hp eh3 ?_
  refine z_aload_n 0 d_G_init_9 rfl rfl ?_
  refine z_iconst (v := (0 : Int32)) d_G_init_10 rfl ?_
  obtain ⟨h5, eh6, hf⟩ := nm_some hf
  refine z_putI d_G_init_11 (fl_P (isPg_wR eh3 g1) fl_G_13_3 fl_G_13_4 fl_G_13_6) (pu_P (isPg_wR eh3 g1) (fun q hq => by cases (Option.some.inj hq); exact Or.inl rfl) (fun q hq => by cases (Option.some.inj hq); exact Or.inl rfl) (fun q hq => by cases (Option.some.inj hq); exact Or.inl rfl)) (fi_P (isPg_wR eh3 g1) rfl rfl rfl) rfl ?_
  refine z_hp eh6 ?_
  refine z_aload_n 0 d_G_init_14 rfl rfl ?_
  refine z_iconst (v := (0 : Int32)) d_G_init_15 rfl ?_
  obtain ⟨h8, eh9, hf⟩ := nm_some hf
  refine z_putI d_G_init_16 (fl_P (isPg_wI eh6 (isPg_wR eh3 g1)) fl_G_17_3 fl_G_17_4 fl_G_17_6) (pu_P (isPg_wI eh6 (isPg_wR eh3 g1)) (fun q hq => by cases (Option.some.inj hq); exact Or.inl rfl) (fun q hq => by cases (Option.some.inj hq); exact Or.inl rfl) (fun q hq => by cases (Option.some.inj hq); exact Or.inl rfl)) (fi_P (isPg_wI eh6 (isPg_wR eh3 g1)) rfl rfl rfl) rfl ?_
  refine z_hp eh9 ?_
  cases (Option.some.inj hf)
  exact z_ret d_G_init_19 rfl
set_option maxRecDepth 100000 in
set_option maxHeartbeats 4000000 in
theorem fr_G_init {C : Ct} {mi : Nat} {a0 : Nat} {h h' : Hp} (hf : f_G_init a0 h = some h') : Keep W_G_init h h' := by
  unfold f_G_init at hf
  obtain ⟨g1, hf⟩ := gd_some hf
  obtain ⟨h2, eh3, hf⟩ := nm_some hf
  have K4 := (Keep.refl W_G_init _).trans (kw_RP eh3 g1 (Or.inl (by decide)) (Or.inl (by decide)) (Or.inl (by decide)))
  obtain ⟨h5, eh6, hf⟩ := nm_some hf
  have K7 := K4.trans (kw_IP eh6 (isPg_wR eh3 g1) (Or.inl (by decide)) (Or.inl (by decide)) (Or.inl (by decide)))
  obtain ⟨h8, eh9, hf⟩ := nm_some hf
  have K10 := K7.trans (kw_IP eh9 (isPg_wI eh6 (isPg_wR eh3 g1)) (Or.inl (by decide)) (Or.inl (by decide)) (Or.inl (by decide)))
  cases (Option.some.inj hf)
  exact K10
theorem c_G_init {l : Launch} {C : Ct} {mi : Nat} {a0 : Nat} {h h' : Hp} (hf : f_G_init a0 h = some h') : Mt l C mi m_G_init 1 [vr (some a0)] h none h' := mt_V rfl rfl (by decide) (Nat.le_of_ble_eq_true rfl) (zf_G_init hf)
-- VersionMaps$Meta.<init>(I)V
def m_E_init : Mi := (⟨"VersionMaps$Meta", "<init>", "(I)V"⟩, prog_5_method_1_code, 2, (Option.none : Option Jvm.ClassFile.FieldType), .return_)
theorem cw_E_init : cw_ok m_E_init 1 := ⟨by decide +kernel, by decide +kernel, by decide +kernel, by decide +kernel⟩
theorem im_E_init : Cond.instanceMethod m_E_init.1 ∈ lw_w := by decide +kernel
theorem d_E_init_0 : decode prog_5_method_1_code 0 = .ok (.aload_n 0, 1) := by decide +kernel
theorem d_E_init_1 : decode prog_5_method_1_code 1 = .ok (.invokespecial 3, 3) := by decide +kernel
theorem d_E_init_4 : decode prog_5_method_1_code 4 = .ok (.aload_n 0, 1) := by decide +kernel
theorem d_E_init_5 : decode prog_5_method_1_code 5 = .ok (.iconst 4, 1) := by decide +kernel
theorem d_E_init_6 : decode prog_5_method_1_code 6 = .ok (.anewarray 9, 3) := by decide +kernel
theorem d_E_init_9 : decode prog_5_method_1_code 9 = .ok (.putfield 11, 3) := by decide +kernel
theorem d_E_init_12 : decode prog_5_method_1_code 12 = .ok (.aload_n 0, 1) := by decide +kernel
theorem d_E_init_13 : decode prog_5_method_1_code 13 = .ok (.iload_n 1, 1) := by decide +kernel
theorem d_E_init_14 : decode prog_5_method_1_code 14 = .ok (.putfield 17, 3) := by decide +kernel
theorem d_E_init_17 : decode prog_5_method_1_code 17 = .ok (.return_, 1) := by decide +kernel
def W_E_init : Wl := ([(3, 0), (3, 1), (3, 2), (4, 0), (4, 1), (4, 2), (4, 3), (4, 4), (6, 0), (6, 1), (6, 2)], [])
def f_E_init (a0 : Nat) (p1 : Int32) (h : Hp) : Option Hp :=
  cv (f_G_init a0 h) fun h1 => nm (nw h1 104 4 4) fun h4 => gd (isK h4 a0 4) (nm (wR h4 a0 4 (some (hpN h1))) fun h8 => nm (wI h8 a0 3 p1) fun h11 => some h11)
set_option maxRecDepth 100000 in
set_option maxHeartbeats 4000000 in
theorem zf_E_init {l : Launch} {C : Ct} {mi : Nat} {a0 : Nat} {p1 : Int32} {h h' : Hp} (hf : f_E_init a0 p1 h = some h') : Z l C mi m_E_init 2 0 [(0, vr (some a0)), (1, vi p1)] [] h none h' := by
  unfold f_E_init at hf
  refine z_aload_n 0 d_E_init_0 rfl rfl ?_
  obtain ⟨h1, ec2, hf⟩ := cv_some hf
  refine z_callIN (host := "VersionMaps") (c_G_init ec2) d_E_init_1 rfl cw_G_init lk_E_3 im_G_init rfl ⟨by decide, by decide⟩ (Nat.le_of_ble_eq_true rfl) rfl ?_
  refine z_aload_n 0 d_E_init_4 rfl rfl ?_
  refine z_iconst (v := (4 : Int32)) d_E_init_5 rfl ?_
  obtain ⟨h4, eh5, hf⟩ := nm_some hf
  refine z_newR (N := 4) (κ := 104) (t := 4) d_E_init_6 (by decide +kernel) (by decide +kernel) (by decide) (by decide) rfl (by decide) (by decide) (by decide) ?_
  refine z_hp eh5 ?_
  obtain ⟨g7, hf⟩ := gd_some hf
  obtain ⟨h8, eh9, hf⟩ := nm_some hf
  refine z_putR d_E_init_9 (fl_K (isK_eq g7) fl_E_11_4) (pu_K (isK_eq g7) (fun q hq => by cases (Option.some.inj hq); exact Or.inr ⟨rfl, rfl⟩)) (fi_K (isK_eq g7) rfl) rfl ?_
  refine z_hp eh9 ?_
  refine z_aload_n 0 d_E_init_12 rfl rfl ?_
  refine z_iload_n 1 d_E_init_13 rfl rfl ?_
  obtain ⟨h11, eh12, hf⟩ := nm_some hf
  refine z_putI d_E_init_14 (fl_K (isK_eq (isK_wR eh9 g7)) fl_E_17_4) (pu_K (isK_eq (isK_wR eh9 g7)) (fun q hq => by cases (Option.some.inj hq); exact Or.inr ⟨rfl, rfl⟩)) (fi_K (isK_eq (isK_wR eh9 g7)) rfl) rfl ?_
  refine z_hp eh12 ?_
  cases (Option.some.inj hf)
  exact z_ret d_E_init_17 rfl
set_option maxRecDepth 100000 in
set_option maxHeartbeats 4000000 in
theorem fr_E_init {C : Ct} {mi : Nat} {a0 : Nat} {p1 : Int32} {h h' : Hp} (hf : f_E_init a0 p1 h = some h') : Keep W_E_init h h' := by
  unfold f_E_init at hf
  obtain ⟨h1, ec2, hf⟩ := cv_some hf
  have K3 := (Keep.refl W_E_init _).trans ((fr_G_init (C := C) (mi := mi) ec2).mono (by decide) (by decide))
  obtain ⟨h4, eh5, hf⟩ := nm_some hf
  have K6 := K3.trans (kw_N eh5)
  obtain ⟨g7, hf⟩ := gd_some hf
  obtain ⟨h8, eh9, hf⟩ := nm_some hf
  have K10 := K6.trans (kw_R eh9 (isK_eq g7) (Or.inl (by decide)))
  obtain ⟨h11, eh12, hf⟩ := nm_some hf
  have K13 := K10.trans (kw_I eh12 (isK_eq (isK_wR eh9 g7)) (Or.inl (by decide)))
  cases (Option.some.inj hf)
  exact K13
theorem c_E_init {l : Launch} {C : Ct} {mi : Nat} {a0 : Nat} {p1 : Int32} {h h' : Hp} (hf : f_E_init a0 p1 h = some h') : Mt l C mi m_E_init 2 [vr (some a0), vi p1] h none h' := mt_V rfl rfl (by decide) (Nat.le_of_ble_eq_true rfl) (zf_E_init hf)
-- VersionMaps$Root.<init>()V
def m_O_init : Mi := (⟨"VersionMaps$Root", "<init>", "()V"⟩, prog_8_method_1_code, 1, (Option.none : Option Jvm.ClassFile.FieldType), .return_)
theorem cw_O_init : cw_ok m_O_init 0 := ⟨by decide +kernel, by decide +kernel, by decide +kernel, by decide +kernel⟩
theorem im_O_init : Cond.instanceMethod m_O_init.1 ∈ lw_w := by decide +kernel
theorem d_O_init_0 : decode prog_8_method_1_code 0 = .ok (.aload_n 0, 1) := by decide +kernel
theorem d_O_init_1 : decode prog_8_method_1_code 1 = .ok (.invokespecial 3, 3) := by decide +kernel
theorem d_O_init_4 : decode prog_8_method_1_code 4 = .ok (.aload_n 0, 1) := by decide +kernel
theorem d_O_init_5 : decode prog_8_method_1_code 5 = .ok (.iconst 4, 1) := by decide +kernel
theorem d_O_init_6 : decode prog_8_method_1_code 6 = .ok (.anewarray 9, 3) := by decide +kernel
theorem d_O_init_9 : decode prog_8_method_1_code 9 = .ok (.putfield 11, 3) := by decide +kernel
theorem d_O_init_12 : decode prog_8_method_1_code 12 = .ok (.return_, 1) := by decide +kernel
def W_O_init : Wl := ([(3, 0), (3, 1), (3, 2), (4, 0), (4, 1), (4, 2), (6, 0), (6, 1), (6, 2), (6, 3)], [])
def f_O_init (a0 : Nat) (h : Hp) : Option Hp :=
  cv (f_G_init a0 h) fun h1 => nm (nw h1 105 4 4) fun h4 => gd (isK h4 a0 6) (nm (wR h4 a0 3 (some (hpN h1))) fun h8 => some h8)
set_option maxRecDepth 100000 in
set_option maxHeartbeats 4000000 in
theorem zf_O_init {l : Launch} {C : Ct} {mi : Nat} {a0 : Nat} {h h' : Hp} (hf : f_O_init a0 h = some h') : Z l C mi m_O_init 2 0 [(0, vr (some a0))] [] h none h' := by
  unfold f_O_init at hf
  refine z_aload_n 0 d_O_init_0 rfl rfl ?_
  obtain ⟨h1, ec2, hf⟩ := cv_some hf
  refine z_callIN (host := "VersionMaps") (c_G_init ec2) d_O_init_1 rfl cw_G_init lk_O_3 im_G_init rfl ⟨by decide, by decide⟩ (Nat.le_of_ble_eq_true rfl) rfl ?_
  refine z_aload_n 0 d_O_init_4 rfl rfl ?_
  refine z_iconst (v := (4 : Int32)) d_O_init_5 rfl ?_
  obtain ⟨h4, eh5, hf⟩ := nm_some hf
  refine z_newR (N := 4) (κ := 105) (t := 5) d_O_init_6 (by decide +kernel) (by decide +kernel) (by decide) (by decide) rfl (by decide) (by decide) (by decide) ?_
  refine z_hp eh5 ?_
  obtain ⟨g7, hf⟩ := gd_some hf
  obtain ⟨h8, eh9, hf⟩ := nm_some hf
  refine z_putR d_O_init_9 (fl_K (isK_eq g7) fl_O_11_6) (pu_K (isK_eq g7) (fun q hq => by cases (Option.some.inj hq); exact Or.inr ⟨rfl, rfl⟩)) (fi_K (isK_eq g7) rfl) rfl ?_
  refine z_hp eh9 ?_
  cases (Option.some.inj hf)
  exact z_ret d_O_init_12 rfl
set_option maxRecDepth 100000 in
set_option maxHeartbeats 4000000 in
theorem fr_O_init {C : Ct} {mi : Nat} {a0 : Nat} {h h' : Hp} (hf : f_O_init a0 h = some h') : Keep W_O_init h h' := by
  unfold f_O_init at hf
  obtain ⟨h1, ec2, hf⟩ := cv_some hf
  have K3 := (Keep.refl W_O_init _).trans ((fr_G_init (C := C) (mi := mi) ec2).mono (by decide) (by decide))
  obtain ⟨h4, eh5, hf⟩ := nm_some hf
  have K6 := K3.trans (kw_N eh5)
  obtain ⟨g7, hf⟩ := gd_some hf
  obtain ⟨h8, eh9, hf⟩ := nm_some hf
  have K10 := K6.trans (kw_R eh9 (isK_eq g7) (Or.inl (by decide)))
  cases (Option.some.inj hf)
  exact K10
theorem c_O_init {l : Launch} {C : Ct} {mi : Nat} {a0 : Nat} {h h' : Hp} (hf : f_O_init a0 h = some h') : Mt l C mi m_O_init 2 [vr (some a0)] h none h' := mt_V rfl rfl (by decide) (Nat.le_of_ble_eq_true rfl) (zf_O_init hf)
-- VersionMaps$Leaf.<init>()V
def m_L_init : Mi := (⟨"VersionMaps$Leaf", "<init>", "()V"⟩, prog_4_method_1_code, 1, (Option.none : Option Jvm.ClassFile.FieldType), .return_)
theorem cw_L_init : cw_ok m_L_init 0 := ⟨by decide +kernel, by decide +kernel, by decide +kernel, by decide +kernel⟩
theorem im_L_init : Cond.instanceMethod m_L_init.1 ∈ lw_w := by decide +kernel
theorem d_L_init_0 : decode prog_4_method_1_code 0 = .ok (.aload_n 0, 1) := by decide +kernel
theorem d_L_init_1 : decode prog_4_method_1_code 1 = .ok (.invokespecial 3, 3) := by decide +kernel
theorem d_L_init_4 : decode prog_4_method_1_code 4 = .ok (.aload_n 0, 1) := by decide +kernel
theorem d_L_init_5 : decode prog_4_method_1_code 5 = .ok (.bipush 8, 2) := by decide +kernel
theorem d_L_init_7 : decode prog_4_method_1_code 7 = .ok (.newarray .int, 2) := by decide +kernel
theorem d_L_init_9 : decode prog_4_method_1_code 9 = .ok (.putfield 9, 3) := by decide +kernel
theorem d_L_init_12 : decode prog_4_method_1_code 12 = .ok (.aload_n 0, 1) := by decide +kernel
theorem d_L_init_13 : decode prog_4_method_1_code 13 = .ok (.iconst 0, 1) := by decide +kernel
theorem d_L_init_14 : decode prog_4_method_1_code 14 = .ok (.putfield 15, 3) := by decide +kernel
theorem d_L_init_17 : decode prog_4_method_1_code 17 = .ok (.return_, 1) := by decide +kernel
def W_L_init : Wl := ([(3, 0), (3, 1), (3, 2), (3, 3), (3, 4), (4, 0), (4, 1), (4, 2), (6, 0), (6, 1), (6, 2)], [])
def f_L_init (a0 : Nat) (h : Hp) : Option Hp :=
  cv (f_G_init a0 h) fun h1 => nm (nw h1 106 8 8) fun h4 => gd (isK h4 a0 3) (nm (wR h4 a0 3 (some (hpN h1))) fun h8 => nm (wI h8 a0 4 (0 : Int32)) fun h11 => some h11)
set_option maxRecDepth 100000 in
set_option maxHeartbeats 4000000 in
theorem zf_L_init {l : Launch} {C : Ct} {mi : Nat} {a0 : Nat} {h h' : Hp} (hf : f_L_init a0 h = some h') : Z l C mi m_L_init 2 0 [(0, vr (some a0))] [] h none h' := by
  unfold f_L_init at hf
  refine z_aload_n 0 d_L_init_0 rfl rfl ?_
  obtain ⟨h1, ec2, hf⟩ := cv_some hf
  refine z_callIN (host := "VersionMaps") (c_G_init ec2) d_L_init_1 rfl cw_G_init lk_L_3 im_G_init rfl ⟨by decide, by decide⟩ (Nat.le_of_ble_eq_true rfl) rfl ?_
  refine z_aload_n 0 d_L_init_4 rfl rfl ?_
  refine z_bipush (v := (8 : Int32)) d_L_init_5 (by decide) ?_
  obtain ⟨h4, eh5, hf⟩ := nm_some hf
  refine z_newI (N := 8) (κ := 106) d_L_init_7 (by decide) rfl (by decide) (by decide) (by decide) ?_
  refine z_hp eh5 ?_
  obtain ⟨g7, hf⟩ := gd_some hf
  obtain ⟨h8, eh9, hf⟩ := nm_some hf
  refine z_putR d_L_init_9 (fl_K (isK_eq g7) fl_L_9_3) (pu_K (isK_eq g7) (fun q hq => by cases (Option.some.inj hq); exact Or.inr ⟨rfl, rfl⟩)) (fi_K (isK_eq g7) rfl) rfl ?_
  refine z_hp eh9 ?_
  refine z_aload_n 0 d_L_init_12 rfl rfl ?_
  refine z_iconst (v := (0 : Int32)) d_L_init_13 rfl ?_
  obtain ⟨h11, eh12, hf⟩ := nm_some hf
  refine z_putI d_L_init_14 (fl_K (isK_eq (isK_wR eh9 g7)) fl_L_15_3) (pu_K (isK_eq (isK_wR eh9 g7)) (fun q hq => by cases (Option.some.inj hq); exact Or.inl rfl)) (fi_K (isK_eq (isK_wR eh9 g7)) rfl) rfl ?_
  refine z_hp eh12 ?_
  cases (Option.some.inj hf)
  exact z_ret d_L_init_17 rfl
set_option maxRecDepth 100000 in
set_option maxHeartbeats 4000000 in
theorem fr_L_init {C : Ct} {mi : Nat} {a0 : Nat} {h h' : Hp} (hf : f_L_init a0 h = some h') : Keep W_L_init h h' := by
  unfold f_L_init at hf
  obtain ⟨h1, ec2, hf⟩ := cv_some hf
  have K3 := (Keep.refl W_L_init _).trans ((fr_G_init (C := C) (mi := mi) ec2).mono (by decide) (by decide))
  obtain ⟨h4, eh5, hf⟩ := nm_some hf
  have K6 := K3.trans (kw_N eh5)
  obtain ⟨g7, hf⟩ := gd_some hf
  obtain ⟨h8, eh9, hf⟩ := nm_some hf
  have K10 := K6.trans (kw_R eh9 (isK_eq g7) (Or.inl (by decide)))
  obtain ⟨h11, eh12, hf⟩ := nm_some hf
  have K13 := K10.trans (kw_I eh12 (isK_eq (isK_wR eh9 g7)) (Or.inl (by decide)))
  cases (Option.some.inj hf)
  exact K13
theorem c_L_init {l : Launch} {C : Ct} {mi : Nat} {a0 : Nat} {h h' : Hp} (hf : f_L_init a0 h = some h') : Mt l C mi m_L_init 2 [vr (some a0)] h none h' := mt_V rfl rfl (by decide) (Nat.le_of_ble_eq_true rfl) (zf_L_init hf)
-- VersionMaps$Chunk.append(LVersionMaps$Page;)V
def m_K_append : Mi := (⟨"VersionMaps$Chunk", "append", "(LVersionMaps$Page;)V"⟩, prog_3_method_2_code, 2, (Option.none : Option Jvm.ClassFile.FieldType), .return_)
theorem cw_K_append : cw_ok m_K_append 1 := ⟨by decide +kernel, by decide +kernel, by decide +kernel, by decide +kernel⟩
theorem im_K_append : Cond.instanceMethod m_K_append.1 ∈ lw_w := by decide +kernel
theorem se_K_append : Cond.selects "VersionMaps$Chunk" m_K_append.1 m_K_append.1 ∈ lw_w := by decide +kernel
theorem d_K_append_0 : decode prog_3_method_2_code 0 = .ok (.aload_n 1, 1) := by decide +kernel
theorem d_K_append_1 : decode prog_3_method_2_code 1 = .ok (.aload_n 0, 1) := by decide +kernel
theorem d_K_append_2 : decode prog_3_method_2_code 2 = .ok (.putfield 29, 3) := by decide +kernel
theorem d_K_append_5 : decode prog_3_method_2_code 5 = .ok (.aload_n 1, 1) := by decide +kernel
theorem d_K_append_6 : decode prog_3_method_2_code 6 = .ok (.aload_n 0, 1) := by decide +kernel
theorem d_K_append_7 : decode prog_3_method_2_code 7 = .ok (.getfield 7, 3) := by decide +kernel
theorem d_K_append_10 : decode prog_3_method_2_code 10 = .ok (.putfield 33, 3) := by decide +kernel
theorem d_K_append_13 : decode prog_3_method_2_code 13 = .ok (.aload_n 0, 1) := by decide +kernel
theorem d_K_append_14 : decode prog_3_method_2_code 14 = .ok (.getfield 25, 3) := by decide +kernel
theorem d_K_append_17 : decode prog_3_method_2_code 17 = .ok (.aload_n 0, 1) := by decide +kernel
theorem d_K_append_18 : decode prog_3_method_2_code 18 = .ok (.getfield 7, 3) := by decide +kernel
theorem d_K_append_21 : decode prog_3_method_2_code 21 = .ok (.aload_n 1, 1) := by decide +kernel
theorem d_K_append_22 : decode prog_3_method_2_code 22 = .ok (.aastore, 1) := by decide +kernel
theorem d_K_append_23 : decode prog_3_method_2_code 23 = .ok (.aload_n 0, 1) := by decide +kernel
theorem d_K_append_24 : decode prog_3_method_2_code 24 = .ok (.dup, 1) := by decide +kernel
theorem d_K_append_25 : decode prog_3_method_2_code 25 = .ok (.getfield 7, 3) := by decide +kernel
theorem d_K_append_28 : decode prog_3_method_2_code 28 = .ok (.iconst 1, 1) := by decide +kernel
theorem d_K_append_29 : decode prog_3_method_2_code 29 = .ok (.iadd, 1) := by decide +kernel
theorem d_K_append_30 : decode prog_3_method_2_code 30 = .ok (.putfield 7, 3) := by decide +kernel
theorem d_K_append_33 : decode prog_3_method_2_code 33 = .ok (.return_, 1) := by decide +kernel
def W_K_append : Wl := ([(2, 3), (3, 0), (3, 1), (4, 0), (4, 1), (6, 0), (6, 1)], [103])
def f_K_append (a0 : Nat) (p1 : Option Nat) (h : Hp) : Option Hp :=
  dr p1 fun a1 => gd (isPg h a1) (nm (wR h a1 0 (some a0)) fun h4 => gd (isK h4 a0 2) (nm (wI h4 a1 1 (hpI h4 a0 3)) fun h8 => dr (hpR h8 a0 2) fun a11 => gd (isK h8 a11 103) (gd (inb (hpI h8 a0 3) (hpL h8 a11)) (gd (asV h8 p1 a11) (nm (wR h8 a11 (hpI h8 a0 3).toNatClampNeg p1) fun h16 => nm (wI h16 a0 3 ((hpI h16 a0 3) + (1 : Int32))) fun h19 => some h19)))))
set_option maxRecDepth 100000 in
set_option maxHeartbeats 4000000 in
theorem zf_K_append {l : Launch} {C : Ct} {mi : Nat} {a0 : Nat} {p1 : Option Nat} {h h' : Hp} (hf : f_K_append a0 p1 h = some h') : Z l C mi m_K_append 0 0 [(0, vr (some a0)), (1, vr p1)] [] h none h' := by
  unfold f_K_append at hf
  refine z_aload_n 1 d_K_append_0 rfl rfl ?_
  refine z_aload_n 0 d_K_append_1 rfl rfl ?_
  obtain ⟨a1, e2, hf⟩ := dr_some hf
  obtain ⟨g3, hf⟩ := gd_some hf
  obtain ⟨h4, eh5, hf⟩ := nm_some hf
  refine z_putR d_K_append_2 (fl_P g3 fl_K_29_3 fl_K_29_4 fl_K_29_6) (pu_P g3 (fun q hq => by cases (Option.some.inj hq); exact Or.inl rfl) (fun q hq => by cases (Option.some.inj hq); exact Or.inl rfl) (fun q hq => by cases (Option.some.inj hq); exact Or.inl rfl)) (fi_P g3 rfl rfl rfl) e2 ?_
  refine z_hp eh5 ?_
  refine z_aload_n 1 d_K_append_5 rfl rfl ?_
  refine z_aload_n 0 d_K_append_6 rfl rfl ?_
  obtain ⟨g7, hf⟩ := gd_some hf
  refine z_getI d_K_append_7 (fl_K (isK_eq g7) fl_K_7_2) (fi_K (isK_eq g7) rfl) rfl ?_
  obtain ⟨h8, eh9, hf⟩ := nm_some hf
  refine z_putI d_K_append_10 (fl_P (isPg_wR eh5 g3) fl_K_33_3 fl_K_33_4 fl_K_33_6) (pu_P (isPg_wR eh5 g3) (fun q hq => by cases (Option.some.inj hq); exact Or.inl rfl) (fun q hq => by cases (Option.some.inj hq); exact Or.inl rfl) (fun q hq => by cases (Option.some.inj hq); exact Or.inl rfl)) (fi_P (isPg_wR eh5 g3) rfl rfl rfl) e2 ?_
  refine z_hp eh9 ?_
  refine z_aload_n 0 d_K_append_13 rfl rfl ?_
  refine z_getR d_K_append_14 (fl_K (isK_eq (isK_wI eh9 g7)) fl_K_25_2) (fi_K (isK_eq (isK_wI eh9 g7)) rfl) rfl ?_
  refine z_aload_n 0 d_K_append_17 rfl rfl ?_
  refine z_getI d_K_append_18 (fl_K (isK_eq (isK_wI eh9 g7)) fl_K_7_2) (fi_K (isK_eq (isK_wI eh9 g7)) rfl) rfl ?_
  refine z_aload_n 1 d_K_append_21 rfl rfl ?_
  obtain ⟨a11, e12, hf⟩ := dr_some hf
  obtain ⟨g13, hf⟩ := gd_some hf
  obtain ⟨g14, hf⟩ := gd_some hf
  obtain ⟨g15, hf⟩ := gd_some hf
  obtain ⟨h16, eh17, hf⟩ := nm_some hf
  refine z_aast d_K_append_22 e12 (by rw [isK_eq g13]; decide) (by rw [isK_eq g13]; decide) (asV_ok g15) (inb_vp g14) ?_
  refine z_hp eh17 ?_
  refine z_aload_n 0 d_K_append_23 rfl rfl ?_
  refine z_dup d_K_append_24 rfl ?_
  refine z_getI d_K_append_25 (fl_K (isK_eq (isK_wR eh17 (isK_wI eh9 g7))) fl_K_7_2) (fi_K (isK_eq (isK_wR eh17 (isK_wI eh9 g7))) rfl) rfl ?_
  refine z_iconst (v := (1 : Int32)) d_K_append_28 rfl ?_
  refine z_iadd d_K_append_29 ?_
  obtain ⟨h19, eh20, hf⟩ := nm_some hf
  refine z_putI d_K_append_30 (fl_K (isK_eq (isK_wR eh17 (isK_wI eh9 g7))) fl_K_7_2) (pu_K (isK_eq (isK_wR eh17 (isK_wI eh9 g7))) (fun q hq => by cases (Option.some.inj hq); exact Or.inl rfl)) (fi_K (isK_eq (isK_wR eh17 (isK_wI eh9 g7))) rfl) rfl ?_
  refine z_hp eh20 ?_
  cases (Option.some.inj hf)
  exact z_ret d_K_append_33 rfl
set_option maxRecDepth 100000 in
set_option maxHeartbeats 4000000 in
theorem fr_K_append {C : Ct} {mi : Nat} {a0 : Nat} {p1 : Option Nat} {h h' : Hp} (hf : f_K_append a0 p1 h = some h') : Keep W_K_append h h' := by
  unfold f_K_append at hf
  obtain ⟨a1, e2, hf⟩ := dr_some hf
  obtain ⟨g3, hf⟩ := gd_some hf
  obtain ⟨h4, eh5, hf⟩ := nm_some hf
  have K6 := (Keep.refl W_K_append _).trans (kw_RP eh5 g3 (Or.inl (by decide)) (Or.inl (by decide)) (Or.inl (by decide)))
  obtain ⟨g7, hf⟩ := gd_some hf
  obtain ⟨h8, eh9, hf⟩ := nm_some hf
  have K10 := K6.trans (kw_IP eh9 (isPg_wR eh5 g3) (Or.inl (by decide)) (Or.inl (by decide)) (Or.inl (by decide)))
  obtain ⟨a11, e12, hf⟩ := dr_some hf
  obtain ⟨g13, hf⟩ := gd_some hf
  obtain ⟨g14, hf⟩ := gd_some hf
  obtain ⟨g15, hf⟩ := gd_some hf
  obtain ⟨h16, eh17, hf⟩ := nm_some hf
  have K18 := K10.trans (kw_R eh17 (isK_eq g13) (Or.inr (by decide)))
  obtain ⟨h19, eh20, hf⟩ := nm_some hf
  have K21 := K18.trans (kw_I eh20 (isK_eq (isK_wR eh17 (isK_wI eh9 g7))) (Or.inl (by decide)))
  cases (Option.some.inj hf)
  exact K21
theorem c_K_append {l : Launch} {C : Ct} {mi : Nat} {a0 : Nat} {p1 : Option Nat} {h h' : Hp} (hf : f_K_append a0 p1 h = some h') : Mt l C mi m_K_append 0 [vr (some a0), vr p1] h none h' := mt_V rfl rfl (by decide) (Nat.le_of_ble_eq_true rfl) (zf_K_append hf)
-- VersionMaps$Present.writeLeaf(LVersionMaps$Chunk;II)LVersionMaps$Leaf;
def m_P_writeLeaf : Mi := (⟨"VersionMaps$Present", "writeLeaf", "(LVersionMaps$Chunk;II)LVersionMaps$Leaf;"⟩, prog_7_method_14_code, 5, (Option.some (Jvm.ClassFile.FieldType.object "VersionMaps$Leaf")), .areturn)
theorem cw_P_writeLeaf : cw_ok m_P_writeLeaf 3 := ⟨by decide +kernel, by decide +kernel, by decide +kernel, by decide +kernel⟩
theorem im_P_writeLeaf : Cond.instanceMethod m_P_writeLeaf.1 ∈ lw_w := by decide +kernel
theorem se_P_writeLeaf : Cond.selects "VersionMaps$Present" m_P_writeLeaf.1 m_P_writeLeaf.1 ∈ lw_w := by decide +kernel
theorem d_P_writeLeaf_0 : decode prog_7_method_14_code 0 = .ok (.new 52, 3) := by decide +kernel
theorem d_P_writeLeaf_3 : decode prog_7_method_14_code 3 = .ok (.dup, 1) := by decide +kernel
theorem d_P_writeLeaf_4 : decode prog_7_method_14_code 4 = .ok (.invokespecial 106, 3) := by decide +kernel
theorem d_P_writeLeaf_7 : decode prog_7_method_14_code 7 = .ok (.astore 4, 2) := by decide +kernel
theorem d_P_writeLeaf_9 : decode prog_7_method_14_code 9 = .ok (.aload 4, 2) := by decide +kernel
theorem d_P_writeLeaf_11 : decode prog_7_method_14_code 11 = .ok (.aload_n 0, 1) := by decide +kernel
theorem d_P_writeLeaf_12 : decode prog_7_method_14_code 12 = .ok (.iload_n 2, 1) := by decide +kernel
theorem d_P_writeLeaf_13 : decode prog_7_method_14_code 13 = .ok (.iload_n 3, 1) := by decide +kernel
theorem d_P_writeLeaf_14 : decode prog_7_method_14_code 14 = .ok (.invokevirtual 107, 3) := by decide +kernel
theorem d_P_writeLeaf_17 : decode prog_7_method_14_code 17 = .ok (.putfield 57, 3) := by decide +kernel
theorem d_P_writeLeaf_20 : decode prog_7_method_14_code 20 = .ok (.aload_n 0, 1) := by decide +kernel
theorem d_P_writeLeaf_21 : decode prog_7_method_14_code 21 = .ok (.getfield 9, 3) := by decide +kernel
theorem d_P_writeLeaf_24 : decode prog_7_method_14_code 24 = .ok (.bipush 32, 2) := by decide +kernel
theorem d_P_writeLeaf_26 : decode prog_7_method_14_code 26 = .ok (.iload_n 2, 1) := by decide +kernel
theorem d_P_writeLeaf_27 : decode prog_7_method_14_code 27 = .ok (.imul, 1) := by decide +kernel
theorem d_P_writeLeaf_28 : decode prog_7_method_14_code 28 = .ok (.bipush 8, 2) := by decide +kernel
theorem d_P_writeLeaf_30 : decode prog_7_method_14_code 30 = .ok (.iload_n 3, 1) := by decide +kernel
theorem d_P_writeLeaf_31 : decode prog_7_method_14_code 31 = .ok (.imul, 1) := by decide +kernel
theorem d_P_writeLeaf_32 : decode prog_7_method_14_code 32 = .ok (.iadd, 1) := by decide +kernel
theorem d_P_writeLeaf_33 : decode prog_7_method_14_code 33 = .ok (.aload 4, 2) := by decide +kernel
theorem d_P_writeLeaf_35 : decode prog_7_method_14_code 35 = .ok (.getfield 59, 3) := by decide +kernel
theorem d_P_writeLeaf_38 : decode prog_7_method_14_code 38 = .ok (.iconst 0, 1) := by decide +kernel
theorem d_P_writeLeaf_39 : decode prog_7_method_14_code 39 = .ok (.bipush 8, 2) := by decide +kernel
theorem d_P_writeLeaf_41 : decode prog_7_method_14_code 41 = .ok (.invokestatic 60, 3) := by decide +kernel
theorem d_P_writeLeaf_44 : decode prog_7_method_14_code 44 = .ok (.aload_n 1, 1) := by decide +kernel
theorem d_P_writeLeaf_45 : decode prog_7_method_14_code 45 = .ok (.aload 4, 2) := by decide +kernel
theorem d_P_writeLeaf_47 : decode prog_7_method_14_code 47 = .ok (.invokevirtual 102, 3) := by decide +kernel
theorem d_P_writeLeaf_50 : decode prog_7_method_14_code 50 = .ok (.aload 4, 2) := by decide +kernel
theorem d_P_writeLeaf_52 : decode prog_7_method_14_code 52 = .ok (.areturn, 1) := by decide +kernel
def W_P_writeLeaf : Wl := ([(2, 3), (3, 0), (3, 1), (3, 2), (3, 3), (3, 4), (4, 0), (4, 1), (4, 2), (6, 0), (6, 1), (6, 2)], [103, 106])
def f_P_writeLeaf (a0 : Nat) (p1 : Option Nat) (p2 : Int32) (p3 : Int32) (h : Hp) : Option (Option Nat × Hp) :=
  nm (nw h 3 0 5) fun h1 => cv (f_L_init (hpN h) h1) fun h4 => gd (isK h4 a0 5) (cl (f_P_leafKeys a0 p2 p3 h4) fun v10 h8 => gd (isK h8 (hpN h) 3) (nm (wI h8 (hpN h) 4 v10) fun h13 => gd (isK h13 a0 5) (dr (hpR h13 a0 0) fun a17 => dr (hpR h13 (hpN h) 3) fun a19 => gd (isK h13 a17 66) (gd (isK h13 a19 106) (gd (cpB h13 a17 a19 (((32 : Int32) * p2) + ((8 : Int32) * p3)) (0 : Int32) (8 : Int32)) (nm (cpI h13 a17 (((32 : Int32) * p2) + ((8 : Int32) * p3)).toNatClampNeg a19 (0 : Int32).toNatClampNeg (8 : Int32).toNatClampNeg) fun h24 => dr p1 fun a27 => gd (isK h24 a27 2) (cv (f_K_append a27 (some (hpN h)) h24) fun h30 => some ((some (hpN h)), h30))))))))
set_option maxRecDepth 100000 in
set_option maxHeartbeats 4000000 in
theorem zf_P_writeLeaf {l : Launch} {C : Ct} {mi : Nat} {a0 : Nat} {p1 : Option Nat} {p2 : Int32} {p3 : Int32} {h h' : Hp} {v : Option Nat} (hf : f_P_writeLeaf a0 p1 p2 p3 h = some (v, h')) : Z l C mi m_P_writeLeaf 3 0 [(0, vr (some a0)), (1, vr p1), (2, vi p2), (3, vi p3)] [] h (some (vr v)) h' := by
  unfold f_P_writeLeaf at hf
  obtain ⟨h1, eh2, hf⟩ := nm_some hf
  refine z_new (κ := 3) d_P_writeLeaf_0 rfl (by decide +kernel) ?_
  refine z_hp eh2 ?_
  refine z_dup d_P_writeLeaf_3 rfl ?_
  obtain ⟨h4, ec5, hf⟩ := cv_some hf
  refine z_callIN (host := "VersionMaps") (c_L_init ec5) d_P_writeLeaf_4 rfl cw_L_init lk_P_106 im_L_init rfl ⟨by decide, by decide⟩ (Nat.le_of_ble_eq_true rfl) rfl ?_
  refine z_astore (ls2 := [(4, vr (some (hpN h))), (0, vr (some a0)), (1, vr p1), (2, vi p2), (3, vi p3)]) d_P_writeLeaf_7 (by decide) rfl ?_
  refine z_aload 0 d_P_writeLeaf_9 rfl ?_
  refine z_aload_n 1 d_P_writeLeaf_11 rfl rfl ?_
  refine z_iload_n 3 d_P_writeLeaf_12 rfl rfl ?_
  refine z_iload_n 4 d_P_writeLeaf_13 rfl rfl ?_
  obtain ⟨g7, hf⟩ := gd_some hf
  obtain ⟨v10, h8, ec9, hf⟩ := cl_some hf
  refine z_callVx rfl (c_P_leafKeys ec9) d_P_writeLeaf_14 cw_P_leafKeys lk_P_107 im_P_leafKeys se_P_leafKeys (kc_K (isK_eq g7) kc_5) ⟨by decide, by decide⟩ (Nat.le_of_ble_eq_true rfl) rfl ?_
  obtain ⟨g12, hf⟩ := gd_some hf
  obtain ⟨h13, eh14, hf⟩ := nm_some hf
  refine z_putI d_P_writeLeaf_17 (fl_K (isK_eq g12) fl_P_57_3) (pu_K (isK_eq g12) (fun q hq => by cases (Option.some.inj hq); exact Or.inl rfl)) (fi_K (isK_eq g12) rfl) rfl ?_
  refine z_hp eh14 ?_
  refine z_aload_n 1 d_P_writeLeaf_20 rfl rfl ?_
  obtain ⟨g16, hf⟩ := gd_some hf
  refine z_getR d_P_writeLeaf_21 (fl_K (isK_eq g16) fl_P_9_5) (fi_K (isK_eq g16) rfl) rfl ?_
  refine z_bipush (v := (32 : Int32)) d_P_writeLeaf_24 (by decide) ?_
  refine z_iload_n 3 d_P_writeLeaf_26 rfl rfl ?_
  refine z_imul d_P_writeLeaf_27 ?_
  refine z_bipush (v := (8 : Int32)) d_P_writeLeaf_28 (by decide) ?_
  refine z_iload_n 4 d_P_writeLeaf_30 rfl rfl ?_
  refine z_imul d_P_writeLeaf_31 ?_
  refine z_iadd d_P_writeLeaf_32 ?_
  refine z_aload 0 d_P_writeLeaf_33 rfl ?_
  refine z_getR d_P_writeLeaf_35 (fl_K (isK_eq (isK_wI eh14 g12)) fl_P_59_3) (fi_K (isK_eq (isK_wI eh14 g12)) rfl) rfl ?_
  refine z_iconst (v := (0 : Int32)) d_P_writeLeaf_38 rfl ?_
  refine z_bipush (v := (8 : Int32)) d_P_writeLeaf_39 (by decide) ?_
  obtain ⟨a17, e18, hf⟩ := dr_some hf
  obtain ⟨a19, e20, hf⟩ := dr_some hf
  obtain ⟨g21, hf⟩ := gd_some hf
  obtain ⟨g22, hf⟩ := gd_some hf
  obtain ⟨g23, hf⟩ := gd_some hf
  obtain ⟨h24, eh25, hf⟩ := nm_some hf
  refine z_copyI d_P_writeLeaf_41 (show Cond.methodLink _ _ _ ∈ lw_w by decide +kernel) (by decide) (Nat.le_of_ble_eq_true rfl) e18 e20 (by rw [isK_eq g21]; decide) (by rw [isK_eq g21]; rfl) (by rw [isK_eq g22]; decide) (by rw [isK_eq g22]; rfl) (cpB_eq g23).1 (cpB_eq g23).2.1 (cpB_eq g23).2.2.1 (cpB_eq g23).2.2.2.1 (cpB_eq g23).2.2.2.2 ?_
  refine z_hp eh25 ?_
  refine z_aload_n 2 d_P_writeLeaf_44 rfl rfl ?_
  refine z_aload 0 d_P_writeLeaf_45 rfl ?_
  obtain ⟨a27, e28, hf⟩ := dr_some hf
  obtain ⟨g29, hf⟩ := gd_some hf
  obtain ⟨h30, ec31, hf⟩ := cv_some hf
  refine z_callVx e28 (c_K_append ec31) d_P_writeLeaf_47 cw_K_append lk_P_102 im_K_append se_K_append (kc_K (isK_eq g29) kc_2) ⟨by decide, by decide⟩ (Nat.le_of_ble_eq_true rfl) rfl ?_
  refine z_aload 0 d_P_writeLeaf_50 rfl ?_
  obtain ⟨rfl, rfl⟩ := Prod.mk.inj (Option.some.inj hf)
  exact z_ret d_P_writeLeaf_52 rfl
set_option maxRecDepth 100000 in
set_option maxHeartbeats 4000000 in
theorem fr_P_writeLeaf {C : Ct} {mi : Nat} {a0 : Nat} {p1 : Option Nat} {p2 : Int32} {p3 : Int32} {h h' : Hp} {v : Option Nat} (hf : f_P_writeLeaf a0 p1 p2 p3 h = some (v, h')) : Keep W_P_writeLeaf h h' := by
  unfold f_P_writeLeaf at hf
  obtain ⟨h1, eh2, hf⟩ := nm_some hf
  have K3 := (Keep.refl W_P_writeLeaf _).trans (kw_N eh2)
  obtain ⟨h4, ec5, hf⟩ := cv_some hf
  have K6 := K3.trans ((fr_L_init (C := C) (mi := mi) ec5).mono (by decide) (by decide))
  obtain ⟨g7, hf⟩ := gd_some hf
  obtain ⟨v10, h8, ec9, hf⟩ := cl_some hf
  have K11 := K6.trans ((fr_P_leafKeys (C := C) (mi := mi) ec9).mono (by decide) (by decide))
  obtain ⟨g12, hf⟩ := gd_some hf
  obtain ⟨h13, eh14, hf⟩ := nm_some hf
  have K15 := K11.trans (kw_I eh14 (isK_eq g12) (Or.inl (by decide)))
  obtain ⟨g16, hf⟩ := gd_some hf
  obtain ⟨a17, e18, hf⟩ := dr_some hf
  obtain ⟨a19, e20, hf⟩ := dr_some hf
  obtain ⟨g21, hf⟩ := gd_some hf
  obtain ⟨g22, hf⟩ := gd_some hf
  obtain ⟨g23, hf⟩ := gd_some hf
  obtain ⟨h24, eh25, hf⟩ := nm_some hf
  have K26 := K15.trans (kw_cI eh25 (isK_eq g22) (by decide))
  obtain ⟨a27, e28, hf⟩ := dr_some hf
  obtain ⟨g29, hf⟩ := gd_some hf
  obtain ⟨h30, ec31, hf⟩ := cv_some hf
  have K32 := K26.trans ((fr_K_append (C := C) (mi := mi) ec31).mono (by decide) (by decide))
  obtain ⟨rfl, rfl⟩ := Prod.mk.inj (Option.some.inj hf)
  exact K32
theorem c_P_writeLeaf {l : Launch} {C : Ct} {mi : Nat} {a0 : Nat} {p1 : Option Nat} {p2 : Int32} {p3 : Int32} {h h' : Hp} {v : Option Nat} (hf : f_P_writeLeaf a0 p1 p2 p3 h = some (v, h')) : Mt l C mi m_P_writeLeaf 3 [vr (some a0), vr p1, vi p2, vi p3] h (some (vr v)) h' := mt_R rfl (Or.inl ⟨_, rfl⟩) rfl (by decide) (Nat.le_of_ble_eq_true rfl) (zf_P_writeLeaf hf)
-- VersionMaps$Present.writeMap(LVersionMaps$Chunk;ILVersionMaps$Meta;)LVersionMaps$Root;
def m_P_writeMap : Mi := (⟨"VersionMaps$Present", "writeMap", "(LVersionMaps$Chunk;ILVersionMaps$Meta;)LVersionMaps$Root;"⟩, prog_7_method_13_code, 6, (Option.some (Jvm.ClassFile.FieldType.object "VersionMaps$Root")), .areturn)
theorem cw_P_writeMap : cw_ok m_P_writeMap 3 := ⟨by decide +kernel, by decide +kernel, by decide +kernel, by decide +kernel⟩
theorem im_P_writeMap : Cond.instanceMethod m_P_writeMap.1 ∈ lw_w := by decide +kernel
theorem se_P_writeMap : Cond.selects "VersionMaps$Present" m_P_writeMap.1 m_P_writeMap.1 ∈ lw_w := by decide +kernel
theorem d_P_writeMap_0 : decode prog_7_method_13_code 0 = .ok (.aload_n 0, 1) := by decide +kernel
theorem d_P_writeMap_1 : decode prog_7_method_13_code 1 = .ok (.iload_n 2, 1) := by decide +kernel
theorem d_P_writeMap_2 : decode prog_7_method_13_code 2 = .ok (.invokevirtual 66, 3) := by decide +kernel
theorem d_P_writeMap_5 : decode prog_7_method_13_code 5 = .ok (.ifCond .ne 5, 3) := by decide +kernel
theorem d_P_writeMap_8 : decode prog_7_method_13_code 8 = .ok (.aconst_null, 1) := by decide +kernel
theorem d_P_writeMap_9 : decode prog_7_method_13_code 9 = .ok (.areturn, 1) := by decide +kernel
theorem d_P_writeMap_10 : decode prog_7_method_13_code 10 = .ok (.new 42, 3) := by decide +kernel
theorem d_P_writeMap_13 : decode prog_7_method_13_code 13 = .ok (.dup, 1) := by decide +kernel
theorem d_P_writeMap_14 : decode prog_7_method_13_code 14 = .ok (.invokespecial 90, 3) := by decide +kernel
theorem d_P_writeMap_17 : decode prog_7_method_13_code 17 = .ok (.astore 4, 2) := by decide +kernel
theorem d_P_writeMap_19 : decode prog_7_method_13_code 19 = .ok (.iconst 0, 1) := by decide +kernel
theorem d_P_writeMap_20 : decode prog_7_method_13_code 20 = .ok (.istore 5, 2) := by decide +kernel
theorem d_P_writeMap_22 : decode prog_7_method_13_code 22 = .ok (.iload 5, 2) := by decide +kernel
theorem d_P_writeMap_24 : decode prog_7_method_13_code 24 = .ok (.iconst 4, 1) := by decide +kernel
theorem d_P_writeMap_25 : decode prog_7_method_13_code 25 = .ok (.if_icmp .ge 67, 3) := by decide +kernel
theorem d_P_writeMap_28 : decode prog_7_method_13_code 28 = .ok (.aload_n 0, 1) := by decide +kernel
theorem d_P_writeMap_29 : decode prog_7_method_13_code 29 = .ok (.iload_n 2, 1) := by decide +kernel
theorem d_P_writeMap_30 : decode prog_7_method_13_code 30 = .ok (.iload 5, 2) := by decide +kernel
theorem d_P_writeMap_32 : decode prog_7_method_13_code 32 = .ok (.invokevirtual 70, 3) := by decide +kernel
theorem d_P_writeMap_35 : decode prog_7_method_13_code 35 = .ok (.ifCond .eq 22, 3) := by decide +kernel
theorem d_P_writeMap_38 : decode prog_7_method_13_code 38 = .ok (.aload 4, 2) := by decide +kernel
theorem d_P_writeMap_40 : decode prog_7_method_13_code 40 = .ok (.getfield 91, 3) := by decide +kernel
theorem d_P_writeMap_43 : decode prog_7_method_13_code 43 = .ok (.iload 5, 2) := by decide +kernel
theorem d_P_writeMap_45 : decode prog_7_method_13_code 45 = .ok (.aload_n 0, 1) := by decide +kernel
theorem d_P_writeMap_46 : decode prog_7_method_13_code 46 = .ok (.aload_n 1, 1) := by decide +kernel
theorem d_P_writeMap_47 : decode prog_7_method_13_code 47 = .ok (.iload_n 2, 1) := by decide +kernel
theorem d_P_writeMap_48 : decode prog_7_method_13_code 48 = .ok (.iload 5, 2) := by decide +kernel
theorem d_P_writeMap_50 : decode prog_7_method_13_code 50 = .ok (.invokevirtual 95, 3) := by decide +kernel
theorem d_P_writeMap_53 : decode prog_7_method_13_code 53 = .ok (.aastore, 1) := by decide +kernel
theorem d_P_writeMap_54 : decode prog_7_method_13_code 54 = .ok (.goto 32, 3) := by decide +kernel
theorem d_P_writeMap_57 : decode prog_7_method_13_code 57 = .ok (.aload_n 0, 1) := by decide +kernel
theorem d_P_writeMap_58 : decode prog_7_method_13_code 58 = .ok (.iload_n 2, 1) := by decide +kernel
theorem d_P_writeMap_59 : decode prog_7_method_13_code 59 = .ok (.iload 5, 2) := by decide +kernel
theorem d_P_writeMap_61 : decode prog_7_method_13_code 61 = .ok (.invokevirtual 99, 3) := by decide +kernel
theorem d_P_writeMap_64 : decode prog_7_method_13_code 64 = .ok (.ifCond .ne 22, 3) := by decide +kernel
theorem d_P_writeMap_67 : decode prog_7_method_13_code 67 = .ok (.aload_n 3, 1) := by decide +kernel
theorem d_P_writeMap_68 : decode prog_7_method_13_code 68 = .ok (.ifnull 18, 3) := by decide +kernel
theorem d_P_writeMap_71 : decode prog_7_method_13_code 71 = .ok (.aload 4, 2) := by decide +kernel
theorem d_P_writeMap_73 : decode prog_7_method_13_code 73 = .ok (.getfield 91, 3) := by decide +kernel
theorem d_P_writeMap_76 : decode prog_7_method_13_code 76 = .ok (.iload 5, 2) := by decide +kernel
theorem d_P_writeMap_78 : decode prog_7_method_13_code 78 = .ok (.aload_n 3, 1) := by decide +kernel
theorem d_P_writeMap_79 : decode prog_7_method_13_code 79 = .ok (.iload_n 2, 1) := by decide +kernel
theorem d_P_writeMap_80 : decode prog_7_method_13_code 80 = .ok (.iload 5, 2) := by decide +kernel
theorem d_P_writeMap_82 : decode prog_7_method_13_code 82 = .ok (.invokevirtual 47, 3) := by decide +kernel
theorem d_P_writeMap_85 : decode prog_7_method_13_code 85 = .ok (.aastore, 1) := by decide +kernel
theorem d_P_writeMap_86 : decode prog_7_method_13_code 86 = .ok (.iinc 5 1, 3) := by decide +kernel
theorem d_P_writeMap_89 : decode prog_7_method_13_code 89 = .ok (.goto (-67), 3) := by decide +kernel
theorem d_P_writeMap_92 : decode prog_7_method_13_code 92 = .ok (.aload_n 1, 1) := by decide +kernel
theorem d_P_writeMap_93 : decode prog_7_method_13_code 93 = .ok (.aload 4, 2) := by decide +kernel
theorem d_P_writeMap_95 : decode prog_7_method_13_code 95 = .ok (.invokevirtual 102, 3) := by decide +kernel
theorem d_P_writeMap_98 : decode prog_7_method_13_code 98 = .ok (.aload 4, 2) := by decide +kernel
theorem d_P_writeMap_100 : decode prog_7_method_13_code 100 = .ok (.areturn, 1) := by decide +kernel
def W_P_writeMap : Wl := ([(2, 3), (3, 0), (3, 1), (3, 2), (3, 3), (3, 4), (4, 0), (4, 1), (4, 2), (6, 0), (6, 1), (6, 2), (6, 3)], [103, 105, 106])
def b_P_writeMap_22 (y0 : Nat) (y1 : Option Nat) (y2 : Int32) (y3 : Option Nat) (y4 : Option Nat) (y5 : Int32) (h : Hp) : Option ((Int32 × Hp) ⊕ (Hp)) :=
  if (4 : Int32) ≤ y5 then (some (.inr h)) else (gd (isK h y0 5) (cl (f_P_needsLeaf y0 y2 y5 h) fun v17 h15 => if v17 = 0 then (gd (isK h15 y0 5) (cl (f_P_isLeafTouched y0 y2 y5 h15) fun v23 h21 => if v23 = 0 then (if y3 = none then (some (.inl ((y5 + (1 : Int32)), h21))) else (dr y4 fun a27 => gd (isK h21 a27 6) (dr y3 fun a30 => gd (isK h21 a30 4) (cl (f_E_leafOf a30 y2 y5 h21) fun v35 h33 => dr (hpR h21 a27 3) fun a37 => gd (isK h33 a37 105) (gd (inb y5 (hpL h33 a37)) (gd (asV h33 v35 a37) (nm (wR h33 a37 y5.toNatClampNeg v35) fun h42 => some (.inl ((y5 + (1 : Int32)), h42))))))))) else (some (.inl ((y5 + (1 : Int32)), h21))))) else (dr y4 fun a45 => gd (isK h15 a45 6) (gd (isK h15 y0 5) (cl (f_P_writeLeaf y0 y1 y2 y5 h15) fun v51 h49 => dr (hpR h15 a45 3) fun a53 => gd (isK h49 a53 105) (gd (inb y5 (hpL h49 a53)) (gd (asV h49 v51 a53) (nm (wR h49 a53 y5.toNatClampNeg v51) fun h58 => some (.inl ((y5 + (1 : Int32)), h58))))))))))
set_option maxRecDepth 100000 in
set_option maxHeartbeats 4000000 in
theorem zb_P_writeMap_22 {l : Launch} {C : Ct} {mi : Nat} {y0 : Nat} {y1 : Option Nat} {y2 : Int32} {y3 : Option Nat} {y4 : Option Nat} {y5 : Int32} {h h' : Hp} {v : Option Nat} {q : ((Int32 × Hp) ⊕ (Hp))} (hf : b_P_writeMap_22 y0 y1 y2 y3 y4 y5 h = some q) (kc : ∀ s, q = .inl s → Z l C mi m_P_writeMap 4 22 [(0, vr (some y0)), (1, vr y1), (2, vi y2), (3, vr y3), (4, vr y4), (5, vi s.1)] [] s.2 (some (vr v)) h') (ke : ∀ x, q = .inr x → Z l C mi m_P_writeMap 4 92 [(1, vr y1), (4, vr y4)] [] x (some (vr v)) h') : Z l C mi m_P_writeMap 4 22 [(0, vr (some y0)), (1, vr y1), (2, vi y2), (3, vr y3), (4, vr y4), (5, vi y5)] [] h (some (vr v)) h' := by
  unfold b_P_writeMap_22 at hf
  refine z_iload 5 d_P_writeMap_22 rfl ?_
  refine z_iconst (v := (4 : Int32)) d_P_writeMap_24 rfl ?_
  refine z_icmp_ge (tgt := 92) d_P_writeMap_25 (by decide) (fun c13 => ?_) (fun c13 => ?_)
  · rw [if_pos c13] at hf
    refine z_ls [1, 4] rfl ?_
    exact ke h (Option.some.inj hf).symm
  · rw [if_neg c13] at hf
    refine z_aload_n 0 d_P_writeMap_28 rfl rfl ?_
    refine z_iload_n 2 d_P_writeMap_29 rfl rfl ?_
    refine z_iload 5 d_P_writeMap_30 rfl ?_
    obtain ⟨g14, hf⟩ := gd_some hf
    obtain ⟨v17, h15, ec16, hf⟩ := cl_some hf
    refine z_callVx rfl (c_P_needsLeaf ec16) d_P_writeMap_32 cw_P_needsLeaf lk_P_70 im_P_needsLeaf se_P_needsLeaf (kc_K (isK_eq g14) kc_5) ⟨by decide, by decide⟩ (Nat.le_of_ble_eq_true rfl) rfl ?_
    refine z_if_eq (tgt := 57) d_P_writeMap_35 (by decide) (fun c19 => ?_) (fun c19 => ?_)
    · rw [if_pos c19] at hf
      refine z_aload_n 0 d_P_writeMap_57 rfl rfl ?_
      refine z_iload_n 2 d_P_writeMap_58 rfl rfl ?_
      refine z_iload 5 d_P_writeMap_59 rfl ?_
      obtain ⟨g20, hf⟩ := gd_some hf
      obtain ⟨v23, h21, ec22, hf⟩ := cl_some hf
      refine z_callVx rfl (c_P_isLeafTouched ec22) d_P_writeMap_61 cw_P_isLeafTouched lk_P_99 im_P_isLeafTouched se_P_isLeafTouched (kc_K (isK_eq g20) kc_5) ⟨by decide, by decide⟩ (Nat.le_of_ble_eq_true rfl) rfl ?_
      refine z_if_ne (tgt := 86) d_P_writeMap_64 (by decide) (fun c25 => ?_) (fun c25 => ?_)
      · rw [if_neg c25] at hf
        refine z_iinc (ls2 := [(5, vi (y5 + (1 : Int32))), (0, vr (some y0)), (1, vr y1), (2, vi y2), (3, vr y3), (4, vr y4)]) 5 d_P_writeMap_86 rfl rfl (by decide) rfl ?_
        refine z_goto (tgt := 22) d_P_writeMap_89 (by decide) ?_
        refine z_ls [1, 2, 3, 4, 5, 0] rfl ?_
        exact kc ((y5 + (1 : Int32)), h21) (Option.some.inj hf).symm
      · rw [if_pos c25] at hf
        refine z_aload_n 3 d_P_writeMap_67 rfl rfl ?_
        refine z_ifnull (tgt := 86) d_P_writeMap_68 (by decide) (fun c26 => ?_) (fun c26 => ?_)
        · rw [if_pos c26] at hf
          refine z_iinc (ls2 := [(5, vi (y5 + (1 : Int32))), (0, vr (some y0)), (1, vr y1), (2, vi y2), (3, vr y3), (4, vr y4)]) 5 d_P_writeMap_86 rfl rfl (by decide) rfl ?_
          refine z_goto (tgt := 22) d_P_writeMap_89 (by decide) ?_
          refine z_ls [1, 2, 3, 4, 5, 0] rfl ?_
          exact kc ((y5 + (1 : Int32)), h21) (Option.some.inj hf).symm
        · rw [if_neg c26] at hf
          refine z_aload 4 d_P_writeMap_71 rfl ?_
          obtain ⟨a27, e28, hf⟩ := dr_some hf
          obtain ⟨g29, hf⟩ := gd_some hf
          refine z_getR d_P_writeMap_73 (fl_K (isK_eq g29) fl_P_91_6) (fi_K (isK_eq g29) rfl) e28 ?_
          refine z_iload 5 d_P_writeMap_76 rfl ?_
          refine z_aload_n 3 d_P_writeMap_78 rfl rfl ?_
          refine z_iload_n 2 d_P_writeMap_79 rfl rfl ?_
          refine z_iload 5 d_P_writeMap_80 rfl ?_
          obtain ⟨a30, e31, hf⟩ := dr_some hf
          obtain ⟨g32, hf⟩ := gd_some hf
          obtain ⟨v35, h33, ec34, hf⟩ := cl_some hf
          refine z_callVx e31 (c_E_leafOf ec34) d_P_writeMap_82 cw_E_leafOf lk_P_47 im_E_leafOf se_E_leafOf (kc_K (isK_eq g32) kc_4) ⟨by decide, by decide⟩ (Nat.le_of_ble_eq_true rfl) rfl ?_
          obtain ⟨a37, e38, hf⟩ := dr_some hf
          obtain ⟨g39, hf⟩ := gd_some hf
          obtain ⟨g40, hf⟩ := gd_some hf
          obtain ⟨g41, hf⟩ := gd_some hf
          obtain ⟨h42, eh43, hf⟩ := nm_some hf
          refine z_aast d_P_writeMap_85 e38 (by rw [isK_eq g39]; decide) (by rw [isK_eq g39]; decide) (asV_ok g41) (inb_vp g40) ?_
          refine z_hp eh43 ?_
          refine z_iinc (ls2 := [(5, vi (y5 + (1 : Int32))), (0, vr (some y0)), (1, vr y1), (2, vi y2), (3, vr y3), (4, vr y4)]) 5 d_P_writeMap_86 rfl rfl (by decide) rfl ?_
          refine z_goto (tgt := 22) d_P_writeMap_89 (by decide) ?_
          refine z_ls [1, 2, 3, 4, 5, 0] rfl ?_
          exact kc ((y5 + (1 : Int32)), h42) (Option.some.inj hf).symm
    · rw [if_neg c19] at hf
      refine z_aload 4 d_P_writeMap_38 rfl ?_
      obtain ⟨a45, e46, hf⟩ := dr_some hf
      obtain ⟨g47, hf⟩ := gd_some hf
      refine z_getR d_P_writeMap_40 (fl_K (isK_eq g47) fl_P_91_6) (fi_K (isK_eq g47) rfl) e46 ?_
      refine z_iload 5 d_P_writeMap_43 rfl ?_
      refine z_aload_n 0 d_P_writeMap_45 rfl rfl ?_
      refine z_aload_n 1 d_P_writeMap_46 rfl rfl ?_
      refine z_iload_n 2 d_P_writeMap_47 rfl rfl ?_
      refine z_iload 5 d_P_writeMap_48 rfl ?_
      obtain ⟨g48, hf⟩ := gd_some hf
      obtain ⟨v51, h49, ec50, hf⟩ := cl_some hf
      refine z_callVx rfl (c_P_writeLeaf ec50) d_P_writeMap_50 cw_P_writeLeaf lk_P_95 im_P_writeLeaf se_P_writeLeaf (kc_K (isK_eq g48) kc_5) ⟨by decide, by decide⟩ (Nat.le_of_ble_eq_true rfl) rfl ?_
      obtain ⟨a53, e54, hf⟩ := dr_some hf
      obtain ⟨g55, hf⟩ := gd_some hf
      obtain ⟨g56, hf⟩ := gd_some hf
      obtain ⟨g57, hf⟩ := gd_some hf
      obtain ⟨h58, eh59, hf⟩ := nm_some hf
      refine z_aast d_P_writeMap_53 e54 (by rw [isK_eq g55]; decide) (by rw [isK_eq g55]; decide) (asV_ok g57) (inb_vp g56) ?_
      refine z_hp eh59 ?_
      refine z_goto (tgt := 86) d_P_writeMap_54 (by decide) ?_
      refine z_iinc (ls2 := [(5, vi (y5 + (1 : Int32))), (0, vr (some y0)), (1, vr y1), (2, vi y2), (3, vr y3), (4, vr y4)]) 5 d_P_writeMap_86 rfl rfl (by decide) rfl ?_
      refine z_goto (tgt := 22) d_P_writeMap_89 (by decide) ?_
      refine z_ls [1, 2, 3, 4, 5, 0] rfl ?_
      exact kc ((y5 + (1 : Int32)), h58) (Option.some.inj hf).symm
set_option maxRecDepth 100000 in
set_option maxHeartbeats 4000000 in
theorem kb_P_writeMap_22 {C : Ct} {mi : Nat} {y0 : Nat} {y1 : Option Nat} {y2 : Int32} {y3 : Option Nat} {y4 : Option Nat} {y5 : Int32} {h : Hp} {q : ((Int32 × Hp) ⊕ (Hp))} (hf : b_P_writeMap_22 y0 y1 y2 y3 y4 y5 h = some q) : Keep W_P_writeMap h (Sum.elim (fun s : Int32 × Hp => s.2) (fun x : Hp => x) q) := by
  unfold b_P_writeMap_22 at hf
  rcases Classical.em ((4 : Int32) ≤ y5) with c13 | c13
  · rw [if_pos c13] at hf
    cases (Option.some.inj hf)
    exact (Keep.refl W_P_writeMap _)
  · rw [if_neg c13] at hf
    obtain ⟨g14, hf⟩ := gd_some hf
    obtain ⟨v17, h15, ec16, hf⟩ := cl_some hf
    have K18 := (Keep.refl W_P_writeMap _).trans ((fr_P_needsLeaf (C := C) (mi := mi) ec16).mono (by decide) (by decide))
    rcases Classical.em (v17 = 0) with c19 | c19
    · rw [if_pos c19] at hf
      obtain ⟨g20, hf⟩ := gd_some hf
      obtain ⟨v23, h21, ec22, hf⟩ := cl_some hf
      have K24 := K18.trans ((fr_P_isLeafTouched (C := C) (mi := mi) ec22).mono (by decide) (by decide))
      rcases (Classical.em (v23 = 0)).symm with c25 | c25
      · rw [if_neg c25] at hf
        cases (Option.some.inj hf)
        exact K24
      · rw [if_pos c25] at hf
        rcases Classical.em (y3 = none) with c26 | c26
        · rw [if_pos c26] at hf
          cases (Option.some.inj hf)
          exact K24
        · rw [if_neg c26] at hf
          obtain ⟨a27, e28, hf⟩ := dr_some hf
          obtain ⟨g29, hf⟩ := gd_some hf
          obtain ⟨a30, e31, hf⟩ := dr_some hf
          obtain ⟨g32, hf⟩ := gd_some hf
          obtain ⟨v35, h33, ec34, hf⟩ := cl_some hf
          have K36 := K24.trans ((fr_E_leafOf (C := C) (mi := mi) ec34).mono (by decide) (by decide))
          obtain ⟨a37, e38, hf⟩ := dr_some hf
          obtain ⟨g39, hf⟩ := gd_some hf
          obtain ⟨g40, hf⟩ := gd_some hf
          obtain ⟨g41, hf⟩ := gd_some hf
          obtain ⟨h42, eh43, hf⟩ := nm_some hf
          have K44 := K36.trans (kw_R eh43 (isK_eq g39) (Or.inr (by decide)))
          cases (Option.some.inj hf)
          exact K44
    · rw [if_neg c19] at hf
      obtain ⟨a45, e46, hf⟩ := dr_some hf
      obtain ⟨g47, hf⟩ := gd_some hf
      obtain ⟨g48, hf⟩ := gd_some hf
      obtain ⟨v51, h49, ec50, hf⟩ := cl_some hf
      have K52 := K18.trans ((fr_P_writeLeaf (C := C) (mi := mi) ec50).mono (by decide) (by decide))
      obtain ⟨a53, e54, hf⟩ := dr_some hf
      obtain ⟨g55, hf⟩ := gd_some hf
      obtain ⟨g56, hf⟩ := gd_some hf
      obtain ⟨g57, hf⟩ := gd_some hf
      obtain ⟨h58, eh59, hf⟩ := nm_some hf
      have K60 := K52.trans (kw_R eh59 (isK_eq g55) (Or.inr (by decide)))
      cases (Option.some.inj hf)
      exact K60
def l_P_writeMap_22 (y0 : Nat) (y1 : Option Nat) (y2 : Int32) (y3 : Option Nat) (y4 : Option Nat) (s : Int32 × Hp) : Option (Hp) := lp (fun s => b_P_writeMap_22 y0 y1 y2 y3 y4 s.1 s.2) FU s
theorem zzl_P_writeMap_22 {l : Launch} {C : Ct} {mi : Nat} {y0 : Nat} {y1 : Option Nat} {y2 : Int32} {y3 : Option Nat} {y4 : Option Nat} {h' : Hp} {v : Option Nat} : ∀ (n : Nat) (s : Int32 × Hp) (x : (Hp)), lp (fun s : Int32 × Hp => b_P_writeMap_22 y0 y1 y2 y3 y4 s.1 s.2) n s = some x → Z l C mi m_P_writeMap 4 92 [(1, vr y1), (4, vr y4)] [] x (some (vr v)) h' → Z l C mi m_P_writeMap 4 22 [(0, vr (some y0)), (1, vr y1), (2, vi y2), (3, vr y3), (4, vr y4), (5, vi s.1)] [] s.2 (some (vr v)) h' := by
  intro n
  induction n with
  | zero => intro s x hl; cases hl
  | succ n ih =>
    intro s x hl ke
    rcases lp_some hl with ⟨s2, hb, hl2⟩ | hb
    · exact zb_P_writeMap_22 hb (fun s3 e3 => by cases e3; refine z_ls [0, 1, 2, 3, 4, 5] rfl ?_; exact ih s2 x hl2 ke) (fun x e3 => by cases e3)
    · exact zb_P_writeMap_22 hb (fun s3 e3 => by cases e3) (fun x e3 => by cases e3; exact ke)
theorem zl_P_writeMap_22 {l : Launch} {C : Ct} {mi : Nat} {y0 : Nat} {y1 : Option Nat} {y2 : Int32} {y3 : Option Nat} {y4 : Option Nat} {h' : Hp} {v : Option Nat} {s : Int32 × Hp} {x : (Hp)} (hl : l_P_writeMap_22 y0 y1 y2 y3 y4 s = some x) (ke : Z l C mi m_P_writeMap 4 92 [(1, vr y1), (4, vr y4)] [] x (some (vr v)) h') : Z l C mi m_P_writeMap 4 22 [(0, vr (some y0)), (1, vr y1), (2, vi y2), (3, vr y3), (4, vr y4), (5, vi s.1)] [] s.2 (some (vr v)) h' := zzl_P_writeMap_22 FU s x hl ke
theorem kl_P_writeMap_22 {C : Ct} {mi : Nat} {y0 : Nat} {y1 : Option Nat} {y2 : Int32} {y3 : Option Nat} {y4 : Option Nat} {s : Int32 × Hp} {q : (Hp)} (hl : l_P_writeMap_22 y0 y1 y2 y3 y4 s = some q) : Keep W_P_writeMap s.2 ((fun x : Hp => x) q) := lpk (sh := (fun s : Int32 × Hp => s.2)) (rh := (fun x : Hp => x)) (fun s q hb => kb_P_writeMap_22 (C := C) (mi := mi) hb) FU s q hl
def f_P_writeMap (a0 : Nat) (p1 : Option Nat) (p2 : Int32) (p3 : Option Nat) (h : Hp) : Option (Option Nat × Hp) :=
  gd (isK h a0 5) (cl (f_P_needsRoot a0 p2 h) fun v4 h2 => if v4 = 0 then (some (none, h2)) else (nm (nw h2 6 0 4) fun h7 => cv (f_O_init (hpN h2) h7) fun h10 => bd (l_P_writeMap_22 a0 p1 p2 p3 (some (hpN h2)) ((0 : Int32), h10)) fun x61 => dr p1 fun a64 => gd (isK x61 a64 2) (cv (f_K_append a64 (some (hpN h2)) x61) fun h67 => some ((some (hpN h2)), h67))))
set_option maxRecDepth 100000 in
set_option maxHeartbeats 4000000 in
theorem zf_P_writeMap {l : Launch} {C : Ct} {mi : Nat} {a0 : Nat} {p1 : Option Nat} {p2 : Int32} {p3 : Option Nat} {h h' : Hp} {v : Option Nat} (hf : f_P_writeMap a0 p1 p2 p3 h = some (v, h')) : Z l C mi m_P_writeMap 4 0 [(0, vr (some a0)), (1, vr p1), (2, vi p2), (3, vr p3)] [] h (some (vr v)) h' := by
  unfold f_P_writeMap at hf
  refine z_aload_n 0 d_P_writeMap_0 rfl rfl ?_
  refine z_iload_n 2 d_P_writeMap_1 rfl rfl ?_
  obtain ⟨g1, hf⟩ := gd_some hf
  obtain ⟨v4, h2, ec3, hf⟩ := cl_some hf
  refine z_callVx rfl (c_P_needsRoot ec3) d_P_writeMap_2 cw_P_needsRoot lk_P_66 im_P_needsRoot se_P_needsRoot (kc_K (isK_eq g1) kc_5) ⟨by decide, by decide⟩ (Nat.le_of_ble_eq_true rfl) rfl ?_
  refine z_if_ne (tgt := 10) d_P_writeMap_5 (by decide) (fun c6 => ?_) (fun c6 => ?_)
  · rw [if_neg c6] at hf
    obtain ⟨h7, eh8, hf⟩ := nm_some hf
    refine z_new (κ := 6) d_P_writeMap_10 rfl (by decide +kernel) ?_
    refine z_hp eh8 ?_
    refine z_dup d_P_writeMap_13 rfl ?_
    obtain ⟨h10, ec11, hf⟩ := cv_some hf
    refine z_callIN (host := "VersionMaps") (c_O_init ec11) d_P_writeMap_14 rfl cw_O_init lk_P_90 im_O_init rfl ⟨by decide, by decide⟩ (Nat.le_of_ble_eq_true rfl) rfl ?_
    refine z_astore (ls2 := [(4, vr (some (hpN h2))), (0, vr (some a0)), (1, vr p1), (2, vi p2), (3, vr p3)]) d_P_writeMap_17 (by decide) rfl ?_
    refine z_iconst (v := (0 : Int32)) d_P_writeMap_19 rfl ?_
    refine z_istore (ls2 := [(5, vi (0 : Int32)), (4, vr (some (hpN h2))), (0, vr (some a0)), (1, vr p1), (2, vi p2), (3, vr p3)]) d_P_writeMap_20 (by decide) rfl ?_
    obtain ⟨x61, el62, hf⟩ := bd_some hf
    refine z_ls [2, 3, 4, 5, 1, 0] rfl ?_
    refine zl_P_writeMap_22 el62 ?_
    refine z_aload_n 0 d_P_writeMap_92 rfl rfl ?_
    refine z_aload 1 d_P_writeMap_93 rfl ?_
    obtain ⟨a64, e65, hf⟩ := dr_some hf
    obtain ⟨g66, hf⟩ := gd_some hf
    obtain ⟨h67, ec68, hf⟩ := cv_some hf
    refine z_callVx e65 (c_K_append ec68) d_P_writeMap_95 cw_K_append lk_P_102 im_K_append se_K_append (kc_K (isK_eq g66) kc_2) ⟨by decide, by decide⟩ (Nat.le_of_ble_eq_true rfl) rfl ?_
    refine z_aload 1 d_P_writeMap_98 rfl ?_
    obtain ⟨rfl, rfl⟩ := Prod.mk.inj (Option.some.inj hf)
    exact z_ret d_P_writeMap_100 rfl
  · rw [if_pos c6] at hf
    refine z_aconst_null d_P_writeMap_8 ?_
    obtain ⟨rfl, rfl⟩ := Prod.mk.inj (Option.some.inj hf)
    exact z_ret d_P_writeMap_9 rfl
set_option maxRecDepth 100000 in
set_option maxHeartbeats 4000000 in
theorem fr_P_writeMap {C : Ct} {mi : Nat} {a0 : Nat} {p1 : Option Nat} {p2 : Int32} {p3 : Option Nat} {h h' : Hp} {v : Option Nat} (hf : f_P_writeMap a0 p1 p2 p3 h = some (v, h')) : Keep W_P_writeMap h h' := by
  unfold f_P_writeMap at hf
  obtain ⟨g1, hf⟩ := gd_some hf
  obtain ⟨v4, h2, ec3, hf⟩ := cl_some hf
  have K5 := (Keep.refl W_P_writeMap _).trans ((fr_P_needsRoot (C := C) (mi := mi) ec3).mono (by decide) (by decide))
  rcases (Classical.em (v4 = 0)).symm with c6 | c6
  · rw [if_neg c6] at hf
    obtain ⟨h7, eh8, hf⟩ := nm_some hf
    have K9 := K5.trans (kw_N eh8)
    obtain ⟨h10, ec11, hf⟩ := cv_some hf
    have K12 := K9.trans ((fr_O_init (C := C) (mi := mi) ec11).mono (by decide) (by decide))
    obtain ⟨x61, el62, hf⟩ := bd_some hf
    have K63 := K12.trans (kl_P_writeMap_22 (C := C) (mi := mi) el62)
    obtain ⟨a64, e65, hf⟩ := dr_some hf
    obtain ⟨g66, hf⟩ := gd_some hf
    obtain ⟨h67, ec68, hf⟩ := cv_some hf
    have K69 := K63.trans ((fr_K_append (C := C) (mi := mi) ec68).mono (by decide) (by decide))
    obtain ⟨rfl, rfl⟩ := Prod.mk.inj (Option.some.inj hf)
    exact K69
  · rw [if_pos c6] at hf
    obtain ⟨rfl, rfl⟩ := Prod.mk.inj (Option.some.inj hf)
    exact K5
theorem c_P_writeMap {l : Launch} {C : Ct} {mi : Nat} {a0 : Nat} {p1 : Option Nat} {p2 : Int32} {p3 : Option Nat} {h h' : Hp} {v : Option Nat} (hf : f_P_writeMap a0 p1 p2 p3 h = some (v, h')) : Mt l C mi m_P_writeMap 4 [vr (some a0), vr p1, vi p2, vr p3] h (some (vr v)) h' := mt_R rfl (Or.inl ⟨_, rfl⟩) rfl (by decide) (Nat.le_of_ble_eq_true rfl) (zf_P_writeMap hf)
-- VersionMaps$Chunk.close(LVersionMaps$Meta;)V
def m_K_close : Mi := (⟨"VersionMaps$Chunk", "close", "(LVersionMaps$Meta;)V"⟩, prog_3_method_3_code, 2, (Option.none : Option Jvm.ClassFile.FieldType), .return_)
theorem cw_K_close : cw_ok m_K_close 1 := ⟨by decide +kernel, by decide +kernel, by decide +kernel, by decide +kernel⟩
theorem im_K_close : Cond.instanceMethod m_K_close.1 ∈ lw_w := by decide +kernel
theorem se_K_close : Cond.selects "VersionMaps$Chunk" m_K_close.1 m_K_close.1 ∈ lw_w := by decide +kernel
theorem d_K_close_0 : decode prog_3_method_3_code 0 = .ok (.aload_n 0, 1) := by decide +kernel
theorem d_K_close_1 : decode prog_3_method_3_code 1 = .ok (.aload_n 1, 1) := by decide +kernel
theorem d_K_close_2 : decode prog_3_method_3_code 2 = .ok (.invokevirtual 36, 3) := by decide +kernel
theorem d_K_close_5 : decode prog_3_method_3_code 5 = .ok (.aload_n 0, 1) := by decide +kernel
theorem d_K_close_6 : decode prog_3_method_3_code 6 = .ok (.aload_n 1, 1) := by decide +kernel
theorem d_K_close_7 : decode prog_3_method_3_code 7 = .ok (.putfield 13, 3) := by decide +kernel
theorem d_K_close_10 : decode prog_3_method_3_code 10 = .ok (.return_, 1) := by decide +kernel
def W_K_close : Wl := ([(2, 3), (2, 4), (3, 0), (3, 1), (4, 0), (4, 1), (6, 0), (6, 1)], [103])
def f_K_close (a0 : Nat) (p1 : Option Nat) (h : Hp) : Option Hp :=
  gd (isK h a0 2) (cv (f_K_append a0 p1 h) fun h2 => gd (isK h2 a0 2) (nm (wR h2 a0 4 p1) fun h6 => some h6))
set_option maxRecDepth 100000 in
set_option maxHeartbeats 4000000 in
theorem zf_K_close {l : Launch} {C : Ct} {mi : Nat} {a0 : Nat} {p1 : Option Nat} {h h' : Hp} (hf : f_K_close a0 p1 h = some h') : Z l C mi m_K_close 1 0 [(0, vr (some a0)), (1, vr p1)] [] h none h' := by
  unfold f_K_close at hf
  refine z_aload_n 0 d_K_close_0 rfl rfl ?_
  refine z_aload_n 1 d_K_close_1 rfl rfl ?_
  obtain ⟨g1, hf⟩ := gd_some hf
  obtain ⟨h2, ec3, hf⟩ := cv_some hf
  refine z_callVx rfl (c_K_append ec3) d_K_close_2 cw_K_append lk_K_36 im_K_append se_K_append (kc_K (isK_eq g1) kc_2) ⟨by decide, by decide⟩ (Nat.le_of_ble_eq_true rfl) rfl ?_
  refine z_aload_n 0 d_K_close_5 rfl rfl ?_
  refine z_aload_n 1 d_K_close_6 rfl rfl ?_
  obtain ⟨g5, hf⟩ := gd_some hf
  obtain ⟨h6, eh7, hf⟩ := nm_some hf
  refine z_putR d_K_close_7 (fl_K (isK_eq g5) fl_K_13_2) (pu_K (isK_eq g5) (fun q hq => by cases (Option.some.inj hq); exact Or.inl rfl)) (fi_K (isK_eq g5) rfl) rfl ?_
  refine z_hp eh7 ?_
  cases (Option.some.inj hf)
  exact z_ret d_K_close_10 rfl
set_option maxRecDepth 100000 in
set_option maxHeartbeats 4000000 in
theorem fr_K_close {C : Ct} {mi : Nat} {a0 : Nat} {p1 : Option Nat} {h h' : Hp} (hf : f_K_close a0 p1 h = some h') : Keep W_K_close h h' := by
  unfold f_K_close at hf
  obtain ⟨g1, hf⟩ := gd_some hf
  obtain ⟨h2, ec3, hf⟩ := cv_some hf
  have K4 := (Keep.refl W_K_close _).trans ((fr_K_append (C := C) (mi := mi) ec3).mono (by decide) (by decide))
  obtain ⟨g5, hf⟩ := gd_some hf
  obtain ⟨h6, eh7, hf⟩ := nm_some hf
  have K8 := K4.trans (kw_R eh7 (isK_eq g5) (Or.inl (by decide)))
  cases (Option.some.inj hf)
  exact K8
theorem c_K_close {l : Launch} {C : Ct} {mi : Nat} {a0 : Nat} {p1 : Option Nat} {h h' : Hp} (hf : f_K_close a0 p1 h = some h') : Mt l C mi m_K_close 1 [vr (some a0), vr p1] h none h' := mt_V rfl rfl (by decide) (Nat.le_of_ble_eq_true rfl) (zf_K_close hf)
-- VersionMaps$Present.writeTouched(LVersionMaps$Chunk;ILVersionMaps$Meta;)V
def m_P_writeTouched : Mi := (⟨"VersionMaps$Present", "writeTouched", "(LVersionMaps$Chunk;ILVersionMaps$Meta;)V"⟩, prog_7_method_12_code, 6, (Option.none : Option Jvm.ClassFile.FieldType), .return_)
theorem cw_P_writeTouched : cw_ok m_P_writeTouched 3 := ⟨by decide +kernel, by decide +kernel, by decide +kernel, by decide +kernel⟩
theorem im_P_writeTouched : Cond.instanceMethod m_P_writeTouched.1 ∈ lw_w := by decide +kernel
theorem se_P_writeTouched : Cond.selects "VersionMaps$Present" m_P_writeTouched.1 m_P_writeTouched.1 ∈ lw_w := by decide +kernel
theorem d_P_writeTouched_0 : decode prog_7_method_12_code 0 = .ok (.new 36, 3) := by decide +kernel
theorem d_P_writeTouched_3 : decode prog_7_method_12_code 3 = .ok (.dup, 1) := by decide +kernel
theorem d_P_writeTouched_4 : decode prog_7_method_12_code 4 = .ok (.iload_n 2, 1) := by decide +kernel
theorem d_P_writeTouched_5 : decode prog_7_method_12_code 5 = .ok (.invokespecial 74, 3) := by decide +kernel
theorem d_P_writeTouched_8 : decode prog_7_method_12_code 8 = .ok (.astore 4, 2) := by decide +kernel
theorem d_P_writeTouched_10 : decode prog_7_method_12_code 10 = .ok (.iconst 0, 1) := by decide +kernel
theorem d_P_writeTouched_11 : decode prog_7_method_12_code 11 = .ok (.istore 5, 2) := by decide +kernel
theorem d_P_writeTouched_13 : decode prog_7_method_12_code 13 = .ok (.iload 5, 2) := by decide +kernel
theorem d_P_writeTouched_15 : decode prog_7_method_12_code 15 = .ok (.iconst 4, 1) := by decide +kernel
theorem d_P_writeTouched_16 : decode prog_7_method_12_code 16 = .ok (.if_icmp .ge 56, 3) := by decide +kernel
theorem d_P_writeTouched_19 : decode prog_7_method_12_code 19 = .ok (.aload_n 0, 1) := by decide +kernel
theorem d_P_writeTouched_20 : decode prog_7_method_12_code 20 = .ok (.iload 5, 2) := by decide +kernel
theorem d_P_writeTouched_22 : decode prog_7_method_12_code 22 = .ok (.invokevirtual 77, 3) := by decide +kernel
theorem d_P_writeTouched_25 : decode prog_7_method_12_code 25 = .ok (.ifCond .eq 22, 3) := by decide +kernel
theorem d_P_writeTouched_28 : decode prog_7_method_12_code 28 = .ok (.aload 4, 2) := by decide +kernel
theorem d_P_writeTouched_30 : decode prog_7_method_12_code 30 = .ok (.getfield 35, 3) := by decide +kernel
theorem d_P_writeTouched_33 : decode prog_7_method_12_code 33 = .ok (.iload 5, 2) := by decide +kernel
theorem d_P_writeTouched_35 : decode prog_7_method_12_code 35 = .ok (.aload_n 0, 1) := by decide +kernel
theorem d_P_writeTouched_36 : decode prog_7_method_12_code 36 = .ok (.aload_n 1, 1) := by decide +kernel
theorem d_P_writeTouched_37 : decode prog_7_method_12_code 37 = .ok (.iload 5, 2) := by decide +kernel
theorem d_P_writeTouched_39 : decode prog_7_method_12_code 39 = .ok (.aload_n 3, 1) := by decide +kernel
theorem d_P_writeTouched_40 : decode prog_7_method_12_code 40 = .ok (.invokevirtual 80, 3) := by decide +kernel
theorem d_P_writeTouched_43 : decode prog_7_method_12_code 43 = .ok (.aastore, 1) := by decide +kernel
theorem d_P_writeTouched_44 : decode prog_7_method_12_code 44 = .ok (.goto 22, 3) := by decide +kernel
theorem d_P_writeTouched_47 : decode prog_7_method_12_code 47 = .ok (.aload_n 3, 1) := by decide +kernel
theorem d_P_writeTouched_48 : decode prog_7_method_12_code 48 = .ok (.ifnull 18, 3) := by decide +kernel
theorem d_P_writeTouched_51 : decode prog_7_method_12_code 51 = .ok (.aload 4, 2) := by decide +kernel
theorem d_P_writeTouched_53 : decode prog_7_method_12_code 53 = .ok (.getfield 35, 3) := by decide +kernel
theorem d_P_writeTouched_56 : decode prog_7_method_12_code 56 = .ok (.iload 5, 2) := by decide +kernel
theorem d_P_writeTouched_58 : decode prog_7_method_12_code 58 = .ok (.aload_n 3, 1) := by decide +kernel
theorem d_P_writeTouched_59 : decode prog_7_method_12_code 59 = .ok (.getfield 35, 3) := by decide +kernel
theorem d_P_writeTouched_62 : decode prog_7_method_12_code 62 = .ok (.iload 5, 2) := by decide +kernel
theorem d_P_writeTouched_64 : decode prog_7_method_12_code 64 = .ok (.aaload, 1) := by decide +kernel
theorem d_P_writeTouched_65 : decode prog_7_method_12_code 65 = .ok (.aastore, 1) := by decide +kernel
theorem d_P_writeTouched_66 : decode prog_7_method_12_code 66 = .ok (.iinc 5 1, 3) := by decide +kernel
theorem d_P_writeTouched_69 : decode prog_7_method_12_code 69 = .ok (.goto (-56), 3) := by decide +kernel
theorem d_P_writeTouched_72 : decode prog_7_method_12_code 72 = .ok (.aload_n 1, 1) := by decide +kernel
theorem d_P_writeTouched_73 : decode prog_7_method_12_code 73 = .ok (.aload 4, 2) := by decide +kernel
theorem d_P_writeTouched_75 : decode prog_7_method_12_code 75 = .ok (.invokevirtual 84, 3) := by decide +kernel
theorem d_P_writeTouched_78 : decode prog_7_method_12_code 78 = .ok (.return_, 1) := by decide +kernel
def W_P_writeTouched : Wl := ([(2, 3), (2, 4), (3, 0), (3, 1), (3, 2), (3, 3), (3, 4), (4, 0), (4, 1), (4, 2), (4, 3), (4, 4), (6, 0), (6, 1), (6, 2), (6, 3)], [103, 104, 105, 106])
def b_P_writeTouched_13 (y0 : Nat) (y1 : Option Nat) (y3 : Option Nat) (y4 : Option Nat) (y5 : Int32) (h : Hp) : Option ((Int32 × Hp) ⊕ (Hp)) :=
  if (4 : Int32) ≤ y5 then (some (.inr h)) else (gd (isK h y0 5) (cl (f_P_isMapChanged y0 y5 h) fun v11 h9 => if v11 = 0 then (if y3 = none then (some (.inl ((y5 + (1 : Int32)), h9))) else (dr y4 fun a15 => gd (isK h9 a15 4) (dr y3 fun a18 => gd (isK h9 a18 4) (dr (hpR h9 a18 4) fun a21 => gd (isK h9 a21 104) (gd (inb y5 (hpL h9 a21)) (dr (hpR h9 a15 4) fun a25 => gd (isK h9 a25 104) (gd (inb y5 (hpL h9 a25)) (gd (asV h9 (hpR h9 a21 y5.toNatClampNeg) a25) (nm (wR h9 a25 y5.toNatClampNeg (hpR h9 a21 y5.toNatClampNeg)) fun h30 => some (.inl ((y5 + (1 : Int32)), h30))))))))))) else (dr y4 fun a33 => gd (isK h9 a33 4) (gd (isK h9 y0 5) (cl (f_P_writeMap y0 y1 y5 y3 h9) fun v39 h37 => dr (hpR h9 a33 4) fun a41 => gd (isK h37 a41 104) (gd (inb y5 (hpL h37 a41)) (gd (asV h37 v39 a41) (nm (wR h37 a41 y5.toNatClampNeg v39) fun h46 => some (.inl ((y5 + (1 : Int32)), h46))))))))))
set_option maxRecDepth 100000 in
set_option maxHeartbeats 4000000 in
theorem zb_P_writeTouched_13 {l : Launch} {C : Ct} {mi : Nat} {y0 : Nat} {y1 : Option Nat} {y3 : Option Nat} {y4 : Option Nat} {y5 : Int32} {h h' : Hp} {q : ((Int32 × Hp) ⊕ (Hp))} (hf : b_P_writeTouched_13 y0 y1 y3 y4 y5 h = some q) (kc : ∀ s, q = .inl s → Z l C mi m_P_writeTouched 5 13 [(0, vr (some y0)), (1, vr y1), (3, vr y3), (4, vr y4), (5, vi s.1)] [] s.2 none h') (ke : ∀ x, q = .inr x → Z l C mi m_P_writeTouched 5 72 [(1, vr y1), (4, vr y4)] [] x none h') : Z l C mi m_P_writeTouched 5 13 [(0, vr (some y0)), (1, vr y1), (3, vr y3), (4, vr y4), (5, vi y5)] [] h none h' := by
  unfold b_P_writeTouched_13 at hf
  refine z_iload 4 d_P_writeTouched_13 rfl ?_
  refine z_iconst (v := (4 : Int32)) d_P_writeTouched_15 rfl ?_
  refine z_icmp_ge (tgt := 72) d_P_writeTouched_16 (by decide) (fun c7 => ?_) (fun c7 => ?_)
  · rw [if_pos c7] at hf
    refine z_ls [1, 3] rfl ?_
    exact ke h (Option.some.inj hf).symm
  · rw [if_neg c7] at hf
    refine z_aload_n 0 d_P_writeTouched_19 rfl rfl ?_
    refine z_iload 4 d_P_writeTouched_20 rfl ?_
    obtain ⟨g8, hf⟩ := gd_some hf
    obtain ⟨v11, h9, ec10, hf⟩ := cl_some hf
    refine z_callVx rfl (c_P_isMapChanged ec10) d_P_writeTouched_22 cw_P_isMapChanged lk_P_77 im_P_isMapChanged se_P_isMapChanged (kc_K (isK_eq g8) kc_5) ⟨by decide, by decide⟩ (Nat.le_of_ble_eq_true rfl) rfl ?_
    refine z_if_eq (tgt := 47) d_P_writeTouched_25 (by decide) (fun c13 => ?_) (fun c13 => ?_)
    · rw [if_pos c13] at hf
      refine z_aload_n 2 d_P_writeTouched_47 rfl rfl ?_
      refine z_ifnull (tgt := 66) d_P_writeTouched_48 (by decide) (fun c14 => ?_) (fun c14 => ?_)
      · rw [if_pos c14] at hf
        refine z_iinc (ls2 := [(5, vi (y5 + (1 : Int32))), (0, vr (some y0)), (1, vr y1), (3, vr y3), (4, vr y4)]) 4 d_P_writeTouched_66 rfl rfl (by decide) rfl ?_
        refine z_goto (tgt := 13) d_P_writeTouched_69 (by decide) ?_
        refine z_ls [1, 2, 3, 4, 0] rfl ?_
        exact kc ((y5 + (1 : Int32)), h9) (Option.some.inj hf).symm
      · rw [if_neg c14] at hf
        refine z_aload 3 d_P_writeTouched_51 rfl ?_
        obtain ⟨a15, e16, hf⟩ := dr_some hf
        obtain ⟨g17, hf⟩ := gd_some hf
        refine z_getR d_P_writeTouched_53 (fl_K (isK_eq g17) fl_P_35_4) (fi_K (isK_eq g17) rfl) e16 ?_
        refine z_iload 4 d_P_writeTouched_56 rfl ?_
        refine z_aload_n 2 d_P_writeTouched_58 rfl rfl ?_
        obtain ⟨a18, e19, hf⟩ := dr_some hf
        obtain ⟨g20, hf⟩ := gd_some hf
        refine z_getR d_P_writeTouched_59 (fl_K (isK_eq g20) fl_P_35_4) (fi_K (isK_eq g20) rfl) e19 ?_
        refine z_iload 4 d_P_writeTouched_62 rfl ?_
        obtain ⟨a21, e22, hf⟩ := dr_some hf
        obtain ⟨g23, hf⟩ := gd_some hf
        obtain ⟨g24, hf⟩ := gd_some hf
        refine z_aald d_P_writeTouched_64 e22 (by rw [isK_eq g23]; decide) (by rw [isK_eq g23]; decide) (inb_vp g24) ?_
        obtain ⟨a25, e26, hf⟩ := dr_some hf
        obtain ⟨g27, hf⟩ := gd_some hf
        obtain ⟨g28, hf⟩ := gd_some hf
        obtain ⟨g29, hf⟩ := gd_some hf
        obtain ⟨h30, eh31, hf⟩ := nm_some hf
        refine z_aast d_P_writeTouched_65 e26 (by rw [isK_eq g27]; decide) (by rw [isK_eq g27]; decide) (asV_ok g29) (inb_vp g28) ?_
        refine z_hp eh31 ?_
        refine z_iinc (ls2 := [(5, vi (y5 + (1 : Int32))), (0, vr (some y0)), (1, vr y1), (3, vr y3), (4, vr y4)]) 4 d_P_writeTouched_66 rfl rfl (by decide) rfl ?_
        refine z_goto (tgt := 13) d_P_writeTouched_69 (by decide) ?_
        refine z_ls [1, 2, 3, 4, 0] rfl ?_
        exact kc ((y5 + (1 : Int32)), h30) (Option.some.inj hf).symm
    · rw [if_neg c13] at hf
      refine z_aload 3 d_P_writeTouched_28 rfl ?_
      obtain ⟨a33, e34, hf⟩ := dr_some hf
      obtain ⟨g35, hf⟩ := gd_some hf
      refine z_getR d_P_writeTouched_30 (fl_K (isK_eq g35) fl_P_35_4) (fi_K (isK_eq g35) rfl) e34 ?_
      refine z_iload 4 d_P_writeTouched_33 rfl ?_
      refine z_aload_n 0 d_P_writeTouched_35 rfl rfl ?_
      refine z_aload_n 1 d_P_writeTouched_36 rfl rfl ?_
      refine z_iload 4 d_P_writeTouched_37 rfl ?_
      refine z_aload_n 2 d_P_writeTouched_39 rfl rfl ?_
      obtain ⟨g36, hf⟩ := gd_some hf
      obtain ⟨v39, h37, ec38, hf⟩ := cl_some hf
      refine z_callVx rfl (c_P_writeMap ec38) d_P_writeTouched_40 cw_P_writeMap lk_P_80 im_P_writeMap se_P_writeMap (kc_K (isK_eq g36) kc_5) ⟨by decide, by decide⟩ (Nat.le_of_ble_eq_true rfl) rfl ?_
      obtain ⟨a41, e42, hf⟩ := dr_some hf
      obtain ⟨g43, hf⟩ := gd_some hf
      obtain ⟨g44, hf⟩ := gd_some hf
      obtain ⟨g45, hf⟩ := gd_some hf
      obtain ⟨h46, eh47, hf⟩ := nm_some hf
      refine z_aast d_P_writeTouched_43 e42 (by rw [isK_eq g43]; decide) (by rw [isK_eq g43]; decide) (asV_ok g45) (inb_vp g44) ?_
      refine z_hp eh47 ?_
      refine z_goto (tgt := 66) d_P_writeTouched_44 (by decide) ?_
      refine z_iinc (ls2 := [(5, vi (y5 + (1 : Int32))), (0, vr (some y0)), (1, vr y1), (3, vr y3), (4, vr y4)]) 4 d_P_writeTouched_66 rfl rfl (by decide) rfl ?_
      refine z_goto (tgt := 13) d_P_writeTouched_69 (by decide) ?_
      refine z_ls [1, 2, 3, 4, 0] rfl ?_
      exact kc ((y5 + (1 : Int32)), h46) (Option.some.inj hf).symm
set_option maxRecDepth 100000 in
set_option maxHeartbeats 4000000 in
theorem kb_P_writeTouched_13 {C : Ct} {mi : Nat} {y0 : Nat} {y1 : Option Nat} {y3 : Option Nat} {y4 : Option Nat} {y5 : Int32} {h : Hp} {q : ((Int32 × Hp) ⊕ (Hp))} (hf : b_P_writeTouched_13 y0 y1 y3 y4 y5 h = some q) : Keep W_P_writeTouched h (Sum.elim (fun s : Int32 × Hp => s.2) (fun x : Hp => x) q) := by
  unfold b_P_writeTouched_13 at hf
  rcases Classical.em ((4 : Int32) ≤ y5) with c7 | c7
  · rw [if_pos c7] at hf
    cases (Option.some.inj hf)
    exact (Keep.refl W_P_writeTouched _)
  · rw [if_neg c7] at hf
    obtain ⟨g8, hf⟩ := gd_some hf
    obtain ⟨v11, h9, ec10, hf⟩ := cl_some hf
    have K12 := (Keep.refl W_P_writeTouched _).trans ((fr_P_isMapChanged (C := C) (mi := mi) ec10).mono (by decide) (by decide))
    rcases Classical.em (v11 = 0) with c13 | c13
    · rw [if_pos c13] at hf
      rcases Classical.em (y3 = none) with c14 | c14
      · rw [if_pos c14] at hf
        cases (Option.some.inj hf)
        exact K12
      · rw [if_neg c14] at hf
        obtain ⟨a15, e16, hf⟩ := dr_some hf
        obtain ⟨g17, hf⟩ := gd_some hf
        obtain ⟨a18, e19, hf⟩ := dr_some hf
        obtain ⟨g20, hf⟩ := gd_some hf
        obtain ⟨a21, e22, hf⟩ := dr_some hf
        obtain ⟨g23, hf⟩ := gd_some hf
        obtain ⟨g24, hf⟩ := gd_some hf
        obtain ⟨a25, e26, hf⟩ := dr_some hf
        obtain ⟨g27, hf⟩ := gd_some hf
        obtain ⟨g28, hf⟩ := gd_some hf
        obtain ⟨g29, hf⟩ := gd_some hf
        obtain ⟨h30, eh31, hf⟩ := nm_some hf
        have K32 := K12.trans (kw_R eh31 (isK_eq g27) (Or.inr (by decide)))
        cases (Option.some.inj hf)
        exact K32
    · rw [if_neg c13] at hf
      obtain ⟨a33, e34, hf⟩ := dr_some hf
      obtain ⟨g35, hf⟩ := gd_some hf
      obtain ⟨g36, hf⟩ := gd_some hf
      obtain ⟨v39, h37, ec38, hf⟩ := cl_some hf
      have K40 := K12.trans ((fr_P_writeMap (C := C) (mi := mi) ec38).mono (by decide) (by decide))
      obtain ⟨a41, e42, hf⟩ := dr_some hf
      obtain ⟨g43, hf⟩ := gd_some hf
      obtain ⟨g44, hf⟩ := gd_some hf
      obtain ⟨g45, hf⟩ := gd_some hf
      obtain ⟨h46, eh47, hf⟩ := nm_some hf
      have K48 := K40.trans (kw_R eh47 (isK_eq g43) (Or.inr (by decide)))
      cases (Option.some.inj hf)
      exact K48
def l_P_writeTouched_13 (y0 : Nat) (y1 : Option Nat) (y3 : Option Nat) (y4 : Option Nat) (s : Int32 × Hp) : Option (Hp) := lp (fun s => b_P_writeTouched_13 y0 y1 y3 y4 s.1 s.2) FU s
theorem zzl_P_writeTouched_13 {l : Launch} {C : Ct} {mi : Nat} {y0 : Nat} {y1 : Option Nat} {y3 : Option Nat} {y4 : Option Nat} {h' : Hp} : ∀ (n : Nat) (s : Int32 × Hp) (x : (Hp)), lp (fun s : Int32 × Hp => b_P_writeTouched_13 y0 y1 y3 y4 s.1 s.2) n s = some x → Z l C mi m_P_writeTouched 5 72 [(1, vr y1), (4, vr y4)] [] x none h' → Z l C mi m_P_writeTouched 5 13 [(0, vr (some y0)), (1, vr y1), (3, vr y3), (4, vr y4), (5, vi s.1)] [] s.2 none h' := by
  intro n
  induction n with
  | zero => intro s x hl; cases hl
  | succ n ih =>
    intro s x hl ke
    rcases lp_some hl with ⟨s2, hb, hl2⟩ | hb
    · exact zb_P_writeTouched_13 hb (fun s3 e3 => by cases e3; refine z_ls [0, 1, 2, 3, 4] rfl ?_; exact ih s2 x hl2 ke) (fun x e3 => by cases e3)
    · exact zb_P_writeTouched_13 hb (fun s3 e3 => by cases e3) (fun x e3 => by cases e3; exact ke)
theorem zl_P_writeTouched_13 {l : Launch} {C : Ct} {mi : Nat} {y0 : Nat} {y1 : Option Nat} {y3 : Option Nat} {y4 : Option Nat} {h' : Hp} {s : Int32 × Hp} {x : (Hp)} (hl : l_P_writeTouched_13 y0 y1 y3 y4 s = some x) (ke : Z l C mi m_P_writeTouched 5 72 [(1, vr y1), (4, vr y4)] [] x none h') : Z l C mi m_P_writeTouched 5 13 [(0, vr (some y0)), (1, vr y1), (3, vr y3), (4, vr y4), (5, vi s.1)] [] s.2 none h' := zzl_P_writeTouched_13 FU s x hl ke
theorem kl_P_writeTouched_13 {C : Ct} {mi : Nat} {y0 : Nat} {y1 : Option Nat} {y3 : Option Nat} {y4 : Option Nat} {s : Int32 × Hp} {q : (Hp)} (hl : l_P_writeTouched_13 y0 y1 y3 y4 s = some q) : Keep W_P_writeTouched s.2 ((fun x : Hp => x) q) := lpk (sh := (fun s : Int32 × Hp => s.2)) (rh := (fun x : Hp => x)) (fun s q hb => kb_P_writeTouched_13 (C := C) (mi := mi) hb) FU s q hl
def f_P_writeTouched (a0 : Nat) (p1 : Option Nat) (p2 : Int32) (p3 : Option Nat) (h : Hp) : Option Hp :=
  nm (nw h 4 0 5) fun h1 => cv (f_E_init (hpN h) p2 h1) fun h4 => bd (l_P_writeTouched_13 a0 p1 p3 (some (hpN h)) ((0 : Int32), h4)) fun x49 => dr p1 fun a52 => gd (isK x49 a52 2) (cv (f_K_close a52 (some (hpN h)) x49) fun h55 => some h55)
set_option maxRecDepth 100000 in
set_option maxHeartbeats 4000000 in
theorem zf_P_writeTouched {l : Launch} {C : Ct} {mi : Nat} {a0 : Nat} {p1 : Option Nat} {p2 : Int32} {p3 : Option Nat} {h h' : Hp} (hf : f_P_writeTouched a0 p1 p2 p3 h = some h') : Z l C mi m_P_writeTouched 5 0 [(0, vr (some a0)), (1, vr p1), (2, vi p2), (3, vr p3)] [] h none h' := by
  unfold f_P_writeTouched at hf
  obtain ⟨h1, eh2, hf⟩ := nm_some hf
  refine z_new (κ := 4) d_P_writeTouched_0 rfl (by decide +kernel) ?_
  refine z_hp eh2 ?_
  refine z_dup d_P_writeTouched_3 rfl ?_
  refine z_iload_n 2 d_P_writeTouched_4 rfl rfl ?_
  obtain ⟨h4, ec5, hf⟩ := cv_some hf
  refine z_callI (c_E_init ec5) d_P_writeTouched_5 rfl cw_E_init lk_P_74 im_E_init rfl ⟨by decide, by decide⟩ (Nat.le_of_ble_eq_true rfl) rfl ?_
  refine z_astore (ls2 := [(4, vr (some (hpN h))), (0, vr (some a0)), (1, vr p1), (2, vi p2), (3, vr p3)]) d_P_writeTouched_8 (by decide) rfl ?_
  refine z_iconst (v := (0 : Int32)) d_P_writeTouched_10 rfl ?_
  refine z_istore (ls2 := [(5, vi (0 : Int32)), (4, vr (some (hpN h))), (0, vr (some a0)), (1, vr p1), (2, vi p2), (3, vr p3)]) d_P_writeTouched_11 (by decide) rfl ?_
  obtain ⟨x49, el50, hf⟩ := bd_some hf
  refine z_ls [2, 3, 5, 1, 0] rfl ?_
  refine zl_P_writeTouched_13 el50 ?_
  refine z_aload_n 0 d_P_writeTouched_72 rfl rfl ?_
  refine z_aload 1 d_P_writeTouched_73 rfl ?_
  obtain ⟨a52, e53, hf⟩ := dr_some hf
  obtain ⟨g54, hf⟩ := gd_some hf
  obtain ⟨h55, ec56, hf⟩ := cv_some hf
  refine z_callVx e53 (c_K_close ec56) d_P_writeTouched_75 cw_K_close lk_P_84 im_K_close se_K_close (kc_K (isK_eq g54) kc_2) ⟨by decide, by decide⟩ (Nat.le_of_ble_eq_true rfl) rfl ?_
  cases (Option.some.inj hf)
  exact z_ret d_P_writeTouched_78 rfl
set_option maxRecDepth 100000 in
set_option maxHeartbeats 4000000 in
theorem fr_P_writeTouched {C : Ct} {mi : Nat} {a0 : Nat} {p1 : Option Nat} {p2 : Int32} {p3 : Option Nat} {h h' : Hp} (hf : f_P_writeTouched a0 p1 p2 p3 h = some h') : Keep W_P_writeTouched h h' := by
  unfold f_P_writeTouched at hf
  obtain ⟨h1, eh2, hf⟩ := nm_some hf
  have K3 := (Keep.refl W_P_writeTouched _).trans (kw_N eh2)
  obtain ⟨h4, ec5, hf⟩ := cv_some hf
  have K6 := K3.trans ((fr_E_init (C := C) (mi := mi) ec5).mono (by decide) (by decide))
  obtain ⟨x49, el50, hf⟩ := bd_some hf
  have K51 := K6.trans (kl_P_writeTouched_13 (C := C) (mi := mi) el50)
  obtain ⟨a52, e53, hf⟩ := dr_some hf
  obtain ⟨g54, hf⟩ := gd_some hf
  obtain ⟨h55, ec56, hf⟩ := cv_some hf
  have K57 := K51.trans ((fr_K_close (C := C) (mi := mi) ec56).mono (by decide) (by decide))
  cases (Option.some.inj hf)
  exact K57
theorem c_P_writeTouched {l : Launch} {C : Ct} {mi : Nat} {a0 : Nat} {p1 : Option Nat} {p2 : Int32} {p3 : Option Nat} {h h' : Hp} (hf : f_P_writeTouched a0 p1 p2 p3 h = some h') : Mt l C mi m_P_writeTouched 5 [vr (some a0), vr p1, vi p2, vr p3] h none h' := mt_V rfl rfl (by decide) (Nat.le_of_ble_eq_true rfl) (zf_P_writeTouched hf)
-- VersionMaps$Present.forgetTouched()V
def m_P_forgetTouched : Mi := (⟨"VersionMaps$Present", "forgetTouched", "()V"⟩, prog_7_method_8_code, 1, (Option.none : Option Jvm.ClassFile.FieldType), .return_)
theorem cw_P_forgetTouched : cw_ok m_P_forgetTouched 0 := ⟨by decide +kernel, by decide +kernel, by decide +kernel, by decide +kernel⟩
theorem im_P_forgetTouched : Cond.instanceMethod m_P_forgetTouched.1 ∈ lw_w := by decide +kernel
theorem se_P_forgetTouched : Cond.selects "VersionMaps$Present" m_P_forgetTouched.1 m_P_forgetTouched.1 ∈ lw_w := by decide +kernel
theorem d_P_forgetTouched_0 : decode prog_7_method_8_code 0 = .ok (.aload_n 0, 1) := by decide +kernel
theorem d_P_forgetTouched_1 : decode prog_7_method_8_code 1 = .ok (.iconst 0, 1) := by decide +kernel
theorem d_P_forgetTouched_2 : decode prog_7_method_8_code 2 = .ok (.putfield 18, 3) := by decide +kernel
theorem d_P_forgetTouched_5 : decode prog_7_method_8_code 5 = .ok (.aload_n 0, 1) := by decide +kernel
theorem d_P_forgetTouched_6 : decode prog_7_method_8_code 6 = .ok (.iconst 0, 1) := by decide +kernel
theorem d_P_forgetTouched_7 : decode prog_7_method_8_code 7 = .ok (.putfield 22, 3) := by decide +kernel
theorem d_P_forgetTouched_10 : decode prog_7_method_8_code 10 = .ok (.return_, 1) := by decide +kernel
def W_P_forgetTouched : Wl := ([(5, 2), (5, 3)], [])
def f_P_forgetTouched (a0 : Nat) (h : Hp) : Option Hp :=
  gd (isK h a0 5) (nm (wI h a0 2 (0 : Int32)) fun h2 => nm (wI h2 a0 3 (0 : Int32)) fun h5 => some h5)
set_option maxRecDepth 100000 in
set_option maxHeartbeats 4000000 in
theorem zf_P_forgetTouched {l : Launch} {C : Ct} {mi : Nat} {a0 : Nat} {h h' : Hp} (hf : f_P_forgetTouched a0 h = some h') : Z l C mi m_P_forgetTouched 0 0 [(0, vr (some a0))] [] h none h' := by
  unfold f_P_forgetTouched at hf
  refine z_aload_n 0 d_P_forgetTouched_0 rfl rfl ?_
  refine z_iconst (v := (0 : Int32)) d_P_forgetTouched_1 rfl ?_
  obtain ⟨g1, hf⟩ := gd_some hf
  obtain ⟨h2, eh3, hf⟩ := nm_some hf
  refine z_putI d_P_forgetTouched_2 (fl_K (isK_eq g1) fl_P_18_5) (pu_K (isK_eq g1) (fun q hq => by cases (Option.some.inj hq); exact Or.inl rfl)) (fi_K (isK_eq g1) rfl) rfl ?_
  refine z_hp eh3 ?_
  refine z_aload_n 0 d_P_forgetTouched_5 rfl rfl ?_
  refine z_iconst (v := (0 : Int32)) d_P_forgetTouched_6 rfl ?_
  obtain ⟨h5, eh6, hf⟩ := nm_some hf
  refine z_putI d_P_forgetTouched_7 (fl_K (isK_eq (isK_wI eh3 g1)) fl_P_22_5) (pu_K (isK_eq (isK_wI eh3 g1)) (fun q hq => by cases (Option.some.inj hq); exact Or.inl rfl)) (fi_K (isK_eq (isK_wI eh3 g1)) rfl) rfl ?_
  refine z_hp eh6 ?_
  cases (Option.some.inj hf)
  exact z_ret d_P_forgetTouched_10 rfl
set_option maxRecDepth 100000 in
set_option maxHeartbeats 4000000 in
theorem fr_P_forgetTouched {C : Ct} {mi : Nat} {a0 : Nat} {h h' : Hp} (hf : f_P_forgetTouched a0 h = some h') : Keep W_P_forgetTouched h h' := by
  unfold f_P_forgetTouched at hf
  obtain ⟨g1, hf⟩ := gd_some hf
  obtain ⟨h2, eh3, hf⟩ := nm_some hf
  have K4 := (Keep.refl W_P_forgetTouched _).trans (kw_I eh3 (isK_eq g1) (Or.inl (by decide)))
  obtain ⟨h5, eh6, hf⟩ := nm_some hf
  have K7 := K4.trans (kw_I eh6 (isK_eq (isK_wI eh3 g1)) (Or.inl (by decide)))
  cases (Option.some.inj hf)
  exact K7
theorem c_P_forgetTouched {l : Launch} {C : Ct} {mi : Nat} {a0 : Nat} {h h' : Hp} (hf : f_P_forgetTouched a0 h = some h') : Mt l C mi m_P_forgetTouched 0 [vr (some a0)] h none h' := mt_V rfl rfl (by decide) (Nat.le_of_ble_eq_true rfl) (zf_P_forgetTouched hf)
-- VersionMaps$Chunk.blockCount()I
def m_K_blockCount : Mi := (⟨"VersionMaps$Chunk", "blockCount", "()I"⟩, prog_3_method_4_code, 1, (Option.some Jvm.ClassFile.FieldType.int), .ireturn)
theorem cw_K_blockCount : cw_ok m_K_blockCount 0 := ⟨by decide +kernel, by decide +kernel, by decide +kernel, by decide +kernel⟩
theorem im_K_blockCount : Cond.instanceMethod m_K_blockCount.1 ∈ lw_w := by decide +kernel
theorem se_K_blockCount : Cond.selects "VersionMaps$Chunk" m_K_blockCount.1 m_K_blockCount.1 ∈ lw_w := by decide +kernel
theorem d_K_blockCount_0 : decode prog_3_method_4_code 0 = .ok (.aload_n 0, 1) := by decide +kernel
theorem d_K_blockCount_1 : decode prog_3_method_4_code 1 = .ok (.getfield 25, 3) := by decide +kernel
theorem d_K_blockCount_4 : decode prog_3_method_4_code 4 = .ok (.arraylength, 1) := by decide +kernel
theorem d_K_blockCount_5 : decode prog_3_method_4_code 5 = .ok (.invokestatic 40, 3) := by decide +kernel
theorem d_K_blockCount_8 : decode prog_3_method_4_code 8 = .ok (.ireturn, 1) := by decide +kernel
def W_K_blockCount : Wl := ([], [])
def f_K_blockCount (a0 : Nat) (h : Hp) : Option (Int32 × Hp) :=
  gd (isK h a0 2) (dr (hpR h a0 2) fun a2 => gd (isK h a2 103) (cl (f_X_blocksFor (Int32.ofNat (hpL h a2)) h) fun v7 h5 => some (v7, h5)))
set_option maxRecDepth 100000 in
set_option maxHeartbeats 4000000 in
theorem zf_K_blockCount {l : Launch} {C : Ct} {mi : Nat} {a0 : Nat} {h h' : Hp} {v : Int32} (hf : f_K_blockCount a0 h = some (v, h')) : Z l C mi m_K_blockCount 1 0 [(0, vr (some a0))] [] h (some (vi v)) h' := by
  unfold f_K_blockCount at hf
  refine z_aload_n 0 d_K_blockCount_0 rfl rfl ?_
  obtain ⟨g1, hf⟩ := gd_some hf
  refine z_getR d_K_blockCount_1 (fl_K (isK_eq g1) fl_K_25_2) (fi_K (isK_eq g1) rfl) rfl ?_
  obtain ⟨a2, e3, hf⟩ := dr_some hf
  obtain ⟨g4, hf⟩ := gd_some hf
  refine z_alen d_K_blockCount_4 e3 (by rw [isK_eq g4]; decide) ?_
  obtain ⟨v7, h5, ec6, hf⟩ := cl_some hf
  refine z_callSN (host := "VersionMaps") (c_X_blocksFor ec6) d_K_blockCount_5 cw_X_blocksFor lk_K_40 (by decide +kernel) ⟨by decide, by decide⟩ (Nat.le_of_ble_eq_true rfl) rfl ?_
  obtain ⟨rfl, rfl⟩ := Prod.mk.inj (Option.some.inj hf)
  exact z_ret d_K_blockCount_8 rfl
set_option maxRecDepth 100000 in
set_option maxHeartbeats 4000000 in
theorem fr_K_blockCount {C : Ct} {mi : Nat} {a0 : Nat} {h h' : Hp} {v : Int32} (hf : f_K_blockCount a0 h = some (v, h')) : Keep W_K_blockCount h h' := by
  unfold f_K_blockCount at hf
  obtain ⟨g1, hf⟩ := gd_some hf
  obtain ⟨a2, e3, hf⟩ := dr_some hf
  obtain ⟨g4, hf⟩ := gd_some hf
  obtain ⟨v7, h5, ec6, hf⟩ := cl_some hf
  have K8 := (Keep.refl W_K_blockCount _).trans ((fr_X_blocksFor (C := C) (mi := mi) ec6).mono (by decide) (by decide))
  obtain ⟨rfl, rfl⟩ := Prod.mk.inj (Option.some.inj hf)
  exact K8
theorem c_K_blockCount {l : Launch} {C : Ct} {mi : Nat} {a0 : Nat} {h h' : Hp} {v : Int32} (hf : f_K_blockCount a0 h = some (v, h')) : Mt l C mi m_K_blockCount 1 [vr (some a0)] h (some (vi v)) h' := mt_I (ty := .int) rfl rfl rfl (by decide) (Nat.le_of_ble_eq_true rfl) (zf_K_blockCount hf)
-- VersionMaps$Root.markLive(I)V
def m_O_markLive : Mi := (⟨"VersionMaps$Root", "markLive", "(I)V"⟩, prog_8_method_2_code, 3, (Option.none : Option Jvm.ClassFile.FieldType), .return_)
theorem cw_O_markLive : cw_ok m_O_markLive 1 := ⟨by decide +kernel, by decide +kernel, by decide +kernel, by decide +kernel⟩
theorem im_O_markLive : Cond.instanceMethod m_O_markLive.1 ∈ lw_w := by decide +kernel
theorem se_O_markLive : Cond.selects "VersionMaps$Root" m_O_markLive.1 m_O_markLive.1 ∈ lw_w := by decide +kernel
theorem d_O_markLive_0 : decode prog_8_method_2_code 0 = .ok (.aload_n 0, 1) := by decide +kernel
theorem d_O_markLive_1 : decode prog_8_method_2_code 1 = .ok (.iload_n 1, 1) := by decide +kernel
theorem d_O_markLive_2 : decode prog_8_method_2_code 2 = .ok (.putfield 17, 3) := by decide +kernel
theorem d_O_markLive_5 : decode prog_8_method_2_code 5 = .ok (.iconst 0, 1) := by decide +kernel
theorem d_O_markLive_6 : decode prog_8_method_2_code 6 = .ok (.istore_n 2, 1) := by decide +kernel
theorem d_O_markLive_7 : decode prog_8_method_2_code 7 = .ok (.iload_n 2, 1) := by decide +kernel
theorem d_O_markLive_8 : decode prog_8_method_2_code 8 = .ok (.iconst 4, 1) := by decide +kernel
theorem d_O_markLive_9 : decode prog_8_method_2_code 9 = .ok (.if_icmp .ge 28, 3) := by decide +kernel
theorem d_O_markLive_12 : decode prog_8_method_2_code 12 = .ok (.aload_n 0, 1) := by decide +kernel
theorem d_O_markLive_13 : decode prog_8_method_2_code 13 = .ok (.getfield 11, 3) := by decide +kernel
theorem d_O_markLive_16 : decode prog_8_method_2_code 16 = .ok (.iload_n 2, 1) := by decide +kernel
theorem d_O_markLive_17 : decode prog_8_method_2_code 17 = .ok (.aaload, 1) := by decide +kernel
theorem d_O_markLive_18 : decode prog_8_method_2_code 18 = .ok (.ifnull 13, 3) := by decide +kernel
theorem d_O_markLive_21 : decode prog_8_method_2_code 21 = .ok (.aload_n 0, 1) := by decide +kernel
theorem d_O_markLive_22 : decode prog_8_method_2_code 22 = .ok (.getfield 11, 3) := by decide +kernel
theorem d_O_markLive_25 : decode prog_8_method_2_code 25 = .ok (.iload_n 2, 1) := by decide +kernel
theorem d_O_markLive_26 : decode prog_8_method_2_code 26 = .ok (.aaload, 1) := by decide +kernel
theorem d_O_markLive_27 : decode prog_8_method_2_code 27 = .ok (.iload_n 1, 1) := by decide +kernel
theorem d_O_markLive_28 : decode prog_8_method_2_code 28 = .ok (.putfield 21, 3) := by decide +kernel
theorem d_O_markLive_31 : decode prog_8_method_2_code 31 = .ok (.iinc 2 1, 3) := by decide +kernel
theorem d_O_markLive_34 : decode prog_8_method_2_code 34 = .ok (.goto (-27), 3) := by decide +kernel
theorem d_O_markLive_37 : decode prog_8_method_2_code 37 = .ok (.return_, 1) := by decide +kernel
def W_O_markLive : Wl := ([(3, 2), (6, 2)], [])
def b_O_markLive_7 (y0 : Nat) (y1 : Int32) (y2 : Int32) (h : Hp) : Option ((Int32 × Hp) ⊕ (Hp)) :=
  if (4 : Int32) ≤ y2 then (some (.inr h)) else (gd (isK h y0 6) (dr (hpR h y0 3) fun a7 => gd (isK h a7 105) (gd (inb y2 (hpL h a7)) (if (hpR h a7 y2.toNatClampNeg) = none then (some (.inl ((y2 + (1 : Int32)), h))) else (dr (hpR h a7 y2.toNatClampNeg) fun a12 => gd (isK h a12 3) (nm (wI h a12 2 y1) fun h15 => some (.inl ((y2 + (1 : Int32)), h15))))))))
set_option maxRecDepth 100000 in
set_option maxHeartbeats 4000000 in
theorem zb_O_markLive_7 {l : Launch} {C : Ct} {mi : Nat} {y0 : Nat} {y1 : Int32} {y2 : Int32} {h h' : Hp} {q : ((Int32 × Hp) ⊕ (Hp))} (hf : b_O_markLive_7 y0 y1 y2 h = some q) (kc : ∀ s, q = .inl s → Z l C mi m_O_markLive 0 7 [(0, vr (some y0)), (1, vi y1), (2, vi s.1)] [] s.2 none h') (ke : ∀ x, q = .inr x → Z l C mi m_O_markLive 0 37 [] [] x none h') : Z l C mi m_O_markLive 0 7 [(0, vr (some y0)), (1, vi y1), (2, vi y2)] [] h none h' := by
  unfold b_O_markLive_7 at hf
  refine z_iload_n 2 d_O_markLive_7 rfl rfl ?_
  refine z_iconst (v := (4 : Int32)) d_O_markLive_8 rfl ?_
  refine z_icmp_ge (tgt := 37) d_O_markLive_9 (by decide) (fun c5 => ?_) (fun c5 => ?_)
  · rw [if_pos c5] at hf
    refine z_ls [] rfl ?_
    exact ke h (Option.some.inj hf).symm
  · rw [if_neg c5] at hf
    refine z_aload_n 0 d_O_markLive_12 rfl rfl ?_
    obtain ⟨g6, hf⟩ := gd_some hf
    refine z_getR d_O_markLive_13 (fl_K (isK_eq g6) fl_O_11_6) (fi_K (isK_eq g6) rfl) rfl ?_
    refine z_iload_n 2 d_O_markLive_16 rfl rfl ?_
    obtain ⟨a7, e8, hf⟩ := dr_some hf
    obtain ⟨g9, hf⟩ := gd_some hf
    obtain ⟨g10, hf⟩ := gd_some hf
    refine z_aald d_O_markLive_17 e8 (by rw [isK_eq g9]; decide) (by rw [isK_eq g9]; decide) (inb_vp g10) ?_
    refine z_ifnull (tgt := 31) d_O_markLive_18 (by decide) (fun c11 => ?_) (fun c11 => ?_)
    · rw [if_pos c11] at hf
      refine z_iinc (ls2 := [(2, vi (y2 + (1 : Int32))), (0, vr (some y0)), (1, vi y1)]) 2 d_O_markLive_31 rfl rfl (by decide) rfl ?_
      refine z_goto (tgt := 7) d_O_markLive_34 (by decide) ?_
      refine z_ls [1, 2, 0] rfl ?_
      exact kc ((y2 + (1 : Int32)), h) (Option.some.inj hf).symm
    · rw [if_neg c11] at hf
      refine z_aload_n 0 d_O_markLive_21 rfl rfl ?_
      refine z_getR d_O_markLive_22 (fl_K (isK_eq g6) fl_O_11_6) (fi_K (isK_eq g6) rfl) rfl ?_
      refine z_iload_n 2 d_O_markLive_25 rfl rfl ?_
      refine z_aald d_O_markLive_26 e8 (by rw [isK_eq g9]; decide) (by rw [isK_eq g9]; decide) (inb_vp g10) ?_
      refine z_iload_n 1 d_O_markLive_27 rfl rfl ?_
      obtain ⟨a12, e13, hf⟩ := dr_some hf
      obtain ⟨g14, hf⟩ := gd_some hf
      obtain ⟨h15, eh16, hf⟩ := nm_some hf
      refine z_putI d_O_markLive_28 (fl_K (isK_eq g14) fl_O_21_3) (pu_K (isK_eq g14) (fun q hq => by cases (Option.some.inj hq); exact Or.inl rfl)) (fi_K (isK_eq g14) rfl) e13 ?_
      refine z_hp eh16 ?_
      refine z_iinc (ls2 := [(2, vi (y2 + (1 : Int32))), (0, vr (some y0)), (1, vi y1)]) 2 d_O_markLive_31 rfl rfl (by decide) rfl ?_
      refine z_goto (tgt := 7) d_O_markLive_34 (by decide) ?_
      refine z_ls [1, 2, 0] rfl ?_
      exact kc ((y2 + (1 : Int32)), h15) (Option.some.inj hf).symm
set_option maxRecDepth 100000 in
set_option maxHeartbeats 4000000 in
theorem kb_O_markLive_7 {C : Ct} {mi : Nat} {y0 : Nat} {y1 : Int32} {y2 : Int32} {h : Hp} {q : ((Int32 × Hp) ⊕ (Hp))} (hf : b_O_markLive_7 y0 y1 y2 h = some q) : Keep W_O_markLive h (Sum.elim (fun s : Int32 × Hp => s.2) (fun x : Hp => x) q) := by
  unfold b_O_markLive_7 at hf
  rcases Classical.em ((4 : Int32) ≤ y2) with c5 | c5
  · rw [if_pos c5] at hf
    cases (Option.some.inj hf)
    exact (Keep.refl W_O_markLive _)
  · rw [if_neg c5] at hf
    obtain ⟨g6, hf⟩ := gd_some hf
    obtain ⟨a7, e8, hf⟩ := dr_some hf
    obtain ⟨g9, hf⟩ := gd_some hf
    obtain ⟨g10, hf⟩ := gd_some hf
    rcases Classical.em ((hpR h a7 y2.toNatClampNeg) = none) with c11 | c11
    · rw [if_pos c11] at hf
      cases (Option.some.inj hf)
      exact (Keep.refl W_O_markLive _)
    · rw [if_neg c11] at hf
      obtain ⟨a12, e13, hf⟩ := dr_some hf
      obtain ⟨g14, hf⟩ := gd_some hf
      obtain ⟨h15, eh16, hf⟩ := nm_some hf
      have K17 := (Keep.refl W_O_markLive _).trans (kw_I eh16 (isK_eq g14) (Or.inl (by decide)))
      cases (Option.some.inj hf)
      exact K17
def l_O_markLive_7 (y0 : Nat) (y1 : Int32) (s : Int32 × Hp) : Option (Hp) := lp (fun s => b_O_markLive_7 y0 y1 s.1 s.2) FU s
theorem zzl_O_markLive_7 {l : Launch} {C : Ct} {mi : Nat} {y0 : Nat} {y1 : Int32} {h' : Hp} : ∀ (n : Nat) (s : Int32 × Hp) (x : (Hp)), lp (fun s : Int32 × Hp => b_O_markLive_7 y0 y1 s.1 s.2) n s = some x → Z l C mi m_O_markLive 0 37 [] [] x none h' → Z l C mi m_O_markLive 0 7 [(0, vr (some y0)), (1, vi y1), (2, vi s.1)] [] s.2 none h' := by
  intro n
  induction n with
  | zero => intro s x hl; cases hl
  | succ n ih =>
    intro s x hl ke
    rcases lp_some hl with ⟨s2, hb, hl2⟩ | hb
    · exact zb_O_markLive_7 hb (fun s3 e3 => by cases e3; refine z_ls [0, 1, 2] rfl ?_; exact ih s2 x hl2 ke) (fun x e3 => by cases e3)
    · exact zb_O_markLive_7 hb (fun s3 e3 => by cases e3) (fun x e3 => by cases e3; exact ke)
theorem zl_O_markLive_7 {l : Launch} {C : Ct} {mi : Nat} {y0 : Nat} {y1 : Int32} {h' : Hp} {s : Int32 × Hp} {x : (Hp)} (hl : l_O_markLive_7 y0 y1 s = some x) (ke : Z l C mi m_O_markLive 0 37 [] [] x none h') : Z l C mi m_O_markLive 0 7 [(0, vr (some y0)), (1, vi y1), (2, vi s.1)] [] s.2 none h' := zzl_O_markLive_7 FU s x hl ke
theorem kl_O_markLive_7 {C : Ct} {mi : Nat} {y0 : Nat} {y1 : Int32} {s : Int32 × Hp} {q : (Hp)} (hl : l_O_markLive_7 y0 y1 s = some q) : Keep W_O_markLive s.2 ((fun x : Hp => x) q) := lpk (sh := (fun s : Int32 × Hp => s.2)) (rh := (fun x : Hp => x)) (fun s q hb => kb_O_markLive_7 (C := C) (mi := mi) hb) FU s q hl
def f_O_markLive (a0 : Nat) (p1 : Int32) (h : Hp) : Option Hp :=
  gd (isK h a0 6) (nm (wI h a0 2 p1) fun h2 => bd (l_O_markLive_7 a0 p1 ((0 : Int32), h2)) fun x18 => some x18)
set_option maxRecDepth 100000 in
set_option maxHeartbeats 4000000 in
theorem zf_O_markLive {l : Launch} {C : Ct} {mi : Nat} {a0 : Nat} {p1 : Int32} {h h' : Hp} (hf : f_O_markLive a0 p1 h = some h') : Z l C mi m_O_markLive 0 0 [(0, vr (some a0)), (1, vi p1)] [] h none h' := by
  unfold f_O_markLive at hf
  refine z_aload_n 0 d_O_markLive_0 rfl rfl ?_
  refine z_iload_n 1 d_O_markLive_1 rfl rfl ?_
  obtain ⟨g1, hf⟩ := gd_some hf
  obtain ⟨h2, eh3, hf⟩ := nm_some hf
  refine z_putI d_O_markLive_2 (fl_K (isK_eq g1) fl_O_17_6) (pu_K (isK_eq g1) (fun q hq => by cases (Option.some.inj hq); exact Or.inl rfl)) (fi_K (isK_eq g1) rfl) rfl ?_
  refine z_hp eh3 ?_
  refine z_iconst (v := (0 : Int32)) d_O_markLive_5 rfl ?_
  refine z_istore_n (ls2 := [(2, vi (0 : Int32)), (0, vr (some a0)), (1, vi p1)]) d_O_markLive_6 rfl (by decide) rfl ?_
  obtain ⟨x18, el19, hf⟩ := bd_some hf
  refine z_ls [1, 2, 0] rfl ?_
  refine zl_O_markLive_7 el19 ?_
  cases (Option.some.inj hf)
  exact z_ret d_O_markLive_37 rfl
set_option maxRecDepth 100000 in
set_option maxHeartbeats 4000000 in
theorem fr_O_markLive {C : Ct} {mi : Nat} {a0 : Nat} {p1 : Int32} {h h' : Hp} (hf : f_O_markLive a0 p1 h = some h') : Keep W_O_markLive h h' := by
  unfold f_O_markLive at hf
  obtain ⟨g1, hf⟩ := gd_some hf
  obtain ⟨h2, eh3, hf⟩ := nm_some hf
  have K4 := (Keep.refl W_O_markLive _).trans (kw_I eh3 (isK_eq g1) (Or.inl (by decide)))
  obtain ⟨x18, el19, hf⟩ := bd_some hf
  have K20 := K4.trans (kl_O_markLive_7 (C := C) (mi := mi) el19)
  cases (Option.some.inj hf)
  exact K20
theorem c_O_markLive {l : Launch} {C : Ct} {mi : Nat} {a0 : Nat} {p1 : Int32} {h h' : Hp} (hf : f_O_markLive a0 p1 h = some h') : Mt l C mi m_O_markLive 0 [vr (some a0), vi p1] h none h' := mt_V rfl rfl (by decide) (Nat.le_of_ble_eq_true rfl) (zf_O_markLive hf)
-- VersionMaps$Meta.markLive(I)V
def m_E_markLive : Mi := (⟨"VersionMaps$Meta", "markLive", "(I)V"⟩, prog_5_method_4_code, 3, (Option.none : Option Jvm.ClassFile.FieldType), .return_)
theorem cw_E_markLive : cw_ok m_E_markLive 1 := ⟨by decide +kernel, by decide +kernel, by decide +kernel, by decide +kernel⟩
theorem im_E_markLive : Cond.instanceMethod m_E_markLive.1 ∈ lw_w := by decide +kernel
theorem se_E_markLive : Cond.selects "VersionMaps$Meta" m_E_markLive.1 m_E_markLive.1 ∈ lw_w := by decide +kernel
theorem d_E_markLive_0 : decode prog_5_method_4_code 0 = .ok (.aload_n 0, 1) := by decide +kernel
theorem d_E_markLive_1 : decode prog_5_method_4_code 1 = .ok (.iload_n 1, 1) := by decide +kernel
theorem d_E_markLive_2 : decode prog_5_method_4_code 2 = .ok (.putfield 40, 3) := by decide +kernel
theorem d_E_markLive_5 : decode prog_5_method_4_code 5 = .ok (.iconst 0, 1) := by decide +kernel
theorem d_E_markLive_6 : decode prog_5_method_4_code 6 = .ok (.istore_n 2, 1) := by decide +kernel
theorem d_E_markLive_7 : decode prog_5_method_4_code 7 = .ok (.iload_n 2, 1) := by decide +kernel
theorem d_E_markLive_8 : decode prog_5_method_4_code 8 = .ok (.iconst 4, 1) := by decide +kernel
theorem d_E_markLive_9 : decode prog_5_method_4_code 9 = .ok (.if_icmp .ge 28, 3) := by decide +kernel
theorem d_E_markLive_12 : decode prog_5_method_4_code 12 = .ok (.aload_n 0, 1) := by decide +kernel
theorem d_E_markLive_13 : decode prog_5_method_4_code 13 = .ok (.getfield 11, 3) := by decide +kernel
theorem d_E_markLive_16 : decode prog_5_method_4_code 16 = .ok (.iload_n 2, 1) := by decide +kernel
theorem d_E_markLive_17 : decode prog_5_method_4_code 17 = .ok (.aaload, 1) := by decide +kernel
theorem d_E_markLive_18 : decode prog_5_method_4_code 18 = .ok (.ifnull 13, 3) := by decide +kernel
theorem d_E_markLive_21 : decode prog_5_method_4_code 21 = .ok (.aload_n 0, 1) := by decide +kernel
theorem d_E_markLive_22 : decode prog_5_method_4_code 22 = .ok (.getfield 11, 3) := by decide +kernel
theorem d_E_markLive_25 : decode prog_5_method_4_code 25 = .ok (.iload_n 2, 1) := by decide +kernel
theorem d_E_markLive_26 : decode prog_5_method_4_code 26 = .ok (.aaload, 1) := by decide +kernel
theorem d_E_markLive_27 : decode prog_5_method_4_code 27 = .ok (.iload_n 1, 1) := by decide +kernel
theorem d_E_markLive_28 : decode prog_5_method_4_code 28 = .ok (.invokevirtual 43, 3) := by decide +kernel
theorem d_E_markLive_31 : decode prog_5_method_4_code 31 = .ok (.iinc 2 1, 3) := by decide +kernel
theorem d_E_markLive_34 : decode prog_5_method_4_code 34 = .ok (.goto (-27), 3) := by decide +kernel
theorem d_E_markLive_37 : decode prog_5_method_4_code 37 = .ok (.return_, 1) := by decide +kernel
def W_E_markLive : Wl := ([(3, 2), (4, 2), (6, 2)], [])
def b_E_markLive_7 (y0 : Nat) (y1 : Int32) (y2 : Int32) (h : Hp) : Option ((Int32 × Hp) ⊕ (Hp)) :=
  if (4 : Int32) ≤ y2 then (some (.inr h)) else (gd (isK h y0 4) (dr (hpR h y0 4) fun a7 => gd (isK h a7 104) (gd (inb y2 (hpL h a7)) (if (hpR h a7 y2.toNatClampNeg) = none then (some (.inl ((y2 + (1 : Int32)), h))) else (dr (hpR h a7 y2.toNatClampNeg) fun a12 => gd (isK h a12 6) (cv (f_O_markLive a12 y1 h) fun h15 => some (.inl ((y2 + (1 : Int32)), h15))))))))
set_option maxRecDepth 100000 in
set_option maxHeartbeats 4000000 in
theorem zb_E_markLive_7 {l : Launch} {C : Ct} {mi : Nat} {y0 : Nat} {y1 : Int32} {y2 : Int32} {h h' : Hp} {q : ((Int32 × Hp) ⊕ (Hp))} (hf : b_E_markLive_7 y0 y1 y2 h = some q) (kc : ∀ s, q = .inl s → Z l C mi m_E_markLive 1 7 [(0, vr (some y0)), (1, vi y1), (2, vi s.1)] [] s.2 none h') (ke : ∀ x, q = .inr x → Z l C mi m_E_markLive 1 37 [] [] x none h') : Z l C mi m_E_markLive 1 7 [(0, vr (some y0)), (1, vi y1), (2, vi y2)] [] h none h' := by
  unfold b_E_markLive_7 at hf
  refine z_iload_n 2 d_E_markLive_7 rfl rfl ?_
  refine z_iconst (v := (4 : Int32)) d_E_markLive_8 rfl ?_
  refine z_icmp_ge (tgt := 37) d_E_markLive_9 (by decide) (fun c5 => ?_) (fun c5 => ?_)
  · rw [if_pos c5] at hf
    refine z_ls [] rfl ?_
    exact ke h (Option.some.inj hf).symm
  · rw [if_neg c5] at hf
    refine z_aload_n 0 d_E_markLive_12 rfl rfl ?_
    obtain ⟨g6, hf⟩ := gd_some hf
    refine z_getR d_E_markLive_13 (fl_K (isK_eq g6) fl_E_11_4) (fi_K (isK_eq g6) rfl) rfl ?_
    refine z_iload_n 2 d_E_markLive_16 rfl rfl ?_
    obtain ⟨a7, e8, hf⟩ := dr_some hf
    obtain ⟨g9, hf⟩ := gd_some hf
    obtain ⟨g10, hf⟩ := gd_some hf
    refine z_aald d_E_markLive_17 e8 (by rw [isK_eq g9]; decide) (by rw [isK_eq g9]; decide) (inb_vp g10) ?_
    refine z_ifnull (tgt := 31) d_E_markLive_18 (by decide) (fun c11 => ?_) (fun c11 => ?_)
    · rw [if_pos c11] at hf
      refine z_iinc (ls2 := [(2, vi (y2 + (1 : Int32))), (0, vr (some y0)), (1, vi y1)]) 2 d_E_markLive_31 rfl rfl (by decide) rfl ?_
      refine z_goto (tgt := 7) d_E_markLive_34 (by decide) ?_
      refine z_ls [1, 2, 0] rfl ?_
      exact kc ((y2 + (1 : Int32)), h) (Option.some.inj hf).symm
    · rw [if_neg c11] at hf
      refine z_aload_n 0 d_E_markLive_21 rfl rfl ?_
      refine z_getR d_E_markLive_22 (fl_K (isK_eq g6) fl_E_11_4) (fi_K (isK_eq g6) rfl) rfl ?_
      refine z_iload_n 2 d_E_markLive_25 rfl rfl ?_
      refine z_aald d_E_markLive_26 e8 (by rw [isK_eq g9]; decide) (by rw [isK_eq g9]; decide) (inb_vp g10) ?_
      refine z_iload_n 1 d_E_markLive_27 rfl rfl ?_
      obtain ⟨a12, e13, hf⟩ := dr_some hf
      obtain ⟨g14, hf⟩ := gd_some hf
      obtain ⟨h15, ec16, hf⟩ := cv_some hf
      refine z_callVx e13 (c_O_markLive ec16) d_E_markLive_28 cw_O_markLive lk_E_43 im_O_markLive se_O_markLive (kc_K (isK_eq g14) kc_6) ⟨by decide, by decide⟩ (Nat.le_of_ble_eq_true rfl) rfl ?_
      refine z_iinc (ls2 := [(2, vi (y2 + (1 : Int32))), (0, vr (some y0)), (1, vi y1)]) 2 d_E_markLive_31 rfl rfl (by decide) rfl ?_
      refine z_goto (tgt := 7) d_E_markLive_34 (by decide) ?_
      refine z_ls [1, 2, 0] rfl ?_
      exact kc ((y2 + (1 : Int32)), h15) (Option.some.inj hf).symm
set_option maxRecDepth 100000 in
set_option maxHeartbeats 4000000 in
theorem kb_E_markLive_7 {C : Ct} {mi : Nat} {y0 : Nat} {y1 : Int32} {y2 : Int32} {h : Hp} {q : ((Int32 × Hp) ⊕ (Hp))} (hf : b_E_markLive_7 y0 y1 y2 h = some q) : Keep W_E_markLive h (Sum.elim (fun s : Int32 × Hp => s.2) (fun x : Hp => x) q) := by
  unfold b_E_markLive_7 at hf
  rcases Classical.em ((4 : Int32) ≤ y2) with c5 | c5
  · rw [if_pos c5] at hf
    cases (Option.some.inj hf)
    exact (Keep.refl W_E_markLive _)
  · rw [if_neg c5] at hf
    obtain ⟨g6, hf⟩ := gd_some hf
    obtain ⟨a7, e8, hf⟩ := dr_some hf
    obtain ⟨g9, hf⟩ := gd_some hf
    obtain ⟨g10, hf⟩ := gd_some hf
    rcases Classical.em ((hpR h a7 y2.toNatClampNeg) = none) with c11 | c11
    · rw [if_pos c11] at hf
      cases (Option.some.inj hf)
      exact (Keep.refl W_E_markLive _)
    · rw [if_neg c11] at hf
      obtain ⟨a12, e13, hf⟩ := dr_some hf
      obtain ⟨g14, hf⟩ := gd_some hf
      obtain ⟨h15, ec16, hf⟩ := cv_some hf
      have K17 := (Keep.refl W_E_markLive _).trans ((fr_O_markLive (C := C) (mi := mi) ec16).mono (by decide) (by decide))
      cases (Option.some.inj hf)
      exact K17
def l_E_markLive_7 (y0 : Nat) (y1 : Int32) (s : Int32 × Hp) : Option (Hp) := lp (fun s => b_E_markLive_7 y0 y1 s.1 s.2) FU s
theorem zzl_E_markLive_7 {l : Launch} {C : Ct} {mi : Nat} {y0 : Nat} {y1 : Int32} {h' : Hp} : ∀ (n : Nat) (s : Int32 × Hp) (x : (Hp)), lp (fun s : Int32 × Hp => b_E_markLive_7 y0 y1 s.1 s.2) n s = some x → Z l C mi m_E_markLive 1 37 [] [] x none h' → Z l C mi m_E_markLive 1 7 [(0, vr (some y0)), (1, vi y1), (2, vi s.1)] [] s.2 none h' := by
  intro n
  induction n with
  | zero => intro s x hl; cases hl
  | succ n ih =>
    intro s x hl ke
    rcases lp_some hl with ⟨s2, hb, hl2⟩ | hb
    · exact zb_E_markLive_7 hb (fun s3 e3 => by cases e3; refine z_ls [0, 1, 2] rfl ?_; exact ih s2 x hl2 ke) (fun x e3 => by cases e3)
    · exact zb_E_markLive_7 hb (fun s3 e3 => by cases e3) (fun x e3 => by cases e3; exact ke)
theorem zl_E_markLive_7 {l : Launch} {C : Ct} {mi : Nat} {y0 : Nat} {y1 : Int32} {h' : Hp} {s : Int32 × Hp} {x : (Hp)} (hl : l_E_markLive_7 y0 y1 s = some x) (ke : Z l C mi m_E_markLive 1 37 [] [] x none h') : Z l C mi m_E_markLive 1 7 [(0, vr (some y0)), (1, vi y1), (2, vi s.1)] [] s.2 none h' := zzl_E_markLive_7 FU s x hl ke
theorem kl_E_markLive_7 {C : Ct} {mi : Nat} {y0 : Nat} {y1 : Int32} {s : Int32 × Hp} {q : (Hp)} (hl : l_E_markLive_7 y0 y1 s = some q) : Keep W_E_markLive s.2 ((fun x : Hp => x) q) := lpk (sh := (fun s : Int32 × Hp => s.2)) (rh := (fun x : Hp => x)) (fun s q hb => kb_E_markLive_7 (C := C) (mi := mi) hb) FU s q hl
def f_E_markLive (a0 : Nat) (p1 : Int32) (h : Hp) : Option Hp :=
  gd (isK h a0 4) (nm (wI h a0 2 p1) fun h2 => bd (l_E_markLive_7 a0 p1 ((0 : Int32), h2)) fun x18 => some x18)
set_option maxRecDepth 100000 in
set_option maxHeartbeats 4000000 in
theorem zf_E_markLive {l : Launch} {C : Ct} {mi : Nat} {a0 : Nat} {p1 : Int32} {h h' : Hp} (hf : f_E_markLive a0 p1 h = some h') : Z l C mi m_E_markLive 1 0 [(0, vr (some a0)), (1, vi p1)] [] h none h' := by
  unfold f_E_markLive at hf
  refine z_aload_n 0 d_E_markLive_0 rfl rfl ?_
  refine z_iload_n 1 d_E_markLive_1 rfl rfl ?_
  obtain ⟨g1, hf⟩ := gd_some hf
  obtain ⟨h2, eh3, hf⟩ := nm_some hf
  refine z_putI d_E_markLive_2 (fl_K (isK_eq g1) fl_E_40_4) (pu_K (isK_eq g1) (fun q hq => by cases (Option.some.inj hq); exact Or.inl rfl)) (fi_K (isK_eq g1) rfl) rfl ?_
  refine z_hp eh3 ?_
  refine z_iconst (v := (0 : Int32)) d_E_markLive_5 rfl ?_
  refine z_istore_n (ls2 := [(2, vi (0 : Int32)), (0, vr (some a0)), (1, vi p1)]) d_E_markLive_6 rfl (by decide) rfl ?_
  obtain ⟨x18, el19, hf⟩ := bd_some hf
  refine z_ls [1, 2, 0] rfl ?_
  refine zl_E_markLive_7 el19 ?_
  cases (Option.some.inj hf)
  exact z_ret d_E_markLive_37 rfl
set_option maxRecDepth 100000 in
set_option maxHeartbeats 4000000 in
theorem fr_E_markLive {C : Ct} {mi : Nat} {a0 : Nat} {p1 : Int32} {h h' : Hp} (hf : f_E_markLive a0 p1 h = some h') : Keep W_E_markLive h h' := by
  unfold f_E_markLive at hf
  obtain ⟨g1, hf⟩ := gd_some hf
  obtain ⟨h2, eh3, hf⟩ := nm_some hf
  have K4 := (Keep.refl W_E_markLive _).trans (kw_I eh3 (isK_eq g1) (Or.inl (by decide)))
  obtain ⟨x18, el19, hf⟩ := bd_some hf
  have K20 := K4.trans (kl_E_markLive_7 (C := C) (mi := mi) el19)
  cases (Option.some.inj hf)
  exact K20
theorem c_E_markLive {l : Launch} {C : Ct} {mi : Nat} {a0 : Nat} {p1 : Int32} {h h' : Hp} (hf : f_E_markLive a0 p1 h = some h') : Mt l C mi m_E_markLive 1 [vr (some a0), vi p1] h none h' := mt_V rfl rfl (by decide) (Nat.le_of_ble_eq_true rfl) (zf_E_markLive hf)
-- VersionMaps$Present.load(LVersionMaps$Meta;)V
def m_P_load : Mi := (⟨"VersionMaps$Present", "load", "(LVersionMaps$Meta;)V"⟩, prog_7_method_10_code, 5, (Option.none : Option Jvm.ClassFile.FieldType), .return_)
theorem cw_P_load : cw_ok m_P_load 1 := ⟨by decide +kernel, by decide +kernel, by decide +kernel, by decide +kernel⟩
theorem im_P_load : Cond.instanceMethod m_P_load.1 ∈ lw_w := by decide +kernel
theorem se_P_load : Cond.selects "VersionMaps$Present" m_P_load.1 m_P_load.1 ∈ lw_w := by decide +kernel
theorem d_P_load_0 : decode prog_7_method_10_code 0 = .ok (.aload_n 0, 1) := by decide +kernel
theorem d_P_load_1 : decode prog_7_method_10_code 1 = .ok (.invokevirtual 54, 3) := by decide +kernel
theorem d_P_load_4 : decode prog_7_method_10_code 4 = .ok (.iconst 0, 1) := by decide +kernel
theorem d_P_load_5 : decode prog_7_method_10_code 5 = .ok (.istore_n 2, 1) := by decide +kernel
theorem d_P_load_6 : decode prog_7_method_10_code 6 = .ok (.iload_n 2, 1) := by decide +kernel
theorem d_P_load_7 : decode prog_7_method_10_code 7 = .ok (.iconst 4, 1) := by decide +kernel
theorem d_P_load_8 : decode prog_7_method_10_code 8 = .ok (.if_icmp .ge 93, 3) := by decide +kernel
theorem d_P_load_11 : decode prog_7_method_10_code 11 = .ok (.aload_n 0, 1) := by decide +kernel
theorem d_P_load_12 : decode prog_7_method_10_code 12 = .ok (.getfield 15, 3) := by decide +kernel
theorem d_P_load_15 : decode prog_7_method_10_code 15 = .ok (.iload_n 2, 1) := by decide +kernel
theorem d_P_load_16 : decode prog_7_method_10_code 16 = .ok (.iconst 0, 1) := by decide +kernel
theorem d_P_load_17 : decode prog_7_method_10_code 17 = .ok (.iastore, 1) := by decide +kernel
theorem d_P_load_18 : decode prog_7_method_10_code 18 = .ok (.iconst 0, 1) := by decide +kernel
theorem d_P_load_19 : decode prog_7_method_10_code 19 = .ok (.istore_n 3, 1) := by decide +kernel
theorem d_P_load_20 : decode prog_7_method_10_code 20 = .ok (.iload_n 3, 1) := by decide +kernel
theorem d_P_load_21 : decode prog_7_method_10_code 21 = .ok (.iconst 4, 1) := by decide +kernel
theorem d_P_load_22 : decode prog_7_method_10_code 22 = .ok (.if_icmp .ge 73, 3) := by decide +kernel
theorem d_P_load_25 : decode prog_7_method_10_code 25 = .ok (.aload_n 1, 1) := by decide +kernel
theorem d_P_load_26 : decode prog_7_method_10_code 26 = .ok (.ifnonnull 7, 3) := by decide +kernel
theorem d_P_load_29 : decode prog_7_method_10_code 29 = .ok (.aconst_null, 1) := by decide +kernel
theorem d_P_load_30 : decode prog_7_method_10_code 30 = .ok (.goto 9, 3) := by decide +kernel
theorem d_P_load_33 : decode prog_7_method_10_code 33 = .ok (.aload_n 1, 1) := by decide +kernel
theorem d_P_load_34 : decode prog_7_method_10_code 34 = .ok (.iload_n 2, 1) := by decide +kernel
theorem d_P_load_35 : decode prog_7_method_10_code 35 = .ok (.iload_n 3, 1) := by decide +kernel
theorem d_P_load_36 : decode prog_7_method_10_code 36 = .ok (.invokevirtual 47, 3) := by decide +kernel
theorem d_P_load_39 : decode prog_7_method_10_code 39 = .ok (.astore 4, 2) := by decide +kernel
theorem d_P_load_41 : decode prog_7_method_10_code 41 = .ok (.aload 4, 2) := by decide +kernel
theorem d_P_load_43 : decode prog_7_method_10_code 43 = .ok (.ifnull 46, 3) := by decide +kernel
theorem d_P_load_46 : decode prog_7_method_10_code 46 = .ok (.aload_n 0, 1) := by decide +kernel
theorem d_P_load_47 : decode prog_7_method_10_code 47 = .ok (.getfield 15, 3) := by decide +kernel
theorem d_P_load_50 : decode prog_7_method_10_code 50 = .ok (.iload_n 2, 1) := by decide +kernel
theorem d_P_load_51 : decode prog_7_method_10_code 51 = .ok (.dup2, 1) := by decide +kernel
theorem d_P_load_52 : decode prog_7_method_10_code 52 = .ok (.iaload, 1) := by decide +kernel
theorem d_P_load_53 : decode prog_7_method_10_code 53 = .ok (.aload 4, 2) := by decide +kernel
theorem d_P_load_55 : decode prog_7_method_10_code 55 = .ok (.getfield 57, 3) := by decide +kernel
theorem d_P_load_58 : decode prog_7_method_10_code 58 = .ok (.bipush 8, 2) := by decide +kernel
theorem d_P_load_60 : decode prog_7_method_10_code 60 = .ok (.iload_n 3, 1) := by decide +kernel
theorem d_P_load_61 : decode prog_7_method_10_code 61 = .ok (.imul, 1) := by decide +kernel
theorem d_P_load_62 : decode prog_7_method_10_code 62 = .ok (.ishl, 1) := by decide +kernel
theorem d_P_load_63 : decode prog_7_method_10_code 63 = .ok (.ior, 1) := by decide +kernel
theorem d_P_load_64 : decode prog_7_method_10_code 64 = .ok (.iastore, 1) := by decide +kernel
theorem d_P_load_65 : decode prog_7_method_10_code 65 = .ok (.aload 4, 2) := by decide +kernel
theorem d_P_load_67 : decode prog_7_method_10_code 67 = .ok (.getfield 59, 3) := by decide +kernel
theorem d_P_load_70 : decode prog_7_method_10_code 70 = .ok (.iconst 0, 1) := by decide +kernel
theorem d_P_load_71 : decode prog_7_method_10_code 71 = .ok (.aload_n 0, 1) := by decide +kernel
theorem d_P_load_72 : decode prog_7_method_10_code 72 = .ok (.getfield 9, 3) := by decide +kernel
theorem d_P_load_75 : decode prog_7_method_10_code 75 = .ok (.bipush 32, 2) := by decide +kernel
theorem d_P_load_77 : decode prog_7_method_10_code 77 = .ok (.iload_n 2, 1) := by decide +kernel
theorem d_P_load_78 : decode prog_7_method_10_code 78 = .ok (.imul, 1) := by decide +kernel
theorem d_P_load_79 : decode prog_7_method_10_code 79 = .ok (.bipush 8, 2) := by decide +kernel
theorem d_P_load_81 : decode prog_7_method_10_code 81 = .ok (.iload_n 3, 1) := by decide +kernel
theorem d_P_load_82 : decode prog_7_method_10_code 82 = .ok (.imul, 1) := by decide +kernel
theorem d_P_load_83 : decode prog_7_method_10_code 83 = .ok (.iadd, 1) := by decide +kernel
theorem d_P_load_84 : decode prog_7_method_10_code 84 = .ok (.bipush 8, 2) := by decide +kernel
theorem d_P_load_86 : decode prog_7_method_10_code 86 = .ok (.invokestatic 60, 3) := by decide +kernel
theorem d_P_load_89 : decode prog_7_method_10_code 89 = .ok (.iinc 3 1, 3) := by decide +kernel
theorem d_P_load_92 : decode prog_7_method_10_code 92 = .ok (.goto (-72), 3) := by decide +kernel
theorem d_P_load_95 : decode prog_7_method_10_code 95 = .ok (.iinc 2 1, 3) := by decide +kernel
theorem d_P_load_98 : decode prog_7_method_10_code 98 = .ok (.goto (-92), 3) := by decide +kernel
theorem d_P_load_101 : decode prog_7_method_10_code 101 = .ok (.return_, 1) := by decide +kernel
def W_P_load : Wl := ([(5, 2), (5, 3)], [66, 67])
def j_P_load_39_L20 (y0 : Nat) (y1 : Option Nat) (y2 : Int32) (y3 : Int32) (w0 : Option Nat) (h : Hp) : Option ((Int32 × Hp) ⊕ (Hp)) :=
  if w0 = none then (some (.inl ((y3 + (1 : Int32)), h))) else (gd (isK h y0 5) (dr (hpR h y0 1) fun a25 => gd (isK h a25 67) (gd (inb y2 (hpL h a25)) (dr w0 fun a29 => gd (isK h a29 3) (nm (wI h a25 y2.toNatClampNeg ((hpI h a25 y2.toNatClampNeg) ||| ((hpI h a29 4) <<< (((8 : Int32) * y3) &&& 31)))) fun h32 => dr (hpR h32 a29 3) fun a35 => dr (hpR h32 y0 0) fun a37 => gd (isK h32 a35 106) (gd (isK h32 a37 66) (gd (cpB h32 a35 a37 (0 : Int32) (((32 : Int32) * y2) + ((8 : Int32) * y3)) (8 : Int32)) (nm (cpI h32 a35 (0 : Int32).toNatClampNeg a37 (((32 : Int32) * y2) + ((8 : Int32) * y3)).toNatClampNeg (8 : Int32).toNatClampNeg) fun h42 => some (.inl ((y3 + (1 : Int32)), h42))))))))))
set_option maxRecDepth 100000 in
set_option maxHeartbeats 4000000 in
theorem zj_P_load_39_L20 {l : Launch} {C : Ct} {mi : Nat} {y0 : Nat} {y1 : Option Nat} {y2 : Int32} {y3 : Int32} {w0 : Option Nat} {h h' : Hp} {q : ((Int32 × Hp) ⊕ (Hp))} (hf : j_P_load_39_L20 y0 y1 y2 y3 w0 h = some q) (kc : ∀ s, q = .inl s → Z l C mi m_P_load 1 20 [(0, vr (some y0)), (1, vr y1), (2, vi y2), (3, vi s.1)] [] s.2 none h') (ke : ∀ x, q = .inr x → Z l C mi m_P_load 1 95 [(0, vr (some y0)), (1, vr y1), (2, vi y2)] [] x none h') : Z l C mi m_P_load 1 39 [(0, vr (some y0)), (1, vr y1), (2, vi y2), (3, vi y3)] [vr w0] h none h' := by
  unfold j_P_load_39_L20 at hf
  refine z_astore (ls2 := [(4, vr w0), (0, vr (some y0)), (1, vr y1), (2, vi y2), (3, vi y3)]) d_P_load_39 (by decide) rfl ?_
  refine z_aload 0 d_P_load_41 rfl ?_
  refine z_ifnull (tgt := 89) d_P_load_43 (by decide) (fun c23 => ?_) (fun c23 => ?_)
  · rw [if_pos c23] at hf
    refine z_iinc (ls2 := [(3, vi (y3 + (1 : Int32))), (4, vr w0), (0, vr (some y0)), (1, vr y1), (2, vi y2)]) 4 d_P_load_89 rfl rfl (by decide) rfl ?_
    refine z_goto (tgt := 20) d_P_load_92 (by decide) ?_
    refine z_ls [2, 3, 4, 0] rfl ?_
    exact kc ((y3 + (1 : Int32)), h) (Option.some.inj hf).symm
  · rw [if_neg c23] at hf
    refine z_aload_n 1 d_P_load_46 rfl rfl ?_
    obtain ⟨g24, hf⟩ := gd_some hf
    refine z_getR d_P_load_47 (fl_K (isK_eq g24) fl_P_15_5) (fi_K (isK_eq g24) rfl) rfl ?_
    refine z_iload_n 3 d_P_load_50 rfl rfl ?_
    refine z_dup2 d_P_load_51 rfl rfl ?_
    obtain ⟨a25, e26, hf⟩ := dr_some hf
    obtain ⟨g27, hf⟩ := gd_some hf
    obtain ⟨g28, hf⟩ := gd_some hf
    refine z_iald d_P_load_52 e26 (by rw [isK_eq g27]; decide) (by rw [isK_eq g27]; rfl) (inb_vp g28) ?_
    refine z_aload 0 d_P_load_53 rfl ?_
    obtain ⟨a29, e30, hf⟩ := dr_some hf
    obtain ⟨g31, hf⟩ := gd_some hf
    refine z_getI d_P_load_55 (fl_K (isK_eq g31) fl_P_57_3) (fi_K (isK_eq g31) rfl) e30 ?_
    refine z_bipush (v := (8 : Int32)) d_P_load_58 (by decide) ?_
    refine z_iload_n 4 d_P_load_60 rfl rfl ?_
    refine z_imul d_P_load_61 ?_
    refine z_ishl d_P_load_62 ?_
    refine z_ior d_P_load_63 ?_
    obtain ⟨h32, eh33, hf⟩ := nm_some hf
    refine z_iast d_P_load_64 e26 (by rw [isK_eq g27]; decide) (by rw [isK_eq g27]; rfl) (inb_vp g28) ?_
    refine z_hp eh33 ?_
    refine z_aload 0 d_P_load_65 rfl ?_
    refine z_getR d_P_load_67 (fl_K (isK_eq (isK_wI eh33 g31)) fl_P_59_3) (fi_K (isK_eq (isK_wI eh33 g31)) rfl) e30 ?_
    refine z_iconst (v := (0 : Int32)) d_P_load_70 rfl ?_
    refine z_aload_n 1 d_P_load_71 rfl rfl ?_
    refine z_getR d_P_load_72 (fl_K (isK_eq (isK_wI eh33 g24)) fl_P_9_5) (fi_K (isK_eq (isK_wI eh33 g24)) rfl) rfl ?_
    refine z_bipush (v := (32 : Int32)) d_P_load_75 (by decide) ?_
    refine z_iload_n 3 d_P_load_77 rfl rfl ?_
    refine z_imul d_P_load_78 ?_
    refine z_bipush (v := (8 : Int32)) d_P_load_79 (by decide) ?_
    refine z_iload_n 4 d_P_load_81 rfl rfl ?_
    refine z_imul d_P_load_82 ?_
    refine z_iadd d_P_load_83 ?_
    refine z_bipush (v := (8 : Int32)) d_P_load_84 (by decide) ?_
    obtain ⟨a35, e36, hf⟩ := dr_some hf
    obtain ⟨a37, e38, hf⟩ := dr_some hf
    obtain ⟨g39, hf⟩ := gd_some hf
    obtain ⟨g40, hf⟩ := gd_some hf
    obtain ⟨g41, hf⟩ := gd_some hf
    obtain ⟨h42, eh43, hf⟩ := nm_some hf
    refine z_copyI d_P_load_86 (show Cond.methodLink _ _ _ ∈ lw_w by decide +kernel) (by decide) (Nat.le_of_ble_eq_true rfl) e36 e38 (by rw [isK_eq g39]; decide) (by rw [isK_eq g39]; rfl) (by rw [isK_eq g40]; decide) (by rw [isK_eq g40]; rfl) (cpB_eq g41).1 (cpB_eq g41).2.1 (cpB_eq g41).2.2.1 (cpB_eq g41).2.2.2.1 (cpB_eq g41).2.2.2.2 ?_
    refine z_hp eh43 ?_
    refine z_iinc (ls2 := [(3, vi (y3 + (1 : Int32))), (4, vr w0), (0, vr (some y0)), (1, vr y1), (2, vi y2)]) 4 d_P_load_89 rfl rfl (by decide) rfl ?_
    refine z_goto (tgt := 20) d_P_load_92 (by decide) ?_
    refine z_ls [2, 3, 4, 0] rfl ?_
    exact kc ((y3 + (1 : Int32)), h42) (Option.some.inj hf).symm
set_option maxRecDepth 100000 in
set_option maxHeartbeats 4000000 in
theorem kj_P_load_39_L20 {C : Ct} {mi : Nat} {y0 : Nat} {y1 : Option Nat} {y2 : Int32} {y3 : Int32} {w0 : Option Nat} {h : Hp} {q : ((Int32 × Hp) ⊕ (Hp))} (hf : j_P_load_39_L20 y0 y1 y2 y3 w0 h = some q) : Keep W_P_load h (Sum.elim (fun s : Int32 × Hp => s.2) (fun x : Hp => x) q) := by
  unfold j_P_load_39_L20 at hf
  rcases Classical.em (w0 = none) with c23 | c23
  · rw [if_pos c23] at hf
    cases (Option.some.inj hf)
    exact (Keep.refl W_P_load _)
  · rw [if_neg c23] at hf
    obtain ⟨g24, hf⟩ := gd_some hf
    obtain ⟨a25, e26, hf⟩ := dr_some hf
    obtain ⟨g27, hf⟩ := gd_some hf
    obtain ⟨g28, hf⟩ := gd_some hf
    obtain ⟨a29, e30, hf⟩ := dr_some hf
    obtain ⟨g31, hf⟩ := gd_some hf
    obtain ⟨h32, eh33, hf⟩ := nm_some hf
    have K34 := (Keep.refl W_P_load _).trans (kw_I eh33 (isK_eq g27) (Or.inr (by decide)))
    obtain ⟨a35, e36, hf⟩ := dr_some hf
    obtain ⟨a37, e38, hf⟩ := dr_some hf
    obtain ⟨g39, hf⟩ := gd_some hf
    obtain ⟨g40, hf⟩ := gd_some hf
    obtain ⟨g41, hf⟩ := gd_some hf
    obtain ⟨h42, eh43, hf⟩ := nm_some hf
    have K44 := K34.trans (kw_cI eh43 (isK_eq g40) (by decide))
    cases (Option.some.inj hf)
    exact K44
def b_P_load_20 (y0 : Nat) (y1 : Option Nat) (y2 : Int32) (y3 : Int32) (h : Hp) : Option ((Int32 × Hp) ⊕ (Hp)) :=
  if (4 : Int32) ≤ y3 then (some (.inr h)) else (if y1 = none then (j_P_load_39_L20 y0 y1 y2 y3 none h) else (dr y1 fun a16 => gd (isK h a16 4) (cl (f_E_leafOf a16 y2 y3 h) fun v21 h19 => j_P_load_39_L20 y0 y1 y2 y3 v21 h19)))
set_option maxRecDepth 100000 in
set_option maxHeartbeats 4000000 in
theorem zb_P_load_20 {l : Launch} {C : Ct} {mi : Nat} {y0 : Nat} {y1 : Option Nat} {y2 : Int32} {y3 : Int32} {h h' : Hp} {q : ((Int32 × Hp) ⊕ (Hp))} (hf : b_P_load_20 y0 y1 y2 y3 h = some q) (kc : ∀ s, q = .inl s → Z l C mi m_P_load 1 20 [(0, vr (some y0)), (1, vr y1), (2, vi y2), (3, vi s.1)] [] s.2 none h') (ke : ∀ x, q = .inr x → Z l C mi m_P_load 1 95 [(0, vr (some y0)), (1, vr y1), (2, vi y2)] [] x none h') : Z l C mi m_P_load 1 20 [(0, vr (some y0)), (1, vr y1), (2, vi y2), (3, vi y3)] [] h none h' := by
  unfold b_P_load_20 at hf
  refine z_iload_n 3 d_P_load_20 rfl rfl ?_
  refine z_iconst (v := (4 : Int32)) d_P_load_21 rfl ?_
  refine z_icmp_ge (tgt := 95) d_P_load_22 (by decide) (fun c14 => ?_) (fun c14 => ?_)
  · rw [if_pos c14] at hf
    refine z_ls [0, 1, 2] rfl ?_
    exact ke h (Option.some.inj hf).symm
  · rw [if_neg c14] at hf
    refine z_aload_n 1 d_P_load_25 rfl rfl ?_
    refine z_ifnonnull (tgt := 33) d_P_load_26 (by decide) (fun c15 => ?_) (fun c15 => ?_)
    · rw [if_neg c15] at hf
      refine z_aload_n 1 d_P_load_33 rfl rfl ?_
      refine z_iload_n 2 d_P_load_34 rfl rfl ?_
      refine z_iload_n 3 d_P_load_35 rfl rfl ?_
      obtain ⟨a16, e17, hf⟩ := dr_some hf
      obtain ⟨g18, hf⟩ := gd_some hf
      obtain ⟨v21, h19, ec20, hf⟩ := cl_some hf
      refine z_callVx e17 (c_E_leafOf ec20) d_P_load_36 cw_E_leafOf lk_P_47 im_E_leafOf se_E_leafOf (kc_K (isK_eq g18) kc_4) ⟨by decide, by decide⟩ (Nat.le_of_ble_eq_true rfl) rfl ?_
      refine z_ls [0, 1, 2, 3] rfl ?_
      exact zj_P_load_39_L20 hf kc ke
    · rw [if_pos c15] at hf
      refine z_aconst_null d_P_load_29 ?_
      refine z_goto (tgt := 39) d_P_load_30 (by decide) ?_
      refine z_ls [0, 1, 2, 3] rfl ?_
      exact zj_P_load_39_L20 hf kc ke
set_option maxRecDepth 100000 in
set_option maxHeartbeats 4000000 in
theorem kb_P_load_20 {C : Ct} {mi : Nat} {y0 : Nat} {y1 : Option Nat} {y2 : Int32} {y3 : Int32} {h : Hp} {q : ((Int32 × Hp) ⊕ (Hp))} (hf : b_P_load_20 y0 y1 y2 y3 h = some q) : Keep W_P_load h (Sum.elim (fun s : Int32 × Hp => s.2) (fun x : Hp => x) q) := by
  unfold b_P_load_20 at hf
  rcases Classical.em ((4 : Int32) ≤ y3) with c14 | c14
  · rw [if_pos c14] at hf
    cases (Option.some.inj hf)
    exact (Keep.refl W_P_load _)
  · rw [if_neg c14] at hf
    rcases (Classical.em (y1 = none)).symm with c15 | c15
    · rw [if_neg c15] at hf
      obtain ⟨a16, e17, hf⟩ := dr_some hf
      obtain ⟨g18, hf⟩ := gd_some hf
      obtain ⟨v21, h19, ec20, hf⟩ := cl_some hf
      have K22 := (Keep.refl W_P_load _).trans ((fr_E_leafOf (C := C) (mi := mi) ec20).mono (by decide) (by decide))
      exact K22.trans (kj_P_load_39_L20 (C := C) (mi := mi) hf)
    · rw [if_pos c15] at hf
      exact (Keep.refl W_P_load _).trans (kj_P_load_39_L20 (C := C) (mi := mi) hf)
def l_P_load_20 (y0 : Nat) (y1 : Option Nat) (y2 : Int32) (s : Int32 × Hp) : Option (Hp) := lp (fun s => b_P_load_20 y0 y1 y2 s.1 s.2) FU s
theorem zzl_P_load_20 {l : Launch} {C : Ct} {mi : Nat} {y0 : Nat} {y1 : Option Nat} {y2 : Int32} {h' : Hp} : ∀ (n : Nat) (s : Int32 × Hp) (x : (Hp)), lp (fun s : Int32 × Hp => b_P_load_20 y0 y1 y2 s.1 s.2) n s = some x → Z l C mi m_P_load 1 95 [(0, vr (some y0)), (1, vr y1), (2, vi y2)] [] x none h' → Z l C mi m_P_load 1 20 [(0, vr (some y0)), (1, vr y1), (2, vi y2), (3, vi s.1)] [] s.2 none h' := by
  intro n
  induction n with
  | zero => intro s x hl; cases hl
  | succ n ih =>
    intro s x hl ke
    rcases lp_some hl with ⟨s2, hb, hl2⟩ | hb
    · exact zb_P_load_20 hb (fun s3 e3 => by cases e3; refine z_ls [0, 1, 2, 3] rfl ?_; exact ih s2 x hl2 ke) (fun x e3 => by cases e3)
    · exact zb_P_load_20 hb (fun s3 e3 => by cases e3) (fun x e3 => by cases e3; exact ke)
theorem zl_P_load_20 {l : Launch} {C : Ct} {mi : Nat} {y0 : Nat} {y1 : Option Nat} {y2 : Int32} {h' : Hp} {s : Int32 × Hp} {x : (Hp)} (hl : l_P_load_20 y0 y1 y2 s = some x) (ke : Z l C mi m_P_load 1 95 [(0, vr (some y0)), (1, vr y1), (2, vi y2)] [] x none h') : Z l C mi m_P_load 1 20 [(0, vr (some y0)), (1, vr y1), (2, vi y2), (3, vi s.1)] [] s.2 none h' := zzl_P_load_20 FU s x hl ke
theorem kl_P_load_20 {C : Ct} {mi : Nat} {y0 : Nat} {y1 : Option Nat} {y2 : Int32} {s : Int32 × Hp} {q : (Hp)} (hl : l_P_load_20 y0 y1 y2 s = some q) : Keep W_P_load s.2 ((fun x : Hp => x) q) := lpk (sh := (fun s : Int32 × Hp => s.2)) (rh := (fun x : Hp => x)) (fun s q hb => kb_P_load_20 (C := C) (mi := mi) hb) FU s q hl
def b_P_load_6 (y0 : Nat) (y1 : Option Nat) (y2 : Int32) (h : Hp) : Option ((Int32 × Hp) ⊕ (Hp)) :=
  if (4 : Int32) ≤ y2 then (some (.inr h)) else (gd (isK h y0 5) (dr (hpR h y0 1) fun a7 => gd (isK h a7 67) (gd (inb y2 (hpL h a7)) (nm (wI h a7 y2.toNatClampNeg (0 : Int32)) fun h11 => bd (l_P_load_20 y0 y1 y2 ((0 : Int32), h11)) fun x45 => some (.inl ((y2 + (1 : Int32)), x45))))))
set_option maxRecDepth 100000 in
set_option maxHeartbeats 4000000 in
theorem zb_P_load_6 {l : Launch} {C : Ct} {mi : Nat} {y0 : Nat} {y1 : Option Nat} {y2 : Int32} {h h' : Hp} {q : ((Int32 × Hp) ⊕ (Hp))} (hf : b_P_load_6 y0 y1 y2 h = some q) (kc : ∀ s, q = .inl s → Z l C mi m_P_load 1 6 [(0, vr (some y0)), (1, vr y1), (2, vi s.1)] [] s.2 none h') (ke : ∀ x, q = .inr x → Z l C mi m_P_load 1 101 [] [] x none h') : Z l C mi m_P_load 1 6 [(0, vr (some y0)), (1, vr y1), (2, vi y2)] [] h none h' := by
  unfold b_P_load_6 at hf
  refine z_iload_n 2 d_P_load_6 rfl rfl ?_
  refine z_iconst (v := (4 : Int32)) d_P_load_7 rfl ?_
  refine z_icmp_ge (tgt := 101) d_P_load_8 (by decide) (fun c5 => ?_) (fun c5 => ?_)
  · rw [if_pos c5] at hf
    refine z_ls [] rfl ?_
    exact ke h (Option.some.inj hf).symm
  · rw [if_neg c5] at hf
    refine z_aload_n 0 d_P_load_11 rfl rfl ?_
    obtain ⟨g6, hf⟩ := gd_some hf
    refine z_getR d_P_load_12 (fl_K (isK_eq g6) fl_P_15_5) (fi_K (isK_eq g6) rfl) rfl ?_
    refine z_iload_n 2 d_P_load_15 rfl rfl ?_
    refine z_iconst (v := (0 : Int32)) d_P_load_16 rfl ?_
    obtain ⟨a7, e8, hf⟩ := dr_some hf
    obtain ⟨g9, hf⟩ := gd_some hf
    obtain ⟨g10, hf⟩ := gd_some hf
    obtain ⟨h11, eh12, hf⟩ := nm_some hf
    refine z_iast d_P_load_17 e8 (by rw [isK_eq g9]; decide) (by rw [isK_eq g9]; rfl) (inb_vp g10) ?_
    refine z_hp eh12 ?_
    refine z_iconst (v := (0 : Int32)) d_P_load_18 rfl ?_
    refine z_istore_n (ls2 := [(3, vi (0 : Int32)), (0, vr (some y0)), (1, vr y1), (2, vi y2)]) d_P_load_19 rfl (by decide) rfl ?_
    obtain ⟨x45, el46, hf⟩ := bd_some hf
    refine z_ls [1, 2, 3, 0] rfl ?_
    refine zl_P_load_20 el46 ?_
    refine z_iinc (ls2 := [(2, vi (y2 + (1 : Int32))), (0, vr (some y0)), (1, vr y1)]) 2 d_P_load_95 rfl rfl (by decide) rfl ?_
    refine z_goto (tgt := 6) d_P_load_98 (by decide) ?_
    refine z_ls [1, 2, 0] rfl ?_
    exact kc ((y2 + (1 : Int32)), x45) (Option.some.inj hf).symm
set_option maxRecDepth 100000 in
set_option maxHeartbeats 4000000 in
theorem kb_P_load_6 {C : Ct} {mi : Nat} {y0 : Nat} {y1 : Option Nat} {y2 : Int32} {h : Hp} {q : ((Int32 × Hp) ⊕ (Hp))} (hf : b_P_load_6 y0 y1 y2 h = some q) : Keep W_P_load h (Sum.elim (fun s : Int32 × Hp => s.2) (fun x : Hp => x) q) := by
  unfold b_P_load_6 at hf
  rcases Classical.em ((4 : Int32) ≤ y2) with c5 | c5
  · rw [if_pos c5] at hf
    cases (Option.some.inj hf)
    exact (Keep.refl W_P_load _)
  · rw [if_neg c5] at hf
    obtain ⟨g6, hf⟩ := gd_some hf
    obtain ⟨a7, e8, hf⟩ := dr_some hf
    obtain ⟨g9, hf⟩ := gd_some hf
    obtain ⟨g10, hf⟩ := gd_some hf
    obtain ⟨h11, eh12, hf⟩ := nm_some hf
    have K13 := (Keep.refl W_P_load _).trans (kw_I eh12 (isK_eq g9) (Or.inr (by decide)))
    obtain ⟨x45, el46, hf⟩ := bd_some hf
    have K47 := K13.trans (kl_P_load_20 (C := C) (mi := mi) el46)
    cases (Option.some.inj hf)
    exact K47
def l_P_load_6 (y0 : Nat) (y1 : Option Nat) (s : Int32 × Hp) : Option (Hp) := lp (fun s => b_P_load_6 y0 y1 s.1 s.2) FU s
theorem zzl_P_load_6 {l : Launch} {C : Ct} {mi : Nat} {y0 : Nat} {y1 : Option Nat} {h' : Hp} : ∀ (n : Nat) (s : Int32 × Hp) (x : (Hp)), lp (fun s : Int32 × Hp => b_P_load_6 y0 y1 s.1 s.2) n s = some x → Z l C mi m_P_load 1 101 [] [] x none h' → Z l C mi m_P_load 1 6 [(0, vr (some y0)), (1, vr y1), (2, vi s.1)] [] s.2 none h' := by
  intro n
  induction n with
  | zero => intro s x hl; cases hl
  | succ n ih =>
    intro s x hl ke
    rcases lp_some hl with ⟨s2, hb, hl2⟩ | hb
    · exact zb_P_load_6 hb (fun s3 e3 => by cases e3; refine z_ls [0, 1, 2] rfl ?_; exact ih s2 x hl2 ke) (fun x e3 => by cases e3)
    · exact zb_P_load_6 hb (fun s3 e3 => by cases e3) (fun x e3 => by cases e3; exact ke)
theorem zl_P_load_6 {l : Launch} {C : Ct} {mi : Nat} {y0 : Nat} {y1 : Option Nat} {h' : Hp} {s : Int32 × Hp} {x : (Hp)} (hl : l_P_load_6 y0 y1 s = some x) (ke : Z l C mi m_P_load 1 101 [] [] x none h') : Z l C mi m_P_load 1 6 [(0, vr (some y0)), (1, vr y1), (2, vi s.1)] [] s.2 none h' := zzl_P_load_6 FU s x hl ke
theorem kl_P_load_6 {C : Ct} {mi : Nat} {y0 : Nat} {y1 : Option Nat} {s : Int32 × Hp} {q : (Hp)} (hl : l_P_load_6 y0 y1 s = some q) : Keep W_P_load s.2 ((fun x : Hp => x) q) := lpk (sh := (fun s : Int32 × Hp => s.2)) (rh := (fun x : Hp => x)) (fun s q hb => kb_P_load_6 (C := C) (mi := mi) hb) FU s q hl
def f_P_load (a0 : Nat) (p1 : Option Nat) (h : Hp) : Option Hp :=
  gd (isK h a0 5) (cv (f_P_forgetTouched a0 h) fun h2 => bd (l_P_load_6 a0 p1 ((0 : Int32), h2)) fun x48 => some x48)
set_option maxRecDepth 100000 in
set_option maxHeartbeats 4000000 in
theorem zf_P_load {l : Launch} {C : Ct} {mi : Nat} {a0 : Nat} {p1 : Option Nat} {h h' : Hp} (hf : f_P_load a0 p1 h = some h') : Z l C mi m_P_load 1 0 [(0, vr (some a0)), (1, vr p1)] [] h none h' := by
  unfold f_P_load at hf
  refine z_aload_n 0 d_P_load_0 rfl rfl ?_
  obtain ⟨g1, hf⟩ := gd_some hf
  obtain ⟨h2, ec3, hf⟩ := cv_some hf
  refine z_callVx rfl (c_P_forgetTouched ec3) d_P_load_1 cw_P_forgetTouched lk_P_54 im_P_forgetTouched se_P_forgetTouched (kc_K (isK_eq g1) kc_5) ⟨by decide, by decide⟩ (Nat.le_of_ble_eq_true rfl) rfl ?_
  refine z_iconst (v := (0 : Int32)) d_P_load_4 rfl ?_
  refine z_istore_n (ls2 := [(2, vi (0 : Int32)), (0, vr (some a0)), (1, vr p1)]) d_P_load_5 rfl (by decide) rfl ?_
  obtain ⟨x48, el49, hf⟩ := bd_some hf
  refine z_ls [1, 2, 0] rfl ?_
  refine zl_P_load_6 el49 ?_
  cases (Option.some.inj hf)
  exact z_ret d_P_load_101 rfl
set_option maxRecDepth 100000 in
set_option maxHeartbeats 4000000 in
theorem fr_P_load {C : Ct} {mi : Nat} {a0 : Nat} {p1 : Option Nat} {h h' : Hp} (hf : f_P_load a0 p1 h = some h') : Keep W_P_load h h' := by
  unfold f_P_load at hf
  obtain ⟨g1, hf⟩ := gd_some hf
  obtain ⟨h2, ec3, hf⟩ := cv_some hf
  have K4 := (Keep.refl W_P_load _).trans ((fr_P_forgetTouched (C := C) (mi := mi) ec3).mono (by decide) (by decide))
  obtain ⟨x48, el49, hf⟩ := bd_some hf
  have K50 := K4.trans (kl_P_load_6 (C := C) (mi := mi) el49)
  cases (Option.some.inj hf)
  exact K50
theorem c_P_load {l : Launch} {C : Ct} {mi : Nat} {a0 : Nat} {p1 : Option Nat} {h h' : Hp} (hf : f_P_load a0 p1 h = some h') : Mt l C mi m_P_load 1 [vr (some a0), vr p1] h none h' := mt_V rfl rfl (by decide) (Nat.le_of_ble_eq_true rfl) (zf_P_load hf)
-- VersionMaps$Chunk.livePages(I)I
def m_K_livePages : Mi := (⟨"VersionMaps$Chunk", "livePages", "(I)I"⟩, prog_3_method_5_code, 4, (Option.some Jvm.ClassFile.FieldType.int), .ireturn)
theorem cw_K_livePages : cw_ok m_K_livePages 1 := ⟨by decide +kernel, by decide +kernel, by decide +kernel, by decide +kernel⟩
theorem im_K_livePages : Cond.instanceMethod m_K_livePages.1 ∈ lw_w := by decide +kernel
theorem se_K_livePages : Cond.selects "VersionMaps$Chunk" m_K_livePages.1 m_K_livePages.1 ∈ lw_w := by decide +kernel
theorem d_K_livePages_0 : decode prog_3_method_5_code 0 = .ok (.iconst 0, 1) := by decide +kernel
theorem d_K_livePages_1 : decode prog_3_method_5_code 1 = .ok (.istore_n 2, 1) := by decide +kernel
theorem d_K_livePages_2 : decode prog_3_method_5_code 2 = .ok (.iconst 0, 1) := by decide +kernel
theorem d_K_livePages_3 : decode prog_3_method_5_code 3 = .ok (.istore_n 3, 1) := by decide +kernel
theorem d_K_livePages_4 : decode prog_3_method_5_code 4 = .ok (.iload_n 3, 1) := by decide +kernel
theorem d_K_livePages_5 : decode prog_3_method_5_code 5 = .ok (.aload_n 0, 1) := by decide +kernel
theorem d_K_livePages_6 : decode prog_3_method_5_code 6 = .ok (.getfield 25, 3) := by decide +kernel
theorem d_K_livePages_9 : decode prog_3_method_5_code 9 = .ok (.arraylength, 1) := by decide +kernel
theorem d_K_livePages_10 : decode prog_3_method_5_code 10 = .ok (.if_icmp .ge 25, 3) := by decide +kernel
theorem d_K_livePages_13 : decode prog_3_method_5_code 13 = .ok (.aload_n 0, 1) := by decide +kernel
theorem d_K_livePages_14 : decode prog_3_method_5_code 14 = .ok (.getfield 25, 3) := by decide +kernel
theorem d_K_livePages_17 : decode prog_3_method_5_code 17 = .ok (.iload_n 3, 1) := by decide +kernel
theorem d_K_livePages_18 : decode prog_3_method_5_code 18 = .ok (.aaload, 1) := by decide +kernel
theorem d_K_livePages_19 : decode prog_3_method_5_code 19 = .ok (.getfield 46, 3) := by decide +kernel
theorem d_K_livePages_22 : decode prog_3_method_5_code 22 = .ok (.iload_n 1, 1) := by decide +kernel
theorem d_K_livePages_23 : decode prog_3_method_5_code 23 = .ok (.if_icmp .ne 6, 3) := by decide +kernel
theorem d_K_livePages_26 : decode prog_3_method_5_code 26 = .ok (.iinc 2 1, 3) := by decide +kernel
theorem d_K_livePages_29 : decode prog_3_method_5_code 29 = .ok (.iinc 3 1, 3) := by decide +kernel
theorem d_K_livePages_32 : decode prog_3_method_5_code 32 = .ok (.goto (-28), 3) := by decide +kernel
theorem d_K_livePages_35 : decode prog_3_method_5_code 35 = .ok (.iload_n 2, 1) := by decide +kernel
theorem d_K_livePages_36 : decode prog_3_method_5_code 36 = .ok (.ireturn, 1) := by decide +kernel
def W_K_livePages : Wl := ([], [])
def b_K_livePages_4 (y0 : Nat) (y1 : Int32) (y2 : Int32) (y3 : Int32) (h : Hp) : Option ((Int32 × Int32 × Hp) ⊕ (Int32 × Hp)) :=
  gd (isK h y0 2) (dr (hpR h y0 2) fun a2 => gd (isK h a2 103) (if (Int32.ofNat (hpL h a2)) ≤ y3 then (some (.inr (y2, h))) else (gd (inb y3 (hpL h a2)) (dr (hpR h a2 y3.toNatClampNeg) fun a7 => gd (isPg h a7) (if (hpI h a7 2) = y1 then (some (.inl ((y2 + (1 : Int32)), (y3 + (1 : Int32)), h))) else (some (.inl (y2, (y3 + (1 : Int32)), h))))))))
set_option maxRecDepth 100000 in
set_option maxHeartbeats 4000000 in
theorem zb_K_livePages_4 {l : Launch} {C : Ct} {mi : Nat} {y0 : Nat} {y1 : Int32} {y2 : Int32} {y3 : Int32} {h h' : Hp} {v : Int32} {q : ((Int32 × Int32 × Hp) ⊕ (Int32 × Hp))} (hf : b_K_livePages_4 y0 y1 y2 y3 h = some q) (kc : ∀ s, q = .inl s → Z l C mi m_K_livePages 0 4 [(0, vr (some y0)), (1, vi y1), (2, vi s.1), (3, vi s.2.1)] [] s.2.2 (some (vi v)) h') (ke : ∀ x, q = .inr x → Z l C mi m_K_livePages 0 35 [(2, vi x.1)] [] x.2 (some (vi v)) h') : Z l C mi m_K_livePages 0 4 [(0, vr (some y0)), (1, vi y1), (2, vi y2), (3, vi y3)] [] h (some (vi v)) h' := by
  unfold b_K_livePages_4 at hf
  refine z_iload_n 3 d_K_livePages_4 rfl rfl ?_
  refine z_aload_n 0 d_K_livePages_5 rfl rfl ?_
  obtain ⟨g1, hf⟩ := gd_some hf
  refine z_getR d_K_livePages_6 (fl_K (isK_eq g1) fl_K_25_2) (fi_K (isK_eq g1) rfl) rfl ?_
  obtain ⟨a2, e3, hf⟩ := dr_some hf
  obtain ⟨g4, hf⟩ := gd_some hf
  refine z_alen d_K_livePages_9 e3 (by rw [isK_eq g4]; decide) ?_
  refine z_icmp_ge (tgt := 35) d_K_livePages_10 (by decide) (fun c5 => ?_) (fun c5 => ?_)
  · rw [if_pos c5] at hf
    refine z_ls [2] rfl ?_
    exact ke (y2, h) (Option.some.inj hf).symm
  · rw [if_neg c5] at hf
    refine z_aload_n 0 d_K_livePages_13 rfl rfl ?_
    refine z_getR d_K_livePages_14 (fl_K (isK_eq g1) fl_K_25_2) (fi_K (isK_eq g1) rfl) rfl ?_
    refine z_iload_n 3 d_K_livePages_17 rfl rfl ?_
    obtain ⟨g6, hf⟩ := gd_some hf
    refine z_aald d_K_livePages_18 e3 (by rw [isK_eq g4]; decide) (by rw [isK_eq g4]; decide) (inb_vp g6) ?_
    obtain ⟨a7, e8, hf⟩ := dr_some hf
    obtain ⟨g9, hf⟩ := gd_some hf
    refine z_getI d_K_livePages_19 (fl_P g9 fl_K_46_3 fl_K_46_4 fl_K_46_6) (fi_P g9 rfl rfl rfl) e8 ?_
    refine z_iload_n 1 d_K_livePages_22 rfl rfl ?_
    refine z_icmp_ne (tgt := 29) d_K_livePages_23 (by decide) (fun c10 => ?_) (fun c10 => ?_)
    · rw [if_neg c10] at hf
      refine z_iinc (ls2 := [(3, vi (y3 + (1 : Int32))), (0, vr (some y0)), (1, vi y1), (2, vi y2)]) 3 d_K_livePages_29 rfl rfl (by decide) rfl ?_
      refine z_goto (tgt := 4) d_K_livePages_32 (by decide) ?_
      refine z_ls [1, 2, 3, 0] rfl ?_
      exact kc (y2, (y3 + (1 : Int32)), h) (Option.some.inj hf).symm
    · rw [if_pos c10] at hf
      refine z_iinc (ls2 := [(2, vi (y2 + (1 : Int32))), (0, vr (some y0)), (1, vi y1), (3, vi y3)]) 2 d_K_livePages_26 rfl rfl (by decide) rfl ?_
      refine z_iinc (ls2 := [(3, vi (y3 + (1 : Int32))), (2, vi (y2 + (1 : Int32))), (0, vr (some y0)), (1, vi y1)]) 3 d_K_livePages_29 rfl rfl (by decide) rfl ?_
      refine z_goto (tgt := 4) d_K_livePages_32 (by decide) ?_
      refine z_ls [2, 3, 1, 0] rfl ?_
      exact kc ((y2 + (1 : Int32)), (y3 + (1 : Int32)), h) (Option.some.inj hf).symm
set_option maxRecDepth 100000 in
set_option maxHeartbeats 4000000 in
theorem kb_K_livePages_4 {C : Ct} {mi : Nat} {y0 : Nat} {y1 : Int32} {y2 : Int32} {y3 : Int32} {h : Hp} {q : ((Int32 × Int32 × Hp) ⊕ (Int32 × Hp))} (hf : b_K_livePages_4 y0 y1 y2 y3 h = some q) : Keep W_K_livePages h (Sum.elim (fun s : Int32 × Int32 × Hp => s.2.2) (fun x : Int32 × Hp => x.2) q) := by
  unfold b_K_livePages_4 at hf
  obtain ⟨g1, hf⟩ := gd_some hf
  obtain ⟨a2, e3, hf⟩ := dr_some hf
  obtain ⟨g4, hf⟩ := gd_some hf
  rcases Classical.em ((Int32.ofNat (hpL h a2)) ≤ y3) with c5 | c5
  · rw [if_pos c5] at hf
    cases (Option.some.inj hf)
    exact (Keep.refl W_K_livePages _)
  · rw [if_neg c5] at hf
    obtain ⟨g6, hf⟩ := gd_some hf
    obtain ⟨a7, e8, hf⟩ := dr_some hf
    obtain ⟨g9, hf⟩ := gd_some hf
    rcases (Classical.em ((hpI h a7 2) = y1)).symm with c10 | c10
    · rw [if_neg c10] at hf
      cases (Option.some.inj hf)
      exact (Keep.refl W_K_livePages _)
    · rw [if_pos c10] at hf
      cases (Option.some.inj hf)
      exact (Keep.refl W_K_livePages _)
def l_K_livePages_4 (y0 : Nat) (y1 : Int32) (s : Int32 × Int32 × Hp) : Option (Int32 × Hp) := lp (fun s => b_K_livePages_4 y0 y1 s.1 s.2.1 s.2.2) FU s
theorem zzl_K_livePages_4 {l : Launch} {C : Ct} {mi : Nat} {y0 : Nat} {y1 : Int32} {h' : Hp} {v : Int32} : ∀ (n : Nat) (s : Int32 × Int32 × Hp) (x : (Int32 × Hp)), lp (fun s : Int32 × Int32 × Hp => b_K_livePages_4 y0 y1 s.1 s.2.1 s.2.2) n s = some x → Z l C mi m_K_livePages 0 35 [(2, vi x.1)] [] x.2 (some (vi v)) h' → Z l C mi m_K_livePages 0 4 [(0, vr (some y0)), (1, vi y1), (2, vi s.1), (3, vi s.2.1)] [] s.2.2 (some (vi v)) h' := by
  intro n
  induction n with
  | zero => intro s x hl; cases hl
  | succ n ih =>
    intro s x hl ke
    rcases lp_some hl with ⟨s2, hb, hl2⟩ | hb
    · exact zb_K_livePages_4 hb (fun s3 e3 => by cases e3; refine z_ls [0, 1, 2, 3] rfl ?_; exact ih s2 x hl2 ke) (fun x e3 => by cases e3)
    · exact zb_K_livePages_4 hb (fun s3 e3 => by cases e3) (fun x e3 => by cases e3; exact ke)
theorem zl_K_livePages_4 {l : Launch} {C : Ct} {mi : Nat} {y0 : Nat} {y1 : Int32} {h' : Hp} {v : Int32} {s : Int32 × Int32 × Hp} {x : (Int32 × Hp)} (hl : l_K_livePages_4 y0 y1 s = some x) (ke : Z l C mi m_K_livePages 0 35 [(2, vi x.1)] [] x.2 (some (vi v)) h') : Z l C mi m_K_livePages 0 4 [(0, vr (some y0)), (1, vi y1), (2, vi s.1), (3, vi s.2.1)] [] s.2.2 (some (vi v)) h' := zzl_K_livePages_4 FU s x hl ke
theorem kl_K_livePages_4 {C : Ct} {mi : Nat} {y0 : Nat} {y1 : Int32} {s : Int32 × Int32 × Hp} {q : (Int32 × Hp)} (hl : l_K_livePages_4 y0 y1 s = some q) : Keep W_K_livePages s.2.2 ((fun x : Int32 × Hp => x.2) q) := lpk (sh := (fun s : Int32 × Int32 × Hp => s.2.2)) (rh := (fun x : Int32 × Hp => x.2)) (fun s q hb => kb_K_livePages_4 (C := C) (mi := mi) hb) FU s q hl
def f_K_livePages (a0 : Nat) (p1 : Int32) (h : Hp) : Option (Int32 × Hp) :=
  bd (l_K_livePages_4 a0 p1 ((0 : Int32), (0 : Int32), h)) fun x11 => some (x11.1, x11.2)
set_option maxRecDepth 100000 in
set_option maxHeartbeats 4000000 in
theorem zf_K_livePages {l : Launch} {C : Ct} {mi : Nat} {a0 : Nat} {p1 : Int32} {h h' : Hp} {v : Int32} (hf : f_K_livePages a0 p1 h = some (v, h')) : Z l C mi m_K_livePages 0 0 [(0, vr (some a0)), (1, vi p1)] [] h (some (vi v)) h' := by
  unfold f_K_livePages at hf
  refine z_iconst (v := (0 : Int32)) d_K_livePages_0 rfl ?_
  refine z_istore_n (ls2 := [(2, vi (0 : Int32)), (0, vr (some a0)), (1, vi p1)]) d_K_livePages_1 rfl (by decide) rfl ?_
  refine z_iconst (v := (0 : Int32)) d_K_livePages_2 rfl ?_
  refine z_istore_n (ls2 := [(3, vi (0 : Int32)), (2, vi (0 : Int32)), (0, vr (some a0)), (1, vi p1)]) d_K_livePages_3 rfl (by decide) rfl ?_
  obtain ⟨x11, el12, hf⟩ := bd_some hf
  refine z_ls [2, 3, 1, 0] rfl ?_
  refine zl_K_livePages_4 el12 ?_
  refine z_iload_n 0 d_K_livePages_35 rfl rfl ?_
  obtain ⟨rfl, rfl⟩ := Prod.mk.inj (Option.some.inj hf)
  exact z_ret d_K_livePages_36 rfl
set_option maxRecDepth 100000 in
set_option maxHeartbeats 4000000 in
theorem fr_K_livePages {C : Ct} {mi : Nat} {a0 : Nat} {p1 : Int32} {h h' : Hp} {v : Int32} (hf : f_K_livePages a0 p1 h = some (v, h')) : Keep W_K_livePages h h' := by
  unfold f_K_livePages at hf
  obtain ⟨x11, el12, hf⟩ := bd_some hf
  have K13 := (Keep.refl W_K_livePages _).trans (kl_K_livePages_4 (C := C) (mi := mi) el12)
  obtain ⟨rfl, rfl⟩ := Prod.mk.inj (Option.some.inj hf)
  exact K13
theorem c_K_livePages {l : Launch} {C : Ct} {mi : Nat} {a0 : Nat} {p1 : Int32} {h h' : Hp} {v : Int32} (hf : f_K_livePages a0 p1 h = some (v, h')) : Mt l C mi m_K_livePages 0 [vr (some a0), vi p1] h (some (vi v)) h' := mt_I (ty := .int) rfl rfl rfl (by decide) (Nat.le_of_ble_eq_true rfl) (zf_K_livePages hf)
-- VersionMaps$Present.touchPagesIn(LVersionMaps$Chunk;LVersionMaps$Meta;)I
def m_P_touchPagesIn : Mi := (⟨"VersionMaps$Present", "touchPagesIn", "(LVersionMaps$Chunk;LVersionMaps$Meta;)I"⟩, prog_7_method_9_code, 7, (Option.some Jvm.ClassFile.FieldType.int), .ireturn)
theorem cw_P_touchPagesIn : cw_ok m_P_touchPagesIn 2 := ⟨by decide +kernel, by decide +kernel, by decide +kernel, by decide +kernel⟩
theorem im_P_touchPagesIn : Cond.instanceMethod m_P_touchPagesIn.1 ∈ lw_w := by decide +kernel
theorem se_P_touchPagesIn : Cond.selects "VersionMaps$Present" m_P_touchPagesIn.1 m_P_touchPagesIn.1 ∈ lw_w := by decide +kernel
theorem d_P_touchPagesIn_0 : decode prog_7_method_9_code 0 = .ok (.iconst 0, 1) := by decide +kernel
theorem d_P_touchPagesIn_1 : decode prog_7_method_9_code 1 = .ok (.istore_n 3, 1) := by decide +kernel
theorem d_P_touchPagesIn_2 : decode prog_7_method_9_code 2 = .ok (.iconst 0, 1) := by decide +kernel
theorem d_P_touchPagesIn_3 : decode prog_7_method_9_code 3 = .ok (.istore 4, 2) := by decide +kernel
theorem d_P_touchPagesIn_5 : decode prog_7_method_9_code 5 = .ok (.iload 4, 2) := by decide +kernel
theorem d_P_touchPagesIn_7 : decode prog_7_method_9_code 7 = .ok (.iconst 4, 1) := by decide +kernel
theorem d_P_touchPagesIn_8 : decode prog_7_method_9_code 8 = .ok (.if_icmp .ge 99, 3) := by decide +kernel
theorem d_P_touchPagesIn_11 : decode prog_7_method_9_code 11 = .ok (.aload_n 2, 1) := by decide +kernel
theorem d_P_touchPagesIn_12 : decode prog_7_method_9_code 12 = .ok (.getfield 35, 3) := by decide +kernel
theorem d_P_touchPagesIn_15 : decode prog_7_method_9_code 15 = .ok (.iload 4, 2) := by decide +kernel
theorem d_P_touchPagesIn_17 : decode prog_7_method_9_code 17 = .ok (.aaload, 1) := by decide +kernel
theorem d_P_touchPagesIn_18 : decode prog_7_method_9_code 18 = .ok (.ifnull 33, 3) := by decide +kernel
theorem d_P_touchPagesIn_21 : decode prog_7_method_9_code 21 = .ok (.aload_n 2, 1) := by decide +kernel
theorem d_P_touchPagesIn_22 : decode prog_7_method_9_code 22 = .ok (.getfield 35, 3) := by decide +kernel
theorem d_P_touchPagesIn_25 : decode prog_7_method_9_code 25 = .ok (.iload 4, 2) := by decide +kernel
theorem d_P_touchPagesIn_27 : decode prog_7_method_9_code 27 = .ok (.aaload, 1) := by decide +kernel
theorem d_P_touchPagesIn_28 : decode prog_7_method_9_code 28 = .ok (.getfield 41, 3) := by decide +kernel
theorem d_P_touchPagesIn_31 : decode prog_7_method_9_code 31 = .ok (.aload_n 1, 1) := by decide +kernel
theorem d_P_touchPagesIn_32 : decode prog_7_method_9_code 32 = .ok (.if_acmp .ne 19, 3) := by decide +kernel
theorem d_P_touchPagesIn_35 : decode prog_7_method_9_code 35 = .ok (.aload_n 0, 1) := by decide +kernel
theorem d_P_touchPagesIn_36 : decode prog_7_method_9_code 36 = .ok (.dup, 1) := by decide +kernel
theorem d_P_touchPagesIn_37 : decode prog_7_method_9_code 37 = .ok (.getfield 22, 3) := by decide +kernel
theorem d_P_touchPagesIn_40 : decode prog_7_method_9_code 40 = .ok (.iconst 1, 1) := by decide +kernel
theorem d_P_touchPagesIn_41 : decode prog_7_method_9_code 41 = .ok (.iload 4, 2) := by decide +kernel
theorem d_P_touchPagesIn_43 : decode prog_7_method_9_code 43 = .ok (.ishl, 1) := by decide +kernel
theorem d_P_touchPagesIn_44 : decode prog_7_method_9_code 44 = .ok (.ior, 1) := by decide +kernel
theorem d_P_touchPagesIn_45 : decode prog_7_method_9_code 45 = .ok (.putfield 22, 3) := by decide +kernel
theorem d_P_touchPagesIn_48 : decode prog_7_method_9_code 48 = .ok (.iinc 3 1, 3) := by decide +kernel
theorem d_P_touchPagesIn_51 : decode prog_7_method_9_code 51 = .ok (.iconst 0, 1) := by decide +kernel
theorem d_P_touchPagesIn_52 : decode prog_7_method_9_code 52 = .ok (.istore 5, 2) := by decide +kernel
theorem d_P_touchPagesIn_54 : decode prog_7_method_9_code 54 = .ok (.iload 5, 2) := by decide +kernel
theorem d_P_touchPagesIn_56 : decode prog_7_method_9_code 56 = .ok (.iconst 4, 1) := by decide +kernel
theorem d_P_touchPagesIn_57 : decode prog_7_method_9_code 57 = .ok (.if_icmp .ge 44, 3) := by decide +kernel
theorem d_P_touchPagesIn_60 : decode prog_7_method_9_code 60 = .ok (.aload_n 2, 1) := by decide +kernel
theorem d_P_touchPagesIn_61 : decode prog_7_method_9_code 61 = .ok (.iload 4, 2) := by decide +kernel
theorem d_P_touchPagesIn_63 : decode prog_7_method_9_code 63 = .ok (.iload 5, 2) := by decide +kernel
theorem d_P_touchPagesIn_65 : decode prog_7_method_9_code 65 = .ok (.invokevirtual 47, 3) := by decide +kernel
theorem d_P_touchPagesIn_68 : decode prog_7_method_9_code 68 = .ok (.astore 6, 2) := by decide +kernel
theorem d_P_touchPagesIn_70 : decode prog_7_method_9_code 70 = .ok (.aload 6, 2) := by decide +kernel
theorem d_P_touchPagesIn_72 : decode prog_7_method_9_code 72 = .ok (.ifnull 23, 3) := by decide +kernel
theorem d_P_touchPagesIn_75 : decode prog_7_method_9_code 75 = .ok (.aload 6, 2) := by decide +kernel
theorem d_P_touchPagesIn_77 : decode prog_7_method_9_code 77 = .ok (.getfield 51, 3) := by decide +kernel
theorem d_P_touchPagesIn_80 : decode prog_7_method_9_code 80 = .ok (.aload_n 1, 1) := by decide +kernel
theorem d_P_touchPagesIn_81 : decode prog_7_method_9_code 81 = .ok (.if_acmp .ne 14, 3) := by decide +kernel
theorem d_P_touchPagesIn_84 : decode prog_7_method_9_code 84 = .ok (.aload_n 0, 1) := by decide +kernel
theorem d_P_touchPagesIn_85 : decode prog_7_method_9_code 85 = .ok (.iload 4, 2) := by decide +kernel
theorem d_P_touchPagesIn_87 : decode prog_7_method_9_code 87 = .ok (.iload 5, 2) := by decide +kernel
theorem d_P_touchPagesIn_89 : decode prog_7_method_9_code 89 = .ok (.invokevirtual 25, 3) := by decide +kernel
theorem d_P_touchPagesIn_92 : decode prog_7_method_9_code 92 = .ok (.iinc 3 1, 3) := by decide +kernel
theorem d_P_touchPagesIn_95 : decode prog_7_method_9_code 95 = .ok (.iinc 5 1, 3) := by decide +kernel
theorem d_P_touchPagesIn_98 : decode prog_7_method_9_code 98 = .ok (.goto (-44), 3) := by decide +kernel
theorem d_P_touchPagesIn_101 : decode prog_7_method_9_code 101 = .ok (.iinc 4 1, 3) := by decide +kernel
theorem d_P_touchPagesIn_104 : decode prog_7_method_9_code 104 = .ok (.goto (-99), 3) := by decide +kernel
theorem d_P_touchPagesIn_107 : decode prog_7_method_9_code 107 = .ok (.iload_n 3, 1) := by decide +kernel
theorem d_P_touchPagesIn_108 : decode prog_7_method_9_code 108 = .ok (.ireturn, 1) := by decide +kernel
def W_P_touchPagesIn : Wl := ([(5, 2), (5, 3)], [])
def b_P_touchPagesIn_54 (y0 : Nat) (y1 : Option Nat) (y2 : Option Nat) (y3 : Int32) (y4 : Int32) (y5 : Int32) (h : Hp) : Option ((Int32 × Int32 × Hp) ⊕ (Int32 × Hp)) :=
  if (4 : Int32) ≤ y5 then (some (.inr (y3, h))) else (dr y2 fun a11 => gd (isK h a11 4) (cl (f_E_leafOf a11 y4 y5 h) fun v16 h14 => if v16 = none then (some (.inl (y3, (y5 + (1 : Int32)), h14))) else (dr v16 fun a19 => gd (isK h14 a19 3) (if (hpR h14 a19 0) = y1 then (gd (isK h14 y0 5) (cv (f_P_touchLeaf y0 y4 y5 h14) fun h24 => some (.inl ((y3 + (1 : Int32)), (y5 + (1 : Int32)), h24)))) else (some (.inl (y3, (y5 + (1 : Int32)), h14)))))))
set_option maxRecDepth 100000 in
set_option maxHeartbeats 4000000 in
theorem zb_P_touchPagesIn_54 {l : Launch} {C : Ct} {mi : Nat} {y0 : Nat} {y1 : Option Nat} {y2 : Option Nat} {y3 : Int32} {y4 : Int32} {y5 : Int32} {h h' : Hp} {v : Int32} {q : ((Int32 × Int32 × Hp) ⊕ (Int32 × Hp))} (hf : b_P_touchPagesIn_54 y0 y1 y2 y3 y4 y5 h = some q) (kc : ∀ s, q = .inl s → Z l C mi m_P_touchPagesIn 1 54 [(0, vr (some y0)), (1, vr y1), (2, vr y2), (3, vi s.1), (4, vi y4), (5, vi s.2.1)] [] s.2.2 (some (vi v)) h') (ke : ∀ x, q = .inr x → Z l C mi m_P_touchPagesIn 1 101 [(0, vr (some y0)), (1, vr y1), (2, vr y2), (3, vi x.1), (4, vi y4)] [] x.2 (some (vi v)) h') : Z l C mi m_P_touchPagesIn 1 54 [(0, vr (some y0)), (1, vr y1), (2, vr y2), (3, vi y3), (4, vi y4), (5, vi y5)] [] h (some (vi v)) h' := by
  unfold b_P_touchPagesIn_54 at hf
  refine z_iload 5 d_P_touchPagesIn_54 rfl ?_
  refine z_iconst (v := (4 : Int32)) d_P_touchPagesIn_56 rfl ?_
  refine z_icmp_ge (tgt := 101) d_P_touchPagesIn_57 (by decide) (fun c10 => ?_) (fun c10 => ?_)
  · rw [if_pos c10] at hf
    refine z_ls [0, 1, 2, 3, 4] rfl ?_
    exact ke (y3, h) (Option.some.inj hf).symm
  · rw [if_neg c10] at hf
    refine z_aload_n 2 d_P_touchPagesIn_60 rfl rfl ?_
    refine z_iload 4 d_P_touchPagesIn_61 rfl ?_
    refine z_iload 5 d_P_touchPagesIn_63 rfl ?_
    obtain ⟨a11, e12, hf⟩ := dr_some hf
    obtain ⟨g13, hf⟩ := gd_some hf
    obtain ⟨v16, h14, ec15, hf⟩ := cl_some hf
    refine z_callVx e12 (c_E_leafOf ec15) d_P_touchPagesIn_65 cw_E_leafOf lk_P_47 im_E_leafOf se_E_leafOf (kc_K (isK_eq g13) kc_4) ⟨by decide, by decide⟩ (Nat.le_of_ble_eq_true rfl) rfl ?_
    refine z_astore (ls2 := [(6, vr v16), (0, vr (some y0)), (1, vr y1), (2, vr y2), (3, vi y3), (4, vi y4), (5, vi y5)]) d_P_touchPagesIn_68 (by decide) rfl ?_
    refine z_aload 0 d_P_touchPagesIn_70 rfl ?_
    refine z_ifnull (tgt := 95) d_P_touchPagesIn_72 (by decide) (fun c18 => ?_) (fun c18 => ?_)
    · rw [if_pos c18] at hf
      refine z_iinc (ls2 := [(5, vi (y5 + (1 : Int32))), (6, vr v16), (0, vr (some y0)), (1, vr y1), (2, vr y2), (3, vi y3), (4, vi y4)]) 6 d_P_touchPagesIn_95 rfl rfl (by decide) rfl ?_
      refine z_goto (tgt := 54) d_P_touchPagesIn_98 (by decide) ?_
      refine z_ls [2, 3, 4, 5, 6, 0] rfl ?_
      exact kc (y3, (y5 + (1 : Int32)), h14) (Option.some.inj hf).symm
    · rw [if_neg c18] at hf
      refine z_aload 0 d_P_touchPagesIn_75 rfl ?_
      obtain ⟨a19, e20, hf⟩ := dr_some hf
      obtain ⟨g21, hf⟩ := gd_some hf
      refine z_getR d_P_touchPagesIn_77 (fl_K (isK_eq g21) fl_P_51_3) (fi_K (isK_eq g21) rfl) e20 ?_
      refine z_aload_n 2 d_P_touchPagesIn_80 rfl rfl ?_
      refine z_acmp_ne (tgt := 95) d_P_touchPagesIn_81 (by decide) (fun c22 => ?_) (fun c22 => ?_)
      · rw [if_neg c22] at hf
        refine z_iinc (ls2 := [(5, vi (y5 + (1 : Int32))), (6, vr v16), (0, vr (some y0)), (1, vr y1), (2, vr y2), (3, vi y3), (4, vi y4)]) 6 d_P_touchPagesIn_95 rfl rfl (by decide) rfl ?_
        refine z_goto (tgt := 54) d_P_touchPagesIn_98 (by decide) ?_
        refine z_ls [2, 3, 4, 5, 6, 0] rfl ?_
        exact kc (y3, (y5 + (1 : Int32)), h14) (Option.some.inj hf).symm
      · rw [if_pos c22] at hf
        refine z_aload_n 1 d_P_touchPagesIn_84 rfl rfl ?_
        refine z_iload 5 d_P_touchPagesIn_85 rfl ?_
        refine z_iload 6 d_P_touchPagesIn_87 rfl ?_
        obtain ⟨g23, hf⟩ := gd_some hf
        obtain ⟨h24, ec25, hf⟩ := cv_some hf
        refine z_callVx rfl (c_P_touchLeaf ec25) d_P_touchPagesIn_89 cw_P_touchLeaf lk_P_25 im_P_touchLeaf se_P_touchLeaf (kc_K (isK_eq g23) kc_5) ⟨by decide, by decide⟩ (Nat.le_of_ble_eq_true rfl) rfl ?_
        refine z_iinc (ls2 := [(3, vi (y3 + (1 : Int32))), (6, vr v16), (0, vr (some y0)), (1, vr y1), (2, vr y2), (4, vi y4), (5, vi y5)]) 4 d_P_touchPagesIn_92 rfl rfl (by decide) rfl ?_
        refine z_iinc (ls2 := [(5, vi (y5 + (1 : Int32))), (3, vi (y3 + (1 : Int32))), (6, vr v16), (0, vr (some y0)), (1, vr y1), (2, vr y2), (4, vi y4)]) 6 d_P_touchPagesIn_95 rfl rfl (by decide) rfl ?_
        refine z_goto (tgt := 54) d_P_touchPagesIn_98 (by decide) ?_
        refine z_ls [3, 4, 5, 1, 6, 0] rfl ?_
        exact kc ((y3 + (1 : Int32)), (y5 + (1 : Int32)), h24) (Option.some.inj hf).symm
set_option maxRecDepth 100000 in
set_option maxHeartbeats 4000000 in
theorem kb_P_touchPagesIn_54 {C : Ct} {mi : Nat} {y0 : Nat} {y1 : Option Nat} {y2 : Option Nat} {y3 : Int32} {y4 : Int32} {y5 : Int32} {h : Hp} {q : ((Int32 × Int32 × Hp) ⊕ (Int32 × Hp))} (hf : b_P_touchPagesIn_54 y0 y1 y2 y3 y4 y5 h = some q) : Keep W_P_touchPagesIn h (Sum.elim (fun s : Int32 × Int32 × Hp => s.2.2) (fun x : Int32 × Hp => x.2) q) := by
  unfold b_P_touchPagesIn_54 at hf
  rcases Classical.em ((4 : Int32) ≤ y5) with c10 | c10
  · rw [if_pos c10] at hf
    cases (Option.some.inj hf)
    exact (Keep.refl W_P_touchPagesIn _)
  · rw [if_neg c10] at hf
    obtain ⟨a11, e12, hf⟩ := dr_some hf
    obtain ⟨g13, hf⟩ := gd_some hf
    obtain ⟨v16, h14, ec15, hf⟩ := cl_some hf
    have K17 := (Keep.refl W_P_touchPagesIn _).trans ((fr_E_leafOf (C := C) (mi := mi) ec15).mono (by decide) (by decide))
    rcases Classical.em (v16 = none) with c18 | c18
    · rw [if_pos c18] at hf
      cases (Option.some.inj hf)
      exact K17
    · rw [if_neg c18] at hf
      obtain ⟨a19, e20, hf⟩ := dr_some hf
      obtain ⟨g21, hf⟩ := gd_some hf
      rcases (Classical.em ((hpR h14 a19 0) = y1)).symm with c22 | c22
      · rw [if_neg c22] at hf
        cases (Option.some.inj hf)
        exact K17
      · rw [if_pos c22] at hf
        obtain ⟨g23, hf⟩ := gd_some hf
        obtain ⟨h24, ec25, hf⟩ := cv_some hf
        have K26 := K17.trans ((fr_P_touchLeaf (C := C) (mi := mi) ec25).mono (by decide) (by decide))
        cases (Option.some.inj hf)
        exact K26
def l_P_touchPagesIn_54 (y0 : Nat) (y1 : Option Nat) (y2 : Option Nat) (y4 : Int32) (s : Int32 × Int32 × Hp) : Option (Int32 × Hp) := lp (fun s => b_P_touchPagesIn_54 y0 y1 y2 s.1 y4 s.2.1 s.2.2) FU s
theorem zzl_P_touchPagesIn_54 {l : Launch} {C : Ct} {mi : Nat} {y0 : Nat} {y1 : Option Nat} {y2 : Option Nat} {y4 : Int32} {h' : Hp} {v : Int32} : ∀ (n : Nat) (s : Int32 × Int32 × Hp) (x : (Int32 × Hp)), lp (fun s : Int32 × Int32 × Hp => b_P_touchPagesIn_54 y0 y1 y2 s.1 y4 s.2.1 s.2.2) n s = some x → Z l C mi m_P_touchPagesIn 1 101 [(0, vr (some y0)), (1, vr y1), (2, vr y2), (3, vi x.1), (4, vi y4)] [] x.2 (some (vi v)) h' → Z l C mi m_P_touchPagesIn 1 54 [(0, vr (some y0)), (1, vr y1), (2, vr y2), (3, vi s.1), (4, vi y4), (5, vi s.2.1)] [] s.2.2 (some (vi v)) h' := by
  intro n
  induction n with
  | zero => intro s x hl; cases hl
  | succ n ih =>
    intro s x hl ke
    rcases lp_some hl with ⟨s2, hb, hl2⟩ | hb
    · exact zb_P_touchPagesIn_54 hb (fun s3 e3 => by cases e3; refine z_ls [0, 1, 2, 3, 4, 5] rfl ?_; exact ih s2 x hl2 ke) (fun x e3 => by cases e3)
    · exact zb_P_touchPagesIn_54 hb (fun s3 e3 => by cases e3) (fun x e3 => by cases e3; exact ke)
theorem zl_P_touchPagesIn_54 {l : Launch} {C : Ct} {mi : Nat} {y0 : Nat} {y1 : Option Nat} {y2 : Option Nat} {y4 : Int32} {h' : Hp} {v : Int32} {s : Int32 × Int32 × Hp} {x : (Int32 × Hp)} (hl : l_P_touchPagesIn_54 y0 y1 y2 y4 s = some x) (ke : Z l C mi m_P_touchPagesIn 1 101 [(0, vr (some y0)), (1, vr y1), (2, vr y2), (3, vi x.1), (4, vi y4)] [] x.2 (some (vi v)) h') : Z l C mi m_P_touchPagesIn 1 54 [(0, vr (some y0)), (1, vr y1), (2, vr y2), (3, vi s.1), (4, vi y4), (5, vi s.2.1)] [] s.2.2 (some (vi v)) h' := zzl_P_touchPagesIn_54 FU s x hl ke
theorem kl_P_touchPagesIn_54 {C : Ct} {mi : Nat} {y0 : Nat} {y1 : Option Nat} {y2 : Option Nat} {y4 : Int32} {s : Int32 × Int32 × Hp} {q : (Int32 × Hp)} (hl : l_P_touchPagesIn_54 y0 y1 y2 y4 s = some q) : Keep W_P_touchPagesIn s.2.2 ((fun x : Int32 × Hp => x.2) q) := lpk (sh := (fun s : Int32 × Int32 × Hp => s.2.2)) (rh := (fun x : Int32 × Hp => x.2)) (fun s q hb => kb_P_touchPagesIn_54 (C := C) (mi := mi) hb) FU s q hl
def j_P_touchPagesIn_51_L5 (y0 : Nat) (y1 : Option Nat) (y2 : Option Nat) (y3 : Int32) (y4 : Int32) (h : Hp) : Option ((Int32 × Int32 × Hp) ⊕ (Int32 × Hp)) :=
  bd (l_P_touchPagesIn_54 y0 y1 y2 y4 (y3, (0 : Int32), h)) fun x27 => some (.inl (x27.1, (y4 + (1 : Int32)), x27.2))
set_option maxRecDepth 100000 in
set_option maxHeartbeats 4000000 in
theorem zj_P_touchPagesIn_51_L5 {l : Launch} {C : Ct} {mi : Nat} {y0 : Nat} {y1 : Option Nat} {y2 : Option Nat} {y3 : Int32} {y4 : Int32} {h h' : Hp} {v : Int32} {q : ((Int32 × Int32 × Hp) ⊕ (Int32 × Hp))} (hf : j_P_touchPagesIn_51_L5 y0 y1 y2 y3 y4 h = some q) (kc : ∀ s, q = .inl s → Z l C mi m_P_touchPagesIn 1 5 [(0, vr (some y0)), (1, vr y1), (2, vr y2), (3, vi s.1), (4, vi s.2.1)] [] s.2.2 (some (vi v)) h') (ke : ∀ x, q = .inr x → Z l C mi m_P_touchPagesIn 1 107 [(3, vi x.1)] [] x.2 (some (vi v)) h') : Z l C mi m_P_touchPagesIn 1 51 [(0, vr (some y0)), (1, vr y1), (2, vr y2), (3, vi y3), (4, vi y4)] [] h (some (vi v)) h' := by
  unfold j_P_touchPagesIn_51_L5 at hf
  refine z_iconst (v := (0 : Int32)) d_P_touchPagesIn_51 rfl ?_
  refine z_istore (ls2 := [(5, vi (0 : Int32)), (0, vr (some y0)), (1, vr y1), (2, vr y2), (3, vi y3), (4, vi y4)]) d_P_touchPagesIn_52 (by decide) rfl ?_
  obtain ⟨x27, el28, hf⟩ := bd_some hf
  refine z_ls [1, 2, 3, 4, 5, 0] rfl ?_
  refine zl_P_touchPagesIn_54 el28 ?_
  refine z_iinc (ls2 := [(4, vi (y4 + (1 : Int32))), (0, vr (some y0)), (1, vr y1), (2, vr y2), (3, vi x27.1)]) 4 d_P_touchPagesIn_101 rfl rfl (by decide) rfl ?_
  refine z_goto (tgt := 5) d_P_touchPagesIn_104 (by decide) ?_
  refine z_ls [1, 2, 3, 4, 0] rfl ?_
  exact kc (x27.1, (y4 + (1 : Int32)), x27.2) (Option.some.inj hf).symm
set_option maxRecDepth 100000 in
set_option maxHeartbeats 4000000 in
theorem kj_P_touchPagesIn_51_L5 {C : Ct} {mi : Nat} {y0 : Nat} {y1 : Option Nat} {y2 : Option Nat} {y3 : Int32} {y4 : Int32} {h : Hp} {q : ((Int32 × Int32 × Hp) ⊕ (Int32 × Hp))} (hf : j_P_touchPagesIn_51_L5 y0 y1 y2 y3 y4 h = some q) : Keep W_P_touchPagesIn h (Sum.elim (fun s : Int32 × Int32 × Hp => s.2.2) (fun x : Int32 × Hp => x.2) q) := by
  unfold j_P_touchPagesIn_51_L5 at hf
  obtain ⟨x27, el28, hf⟩ := bd_some hf
  have K29 := (Keep.refl W_P_touchPagesIn _).trans (kl_P_touchPagesIn_54 (C := C) (mi := mi) el28)
  cases (Option.some.inj hf)
  exact K29
def b_P_touchPagesIn_5 (y0 : Nat) (y1 : Option Nat) (y2 : Option Nat) (y3 : Int32) (y4 : Int32) (h : Hp) : Option ((Int32 × Int32 × Hp) ⊕ (Int32 × Hp)) :=
  if (4 : Int32) ≤ y4 then (some (.inr (y3, h))) else (dr y2 fun a2 => gd (isK h a2 4) (dr (hpR h a2 4) fun a5 => gd (isK h a5 104) (gd (inb y4 (hpL h a5)) (if (hpR h a5 y4.toNatClampNeg) = none then (j_P_touchPagesIn_51_L5 y0 y1 y2 y3 y4 h) else (dr (hpR h a5 y4.toNatClampNeg) fun a30 => gd (isK h a30 6) (if (hpR h a30 0) = y1 then (gd (isK h y0 5) (nm (wI h y0 3 ((hpI h y0 3) ||| ((1 : Int32) <<< (y4 &&& 31)))) fun h35 => j_P_touchPagesIn_51_L5 y0 y1 y2 (y3 + (1 : Int32)) y4 h35)) else (j_P_touchPagesIn_51_L5 y0 y1 y2 y3 y4 h)))))))
set_option maxRecDepth 100000 in
set_option maxHeartbeats 4000000 in
theorem zb_P_touchPagesIn_5 {l : Launch} {C : Ct} {mi : Nat} {y0 : Nat} {y1 : Option Nat} {y2 : Option Nat} {y3 : Int32} {y4 : Int32} {h h' : Hp} {v : Int32} {q : ((Int32 × Int32 × Hp) ⊕ (Int32 × Hp))} (hf : b_P_touchPagesIn_5 y0 y1 y2 y3 y4 h = some q) (kc : ∀ s, q = .inl s → Z l C mi m_P_touchPagesIn 1 5 [(0, vr (some y0)), (1, vr y1), (2, vr y2), (3, vi s.1), (4, vi s.2.1)] [] s.2.2 (some (vi v)) h') (ke : ∀ x, q = .inr x → Z l C mi m_P_touchPagesIn 1 107 [(3, vi x.1)] [] x.2 (some (vi v)) h') : Z l C mi m_P_touchPagesIn 1 5 [(0, vr (some y0)), (1, vr y1), (2, vr y2), (3, vi y3), (4, vi y4)] [] h (some (vi v)) h' := by
  unfold b_P_touchPagesIn_5 at hf
  refine z_iload 4 d_P_touchPagesIn_5 rfl ?_
  refine z_iconst (v := (4 : Int32)) d_P_touchPagesIn_7 rfl ?_
  refine z_icmp_ge (tgt := 107) d_P_touchPagesIn_8 (by decide) (fun c1 => ?_) (fun c1 => ?_)
  · rw [if_pos c1] at hf
    refine z_ls [3] rfl ?_
    exact ke (y3, h) (Option.some.inj hf).symm
  · rw [if_neg c1] at hf
    refine z_aload_n 2 d_P_touchPagesIn_11 rfl rfl ?_
    obtain ⟨a2, e3, hf⟩ := dr_some hf
    obtain ⟨g4, hf⟩ := gd_some hf
    refine z_getR d_P_touchPagesIn_12 (fl_K (isK_eq g4) fl_P_35_4) (fi_K (isK_eq g4) rfl) e3 ?_
    refine z_iload 4 d_P_touchPagesIn_15 rfl ?_
    obtain ⟨a5, e6, hf⟩ := dr_some hf
    obtain ⟨g7, hf⟩ := gd_some hf
    obtain ⟨g8, hf⟩ := gd_some hf
    refine z_aald d_P_touchPagesIn_17 e6 (by rw [isK_eq g7]; decide) (by rw [isK_eq g7]; decide) (inb_vp g8) ?_
    refine z_ifnull (tgt := 51) d_P_touchPagesIn_18 (by decide) (fun c9 => ?_) (fun c9 => ?_)
    · rw [if_pos c9] at hf
      refine z_ls [0, 1, 2, 3, 4] rfl ?_
      exact zj_P_touchPagesIn_51_L5 hf kc ke
    · rw [if_neg c9] at hf
      refine z_aload_n 2 d_P_touchPagesIn_21 rfl rfl ?_
      refine z_getR d_P_touchPagesIn_22 (fl_K (isK_eq g4) fl_P_35_4) (fi_K (isK_eq g4) rfl) e3 ?_
      refine z_iload 4 d_P_touchPagesIn_25 rfl ?_
      refine z_aald d_P_touchPagesIn_27 e6 (by rw [isK_eq g7]; decide) (by rw [isK_eq g7]; decide) (inb_vp g8) ?_
      obtain ⟨a30, e31, hf⟩ := dr_some hf
      obtain ⟨g32, hf⟩ := gd_some hf
      refine z_getR d_P_touchPagesIn_28 (fl_K (isK_eq g32) fl_P_41_6) (fi_K (isK_eq g32) rfl) e31 ?_
      refine z_aload_n 1 d_P_touchPagesIn_31 rfl rfl ?_
      refine z_acmp_ne (tgt := 51) d_P_touchPagesIn_32 (by decide) (fun c33 => ?_) (fun c33 => ?_)
      · rw [if_neg c33] at hf
        refine z_ls [0, 1, 2, 3, 4] rfl ?_
        exact zj_P_touchPagesIn_51_L5 hf kc ke
      · rw [if_pos c33] at hf
        refine z_aload_n 0 d_P_touchPagesIn_35 rfl rfl ?_
        refine z_dup d_P_touchPagesIn_36 rfl ?_
        obtain ⟨g34, hf⟩ := gd_some hf
        refine z_getI d_P_touchPagesIn_37 (fl_K (isK_eq g34) fl_P_22_5) (fi_K (isK_eq g34) rfl) rfl ?_
        refine z_iconst (v := (1 : Int32)) d_P_touchPagesIn_40 rfl ?_
        refine z_iload 4 d_P_touchPagesIn_41 rfl ?_
        refine z_ishl d_P_touchPagesIn_43 ?_
        refine z_ior d_P_touchPagesIn_44 ?_
        obtain ⟨h35, eh36, hf⟩ := nm_some hf
        refine z_putI d_P_touchPagesIn_45 (fl_K (isK_eq g34) fl_P_22_5) (pu_K (isK_eq g34) (fun q hq => by cases (Option.some.inj hq); exact Or.inl rfl)) (fi_K (isK_eq g34) rfl) rfl ?_
        refine z_hp eh36 ?_
        refine z_iinc (ls2 := [(3, vi (y3 + (1 : Int32))), (0, vr (some y0)), (1, vr y1), (2, vr y2), (4, vi y4)]) 3 d_P_touchPagesIn_48 rfl rfl (by decide) rfl ?_
        refine z_ls [1, 2, 3, 0, 4] rfl ?_
        exact zj_P_touchPagesIn_51_L5 hf kc ke
set_option maxRecDepth 100000 in
set_option maxHeartbeats 4000000 in
theorem kb_P_touchPagesIn_5 {C : Ct} {mi : Nat} {y0 : Nat} {y1 : Option Nat} {y2 : Option Nat} {y3 : Int32} {y4 : Int32} {h : Hp} {q : ((Int32 × Int32 × Hp) ⊕ (Int32 × Hp))} (hf : b_P_touchPagesIn_5 y0 y1 y2 y3 y4 h = some q) : Keep W_P_touchPagesIn h (Sum.elim (fun s : Int32 × Int32 × Hp => s.2.2) (fun x : Int32 × Hp => x.2) q) := by
  unfold b_P_touchPagesIn_5 at hf
  rcases Classical.em ((4 : Int32) ≤ y4) with c1 | c1
  · rw [if_pos c1] at hf
    cases (Option.some.inj hf)
    exact (Keep.refl W_P_touchPagesIn _)
  · rw [if_neg c1] at hf
    obtain ⟨a2, e3, hf⟩ := dr_some hf
    obtain ⟨g4, hf⟩ := gd_some hf
    obtain ⟨a5, e6, hf⟩ := dr_some hf
    obtain ⟨g7, hf⟩ := gd_some hf
    obtain ⟨g8, hf⟩ := gd_some hf
    rcases Classical.em ((hpR h a5 y4.toNatClampNeg) = none) with c9 | c9
    · rw [if_pos c9] at hf
      exact (Keep.refl W_P_touchPagesIn _).trans (kj_P_touchPagesIn_51_L5 (C := C) (mi := mi) hf)
    · rw [if_neg c9] at hf
      obtain ⟨a30, e31, hf⟩ := dr_some hf
      obtain ⟨g32, hf⟩ := gd_some hf
      rcases (Classical.em ((hpR h a30 0) = y1)).symm with c33 | c33
      · rw [if_neg c33] at hf
        exact (Keep.refl W_P_touchPagesIn _).trans (kj_P_touchPagesIn_51_L5 (C := C) (mi := mi) hf)
      · rw [if_pos c33] at hf
        obtain ⟨g34, hf⟩ := gd_some hf
        obtain ⟨h35, eh36, hf⟩ := nm_some hf
        have K37 := (Keep.refl W_P_touchPagesIn _).trans (kw_I eh36 (isK_eq g34) (Or.inl (by decide)))
        exact K37.trans (kj_P_touchPagesIn_51_L5 (C := C) (mi := mi) hf)
def l_P_touchPagesIn_5 (y0 : Nat) (y1 : Option Nat) (y2 : Option Nat) (s : Int32 × Int32 × Hp) : Option (Int32 × Hp) := lp (fun s => b_P_touchPagesIn_5 y0 y1 y2 s.1 s.2.1 s.2.2) FU s
theorem zzl_P_touchPagesIn_5 {l : Launch} {C : Ct} {mi : Nat} {y0 : Nat} {y1 : Option Nat} {y2 : Option Nat} {h' : Hp} {v : Int32} : ∀ (n : Nat) (s : Int32 × Int32 × Hp) (x : (Int32 × Hp)), lp (fun s : Int32 × Int32 × Hp => b_P_touchPagesIn_5 y0 y1 y2 s.1 s.2.1 s.2.2) n s = some x → Z l C mi m_P_touchPagesIn 1 107 [(3, vi x.1)] [] x.2 (some (vi v)) h' → Z l C mi m_P_touchPagesIn 1 5 [(0, vr (some y0)), (1, vr y1), (2, vr y2), (3, vi s.1), (4, vi s.2.1)] [] s.2.2 (some (vi v)) h' := by
  intro n
  induction n with
  | zero => intro s x hl; cases hl
  | succ n ih =>
    intro s x hl ke
    rcases lp_some hl with ⟨s2, hb, hl2⟩ | hb
    · exact zb_P_touchPagesIn_5 hb (fun s3 e3 => by cases e3; refine z_ls [0, 1, 2, 3, 4] rfl ?_; exact ih s2 x hl2 ke) (fun x e3 => by cases e3)
    · exact zb_P_touchPagesIn_5 hb (fun s3 e3 => by cases e3) (fun x e3 => by cases e3; exact ke)
theorem zl_P_touchPagesIn_5 {l : Launch} {C : Ct} {mi : Nat} {y0 : Nat} {y1 : Option Nat} {y2 : Option Nat} {h' : Hp} {v : Int32} {s : Int32 × Int32 × Hp} {x : (Int32 × Hp)} (hl : l_P_touchPagesIn_5 y0 y1 y2 s = some x) (ke : Z l C mi m_P_touchPagesIn 1 107 [(3, vi x.1)] [] x.2 (some (vi v)) h') : Z l C mi m_P_touchPagesIn 1 5 [(0, vr (some y0)), (1, vr y1), (2, vr y2), (3, vi s.1), (4, vi s.2.1)] [] s.2.2 (some (vi v)) h' := zzl_P_touchPagesIn_5 FU s x hl ke
theorem kl_P_touchPagesIn_5 {C : Ct} {mi : Nat} {y0 : Nat} {y1 : Option Nat} {y2 : Option Nat} {s : Int32 × Int32 × Hp} {q : (Int32 × Hp)} (hl : l_P_touchPagesIn_5 y0 y1 y2 s = some q) : Keep W_P_touchPagesIn s.2.2 ((fun x : Int32 × Hp => x.2) q) := lpk (sh := (fun s : Int32 × Int32 × Hp => s.2.2)) (rh := (fun x : Int32 × Hp => x.2)) (fun s q hb => kb_P_touchPagesIn_5 (C := C) (mi := mi) hb) FU s q hl
def f_P_touchPagesIn (a0 : Nat) (p1 : Option Nat) (p2 : Option Nat) (h : Hp) : Option (Int32 × Hp) :=
  bd (l_P_touchPagesIn_5 a0 p1 p2 ((0 : Int32), (0 : Int32), h)) fun x38 => some (x38.1, x38.2)
set_option maxRecDepth 100000 in
set_option maxHeartbeats 4000000 in
theorem zf_P_touchPagesIn {l : Launch} {C : Ct} {mi : Nat} {a0 : Nat} {p1 : Option Nat} {p2 : Option Nat} {h h' : Hp} {v : Int32} (hf : f_P_touchPagesIn a0 p1 p2 h = some (v, h')) : Z l C mi m_P_touchPagesIn 1 0 [(0, vr (some a0)), (1, vr p1), (2, vr p2)] [] h (some (vi v)) h' := by
  unfold f_P_touchPagesIn at hf
  refine z_iconst (v := (0 : Int32)) d_P_touchPagesIn_0 rfl ?_
  refine z_istore_n (ls2 := [(3, vi (0 : Int32)), (0, vr (some a0)), (1, vr p1), (2, vr p2)]) d_P_touchPagesIn_1 rfl (by decide) rfl ?_
  refine z_iconst (v := (0 : Int32)) d_P_touchPagesIn_2 rfl ?_
  refine z_istore (ls2 := [(4, vi (0 : Int32)), (3, vi (0 : Int32)), (0, vr (some a0)), (1, vr p1), (2, vr p2)]) d_P_touchPagesIn_3 (by decide) rfl ?_
  obtain ⟨x38, el39, hf⟩ := bd_some hf
  refine z_ls [2, 3, 4, 1, 0] rfl ?_
  refine zl_P_touchPagesIn_5 el39 ?_
  refine z_iload_n 0 d_P_touchPagesIn_107 rfl rfl ?_
  obtain ⟨rfl, rfl⟩ := Prod.mk.inj (Option.some.inj hf)
  exact z_ret d_P_touchPagesIn_108 rfl
set_option maxRecDepth 100000 in
set_option maxHeartbeats 4000000 in
theorem fr_P_touchPagesIn {C : Ct} {mi : Nat} {a0 : Nat} {p1 : Option Nat} {p2 : Option Nat} {h h' : Hp} {v : Int32} (hf : f_P_touchPagesIn a0 p1 p2 h = some (v, h')) : Keep W_P_touchPagesIn h h' := by
  unfold f_P_touchPagesIn at hf
  obtain ⟨x38, el39, hf⟩ := bd_some hf
  have K40 := (Keep.refl W_P_touchPagesIn _).trans (kl_P_touchPagesIn_5 (C := C) (mi := mi) el39)
  obtain ⟨rfl, rfl⟩ := Prod.mk.inj (Option.some.inj hf)
  exact K40
theorem c_P_touchPagesIn {l : Launch} {C : Ct} {mi : Nat} {a0 : Nat} {p1 : Option Nat} {p2 : Option Nat} {h h' : Hp} {v : Int32} (hf : f_P_touchPagesIn a0 p1 p2 h = some (v, h')) : Mt l C mi m_P_touchPagesIn 1 [vr (some a0), vr p1, vr p2] h (some (vi v)) h' := mt_I (ty := .int) rfl rfl rfl (by decide) (Nat.le_of_ble_eq_true rfl) (zf_P_touchPagesIn hf)
-- VersionMaps$Present.size()I
def m_P_size : Mi := (⟨"VersionMaps$Present", "size", "()I"⟩, prog_7_method_6_code, 3, (Option.some Jvm.ClassFile.FieldType.int), .ireturn)
theorem cw_P_size : cw_ok m_P_size 0 := ⟨by decide +kernel, by decide +kernel, by decide +kernel, by decide +kernel⟩
theorem im_P_size : Cond.instanceMethod m_P_size.1 ∈ lw_w := by decide +kernel
theorem se_P_size : Cond.selects "VersionMaps$Present" m_P_size.1 m_P_size.1 ∈ lw_w := by decide +kernel
theorem d_P_size_0 : decode prog_7_method_6_code 0 = .ok (.iconst 0, 1) := by decide +kernel
theorem d_P_size_1 : decode prog_7_method_6_code 1 = .ok (.istore_n 1, 1) := by decide +kernel
theorem d_P_size_2 : decode prog_7_method_6_code 2 = .ok (.iconst 0, 1) := by decide +kernel
theorem d_P_size_3 : decode prog_7_method_6_code 3 = .ok (.istore_n 2, 1) := by decide +kernel
theorem d_P_size_4 : decode prog_7_method_6_code 4 = .ok (.iload_n 2, 1) := by decide +kernel
theorem d_P_size_5 : decode prog_7_method_6_code 5 = .ok (.iconst 4, 1) := by decide +kernel
theorem d_P_size_6 : decode prog_7_method_6_code 6 = .ok (.if_icmp .ge 21, 3) := by decide +kernel
theorem d_P_size_9 : decode prog_7_method_6_code 9 = .ok (.iload_n 1, 1) := by decide +kernel
theorem d_P_size_10 : decode prog_7_method_6_code 10 = .ok (.aload_n 0, 1) := by decide +kernel
theorem d_P_size_11 : decode prog_7_method_6_code 11 = .ok (.getfield 15, 3) := by decide +kernel
theorem d_P_size_14 : decode prog_7_method_6_code 14 = .ok (.iload_n 2, 1) := by decide +kernel
theorem d_P_size_15 : decode prog_7_method_6_code 15 = .ok (.iaload, 1) := by decide +kernel
theorem d_P_size_16 : decode prog_7_method_6_code 16 = .ok (.invokestatic 29, 3) := by decide +kernel
theorem d_P_size_19 : decode prog_7_method_6_code 19 = .ok (.iadd, 1) := by decide +kernel
theorem d_P_size_20 : decode prog_7_method_6_code 20 = .ok (.istore_n 1, 1) := by decide +kernel
theorem d_P_size_21 : decode prog_7_method_6_code 21 = .ok (.iinc 2 1, 3) := by decide +kernel
theorem d_P_size_24 : decode prog_7_method_6_code 24 = .ok (.goto (-20), 3) := by decide +kernel
theorem d_P_size_27 : decode prog_7_method_6_code 27 = .ok (.iload_n 1, 1) := by decide +kernel
theorem d_P_size_28 : decode prog_7_method_6_code 28 = .ok (.ireturn, 1) := by decide +kernel
def W_P_size : Wl := ([], [])
def b_P_size_4 (y0 : Nat) (y1 : Int32) (y2 : Int32) (h : Hp) : Option ((Int32 × Int32 × Hp) ⊕ (Int32 × Hp)) :=
  if (4 : Int32) ≤ y2 then (some (.inr (y1, h))) else (gd (isK h y0 5) (dr (hpR h y0 1) fun a3 => gd (isK h a3 67) (gd (inb y2 (hpL h a3)) (cl (f_In_bitCount (hpI h a3 y2.toNatClampNeg) h) fun v9 h7 => some (.inl ((y1 + v9), (y2 + (1 : Int32)), h7))))))
set_option maxRecDepth 100000 in
set_option maxHeartbeats 4000000 in
theorem zb_P_size_4 {l : Launch} {C : Ct} {mi : Nat} {y0 : Nat} {y1 : Int32} {y2 : Int32} {h h' : Hp} {v : Int32} {q : ((Int32 × Int32 × Hp) ⊕ (Int32 × Hp))} (hf : b_P_size_4 y0 y1 y2 h = some q) (kc : ∀ s, q = .inl s → Z l C mi m_P_size 1 4 [(0, vr (some y0)), (1, vi s.1), (2, vi s.2.1)] [] s.2.2 (some (vi v)) h') (ke : ∀ x, q = .inr x → Z l C mi m_P_size 1 27 [(1, vi x.1)] [] x.2 (some (vi v)) h') : Z l C mi m_P_size 1 4 [(0, vr (some y0)), (1, vi y1), (2, vi y2)] [] h (some (vi v)) h' := by
  unfold b_P_size_4 at hf
  refine z_iload_n 2 d_P_size_4 rfl rfl ?_
  refine z_iconst (v := (4 : Int32)) d_P_size_5 rfl ?_
  refine z_icmp_ge (tgt := 27) d_P_size_6 (by decide) (fun c1 => ?_) (fun c1 => ?_)
  · rw [if_pos c1] at hf
    refine z_ls [1] rfl ?_
    exact ke (y1, h) (Option.some.inj hf).symm
  · rw [if_neg c1] at hf
    refine z_iload_n 1 d_P_size_9 rfl rfl ?_
    refine z_aload_n 0 d_P_size_10 rfl rfl ?_
    obtain ⟨g2, hf⟩ := gd_some hf
    refine z_getR d_P_size_11 (fl_K (isK_eq g2) fl_P_15_5) (fi_K (isK_eq g2) rfl) rfl ?_
    refine z_iload_n 2 d_P_size_14 rfl rfl ?_
    obtain ⟨a3, e4, hf⟩ := dr_some hf
    obtain ⟨g5, hf⟩ := gd_some hf
    obtain ⟨g6, hf⟩ := gd_some hf
    refine z_iald d_P_size_15 e4 (by rw [isK_eq g5]; decide) (by rw [isK_eq g5]; rfl) (inb_vp g6) ?_
    obtain ⟨v9, h7, ec8, hf⟩ := cl_some hf
    refine z_callS (c_In_bitCount ec8) d_P_size_16 cw_In_bitCount lk_P_29 (by decide +kernel) ⟨by decide, by decide⟩ (Nat.le_of_ble_eq_true rfl) rfl ?_
    refine z_iadd d_P_size_19 ?_
    refine z_istore_n (ls2 := [(1, vi (y1 + v9)), (0, vr (some y0)), (2, vi y2)]) d_P_size_20 rfl (by decide) rfl ?_
    refine z_iinc (ls2 := [(2, vi (y2 + (1 : Int32))), (1, vi (y1 + v9)), (0, vr (some y0))]) 2 d_P_size_21 rfl rfl (by decide) rfl ?_
    refine z_goto (tgt := 4) d_P_size_24 (by decide) ?_
    refine z_ls [2, 1, 0] rfl ?_
    exact kc ((y1 + v9), (y2 + (1 : Int32)), h7) (Option.some.inj hf).symm
set_option maxRecDepth 100000 in
set_option maxHeartbeats 4000000 in
theorem kb_P_size_4 {C : Ct} {mi : Nat} {y0 : Nat} {y1 : Int32} {y2 : Int32} {h : Hp} {q : ((Int32 × Int32 × Hp) ⊕ (Int32 × Hp))} (hf : b_P_size_4 y0 y1 y2 h = some q) : Keep W_P_size h (Sum.elim (fun s : Int32 × Int32 × Hp => s.2.2) (fun x : Int32 × Hp => x.2) q) := by
  unfold b_P_size_4 at hf
  rcases Classical.em ((4 : Int32) ≤ y2) with c1 | c1
  · rw [if_pos c1] at hf
    cases (Option.some.inj hf)
    exact (Keep.refl W_P_size _)
  · rw [if_neg c1] at hf
    obtain ⟨g2, hf⟩ := gd_some hf
    obtain ⟨a3, e4, hf⟩ := dr_some hf
    obtain ⟨g5, hf⟩ := gd_some hf
    obtain ⟨g6, hf⟩ := gd_some hf
    obtain ⟨v9, h7, ec8, hf⟩ := cl_some hf
    have K10 := (Keep.refl W_P_size _).trans ((fr_In_bitCount (C := C) (mi := mi) ec8).mono (by decide) (by decide))
    cases (Option.some.inj hf)
    exact K10
def l_P_size_4 (y0 : Nat) (s : Int32 × Int32 × Hp) : Option (Int32 × Hp) := lp (fun s => b_P_size_4 y0 s.1 s.2.1 s.2.2) FU s
theorem zzl_P_size_4 {l : Launch} {C : Ct} {mi : Nat} {y0 : Nat} {h' : Hp} {v : Int32} : ∀ (n : Nat) (s : Int32 × Int32 × Hp) (x : (Int32 × Hp)), lp (fun s : Int32 × Int32 × Hp => b_P_size_4 y0 s.1 s.2.1 s.2.2) n s = some x → Z l C mi m_P_size 1 27 [(1, vi x.1)] [] x.2 (some (vi v)) h' → Z l C mi m_P_size 1 4 [(0, vr (some y0)), (1, vi s.1), (2, vi s.2.1)] [] s.2.2 (some (vi v)) h' := by
  intro n
  induction n with
  | zero => intro s x hl; cases hl
  | succ n ih =>
    intro s x hl ke
    rcases lp_some hl with ⟨s2, hb, hl2⟩ | hb
    · exact zb_P_size_4 hb (fun s3 e3 => by cases e3; refine z_ls [0, 1, 2] rfl ?_; exact ih s2 x hl2 ke) (fun x e3 => by cases e3)
    · exact zb_P_size_4 hb (fun s3 e3 => by cases e3) (fun x e3 => by cases e3; exact ke)
theorem zl_P_size_4 {l : Launch} {C : Ct} {mi : Nat} {y0 : Nat} {h' : Hp} {v : Int32} {s : Int32 × Int32 × Hp} {x : (Int32 × Hp)} (hl : l_P_size_4 y0 s = some x) (ke : Z l C mi m_P_size 1 27 [(1, vi x.1)] [] x.2 (some (vi v)) h') : Z l C mi m_P_size 1 4 [(0, vr (some y0)), (1, vi s.1), (2, vi s.2.1)] [] s.2.2 (some (vi v)) h' := zzl_P_size_4 FU s x hl ke
theorem kl_P_size_4 {C : Ct} {mi : Nat} {y0 : Nat} {s : Int32 × Int32 × Hp} {q : (Int32 × Hp)} (hl : l_P_size_4 y0 s = some q) : Keep W_P_size s.2.2 ((fun x : Int32 × Hp => x.2) q) := lpk (sh := (fun s : Int32 × Int32 × Hp => s.2.2)) (rh := (fun x : Int32 × Hp => x.2)) (fun s q hb => kb_P_size_4 (C := C) (mi := mi) hb) FU s q hl
def f_P_size (a0 : Nat) (h : Hp) : Option (Int32 × Hp) :=
  bd (l_P_size_4 a0 ((0 : Int32), (0 : Int32), h)) fun x11 => some (x11.1, x11.2)
set_option maxRecDepth 100000 in
set_option maxHeartbeats 4000000 in
theorem zf_P_size {l : Launch} {C : Ct} {mi : Nat} {a0 : Nat} {h h' : Hp} {v : Int32} (hf : f_P_size a0 h = some (v, h')) : Z l C mi m_P_size 1 0 [(0, vr (some a0))] [] h (some (vi v)) h' := by
  unfold f_P_size at hf
  refine z_iconst (v := (0 : Int32)) d_P_size_0 rfl ?_
  refine z_istore_n (ls2 := [(1, vi (0 : Int32)), (0, vr (some a0))]) d_P_size_1 rfl (by decide) rfl ?_
  refine z_iconst (v := (0 : Int32)) d_P_size_2 rfl ?_
  refine z_istore_n (ls2 := [(2, vi (0 : Int32)), (1, vi (0 : Int32)), (0, vr (some a0))]) d_P_size_3 rfl (by decide) rfl ?_
  obtain ⟨x11, el12, hf⟩ := bd_some hf
  refine z_ls [2, 1, 0] rfl ?_
  refine zl_P_size_4 el12 ?_
  refine z_iload_n 0 d_P_size_27 rfl rfl ?_
  obtain ⟨rfl, rfl⟩ := Prod.mk.inj (Option.some.inj hf)
  exact z_ret d_P_size_28 rfl
set_option maxRecDepth 100000 in
set_option maxHeartbeats 4000000 in
theorem fr_P_size {C : Ct} {mi : Nat} {a0 : Nat} {h h' : Hp} {v : Int32} (hf : f_P_size a0 h = some (v, h')) : Keep W_P_size h h' := by
  unfold f_P_size at hf
  obtain ⟨x11, el12, hf⟩ := bd_some hf
  have K13 := (Keep.refl W_P_size _).trans (kl_P_size_4 (C := C) (mi := mi) el12)
  obtain ⟨rfl, rfl⟩ := Prod.mk.inj (Option.some.inj hf)
  exact K13
theorem c_P_size {l : Launch} {C : Ct} {mi : Nat} {a0 : Nat} {h h' : Hp} {v : Int32} (hf : f_P_size a0 h = some (v, h')) : Mt l C mi m_P_size 1 [vr (some a0)] h (some (vi v)) h' := mt_I (ty := .int) rfl rfl rfl (by decide) (Nat.le_of_ble_eq_true rfl) (zf_P_size hf)
end
