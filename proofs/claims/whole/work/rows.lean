section
-- ===== PART A: goes FIRST, ahead of the names: the tables' words, and 'selects' of the private methods out of them =====
/-- a private method of a class that the tables say can be made, by its rows of tables_1 -/
def lw_okq (q : MethodName × Nat) : Prop := (q.1.cls ≠ "java/lang/invoke/MethodHandle" ∧ q.1.cls ≠ "java/lang/invoke/VarHandle") ∧ Cond.instantiable q.1.cls q.2 ∈ tables_1 ∧ Cond.privateMethod q.1 ∈ tables_1 ∧ Cond.instanceMethod q.1 ∈ tables_1
theorem lw_p0 : lw_okq (⟨"ComparatorNetworks", "remember", "(I)V"⟩, 13) := ⟨⟨by decide +kernel, by decide +kernel⟩, List.mem_of_getElem? (i := 19) (by decide +kernel), List.mem_of_getElem? (i := 292) (by decide +kernel), List.mem_of_getElem? (i := 293) (by decide +kernel)⟩
theorem lw_p1 : lw_okq (⟨"ComparatorNetworks", "isPosition", "(II)Z"⟩, 13) := ⟨⟨by decide +kernel, by decide +kernel⟩, List.mem_of_getElem? (i := 19) (by decide +kernel), List.mem_of_getElem? (i := 326) (by decide +kernel), List.mem_of_getElem? (i := 327) (by decide +kernel)⟩
theorem lw_p2 : lw_okq (⟨"ComparatorNetworks", "pushInto", "(IIII)I"⟩, 13) := ⟨⟨by decide +kernel, by decide +kernel⟩, List.mem_of_getElem? (i := 19) (by decide +kernel), List.mem_of_getElem? (i := 343) (by decide +kernel), List.mem_of_getElem? (i := 344) (by decide +kernel)⟩
theorem lw_p3 : lw_okq (⟨"ComparatorNetworks$Network", "passLayers", "(I)V"⟩, 5) := ⟨⟨by decide +kernel, by decide +kernel⟩, List.mem_of_getElem? (i := 28) (by decide +kernel), List.mem_of_getElem? (i := 380) (by decide +kernel), List.mem_of_getElem? (i := 381) (by decide +kernel)⟩
theorem lw_p4 : lw_okq (⟨"ComparatorNetworks", "replaceBySpare", "(I)I"⟩, 13) := ⟨⟨by decide +kernel, by decide +kernel⟩, List.mem_of_getElem? (i := 19) (by decide +kernel), List.mem_of_getElem? (i := 431) (by decide +kernel), List.mem_of_getElem? (i := 432) (by decide +kernel)⟩
theorem lw_p5 : lw_okq (⟨"ComparatorNetworks", "gatherOutputs", "(LComparatorNetworks$Network;LComparatorNetworks$OutputSet;)V"⟩, 13) := ⟨⟨by decide +kernel, by decide +kernel⟩, List.mem_of_getElem? (i := 19) (by decide +kernel), List.mem_of_getElem? (i := 478) (by decide +kernel), List.mem_of_getElem? (i := 479) (by decide +kernel)⟩
theorem lw_p6 : lw_okq (⟨"ComparatorNetworks", "sorts", "(LComparatorNetworks$Network;I)Z"⟩, 13) := ⟨⟨by decide +kernel, by decide +kernel⟩, List.mem_of_getElem? (i := 19) (by decide +kernel), List.mem_of_getElem? (i := 527) (by decide +kernel), List.mem_of_getElem? (i := 528) (by decide +kernel)⟩
theorem lw_p7 : lw_okq (⟨"ComparatorNetworks$Sweep", "failures", "(I)J"⟩, 3) := ⟨⟨by decide +kernel, by decide +kernel⟩, List.mem_of_getElem? (i := 142) (by decide +kernel), List.mem_of_getElem? (i := 535) (by decide +kernel), List.mem_of_getElem? (i := 536) (by decide +kernel)⟩
theorem lw_p8 : lw_okq (⟨"ComparatorNetworks$Chains", "noteExchanges", "(LComparatorNetworks$Network;)V"⟩, 2) := ⟨⟨by decide +kernel, by decide +kernel⟩, List.mem_of_getElem? (i := 216) (by decide +kernel), List.mem_of_getElem? (i := 598) (by decide +kernel), List.mem_of_getElem? (i := 599) (by decide +kernel)⟩
theorem lw_p9 : lw_okq (⟨"ComparatorNetworks$Chains", "begun", "(II)I"⟩, 2) := ⟨⟨by decide +kernel, by decide +kernel⟩, List.mem_of_getElem? (i := 216) (by decide +kernel), List.mem_of_getElem? (i := 608) (by decide +kernel), List.mem_of_getElem? (i := 609) (by decide +kernel)⟩
theorem lw_p10 : lw_okq (⟨"ComparatorNetworks", "lastNeedless", "(LComparatorNetworks$Network;)I"⟩, 13) := ⟨⟨by decide +kernel, by decide +kernel⟩, List.mem_of_getElem? (i := 19) (by decide +kernel), List.mem_of_getElem? (i := 643) (by decide +kernel), List.mem_of_getElem? (i := 644) (by decide +kernel)⟩
theorem lw_p11 : lw_okq (⟨"ComparatorNetworks$Network", "swapWiresBehind", "(III)V"⟩, 5) := ⟨⟨by decide +kernel, by decide +kernel⟩, List.mem_of_getElem? (i := 28) (by decide +kernel), List.mem_of_getElem? (i := 655) (by decide +kernel), List.mem_of_getElem? (i := 656) (by decide +kernel)⟩
theorem lw_p12 : lw_okq (⟨"ComparatorNetworks$Extensions", "rankOne", "(III)V"⟩, 6) := ⟨⟨by decide +kernel, by decide +kernel⟩, List.mem_of_getElem? (i := 189) (by decide +kernel), List.mem_of_getElem? (i := 683) (by decide +kernel), List.mem_of_getElem? (i := 684) (by decide +kernel)⟩
theorem lw_p13 : lw_okq (⟨"ComparatorNetworks$Extensions", "twoSort", "(II)Z"⟩, 6) := ⟨⟨by decide +kernel, by decide +kernel⟩, List.mem_of_getElem? (i := 189) (by decide +kernel), List.mem_of_getElem? (i := 715) (by decide +kernel), List.mem_of_getElem? (i := 716) (by decide +kernel)⟩
theorem lw_p14 : lw_okq (⟨"ComparatorNetworks$Extensions", "keepUnsorted", "(IIII)I"⟩, 6) := ⟨⟨by decide +kernel, by decide +kernel⟩, List.mem_of_getElem? (i := 189) (by decide +kernel), List.mem_of_getElem? (i := 719) (by decide +kernel), List.mem_of_getElem? (i := 720) (by decide +kernel)⟩
theorem lw_p15 : lw_okq (⟨"ComparatorNetworks$Renaming", "link", "(II)Z"⟩, 2) := ⟨⟨by decide +kernel, by decide +kernel⟩, List.mem_of_getElem? (i := 229) (by decide +kernel), List.mem_of_getElem? (i := 740) (by decide +kernel), List.mem_of_getElem? (i := 741) (by decide +kernel)⟩
def lw_privs_1 : List (MethodName × Nat) := [(⟨"ComparatorNetworks", "remember", "(I)V"⟩, 13), (⟨"ComparatorNetworks", "isPosition", "(II)Z"⟩, 13), (⟨"ComparatorNetworks", "pushInto", "(IIII)I"⟩, 13), (⟨"ComparatorNetworks$Network", "passLayers", "(I)V"⟩, 5), (⟨"ComparatorNetworks", "replaceBySpare", "(I)I"⟩, 13), (⟨"ComparatorNetworks", "gatherOutputs", "(LComparatorNetworks$Network;LComparatorNetworks$OutputSet;)V"⟩, 13), (⟨"ComparatorNetworks", "sorts", "(LComparatorNetworks$Network;I)Z"⟩, 13), (⟨"ComparatorNetworks$Sweep", "failures", "(I)J"⟩, 3), (⟨"ComparatorNetworks$Chains", "noteExchanges", "(LComparatorNetworks$Network;)V"⟩, 2), (⟨"ComparatorNetworks$Chains", "begun", "(II)I"⟩, 2), (⟨"ComparatorNetworks", "lastNeedless", "(LComparatorNetworks$Network;)I"⟩, 13), (⟨"ComparatorNetworks$Network", "swapWiresBehind", "(III)V"⟩, 5), (⟨"ComparatorNetworks$Extensions", "rankOne", "(III)V"⟩, 6), (⟨"ComparatorNetworks$Extensions", "twoSort", "(II)Z"⟩, 6), (⟨"ComparatorNetworks$Extensions", "keepUnsorted", "(IIII)I"⟩, 6), (⟨"ComparatorNetworks$Renaming", "link", "(II)Z"⟩, 2)]
theorem lw_r1 : ∀ q ∈ lw_privs_1, lw_okq q := List.forall_mem_cons.mpr ⟨lw_p0, List.forall_mem_cons.mpr ⟨lw_p1, List.forall_mem_cons.mpr ⟨lw_p2, List.forall_mem_cons.mpr ⟨lw_p3, List.forall_mem_cons.mpr ⟨lw_p4, List.forall_mem_cons.mpr ⟨lw_p5, List.forall_mem_cons.mpr ⟨lw_p6, List.forall_mem_cons.mpr ⟨lw_p7, List.forall_mem_cons.mpr ⟨lw_p8, List.forall_mem_cons.mpr ⟨lw_p9, List.forall_mem_cons.mpr ⟨lw_p10, List.forall_mem_cons.mpr ⟨lw_p11, List.forall_mem_cons.mpr ⟨lw_p12, List.forall_mem_cons.mpr ⟨lw_p13, List.forall_mem_cons.mpr ⟨lw_p14, List.forall_mem_cons.mpr ⟨lw_p15, fun _ h => absurd h List.not_mem_nil⟩⟩⟩⟩⟩⟩⟩⟩⟩⟩⟩⟩⟩⟩⟩⟩
theorem lw_p16 : lw_okq (⟨"ComparatorNetworks", "countBlocks", "()I"⟩, 13) := ⟨⟨by decide +kernel, by decide +kernel⟩, List.mem_of_getElem? (i := 19) (by decide +kernel), List.mem_of_getElem? (i := 827) (by decide +kernel), List.mem_of_getElem? (i := 828) (by decide +kernel)⟩
theorem lw_p17 : lw_okq (⟨"ComparatorNetworks", "unfold", "(LComparatorNetworks$Shelf;I)I"⟩, 13) := ⟨⟨by decide +kernel, by decide +kernel⟩, List.mem_of_getElem? (i := 19) (by decide +kernel), List.mem_of_getElem? (i := 857) (by decide +kernel), List.mem_of_getElem? (i := 858) (by decide +kernel)⟩
theorem lw_p18 : lw_okq (⟨"ComparatorNetworks$Shelf", "pushRepeated", "(LComparatorNetworks$Network;)V"⟩, 3) := ⟨⟨by decide +kernel, by decide +kernel⟩, List.mem_of_getElem? (i := 125) (by decide +kernel), List.mem_of_getElem? (i := 871) (by decide +kernel), List.mem_of_getElem? (i := 872) (by decide +kernel)⟩
theorem lw_p19 : lw_okq (⟨"ComparatorNetworksModel", "remembers", "()V"⟩, 34) := ⟨⟨by decide +kernel, by decide +kernel⟩, List.mem_of_getElem? (i := 879) (by decide +kernel), List.mem_of_getElem? (i := 1002) (by decide +kernel), List.mem_of_getElem? (i := 1003) (by decide +kernel)⟩
theorem lw_p20 : lw_okq (⟨"ComparatorNetworksModel", "isPosition", "(II)Z"⟩, 34) := ⟨⟨by decide +kernel, by decide +kernel⟩, List.mem_of_getElem? (i := 879) (by decide +kernel), List.mem_of_getElem? (i := 1018) (by decide +kernel), List.mem_of_getElem? (i := 1019) (by decide +kernel)⟩
theorem lw_p21 : lw_okq (⟨"ComparatorNetworksModel", "isWire", "(II)Z"⟩, 34) := ⟨⟨by decide +kernel, by decide +kernel⟩, List.mem_of_getElem? (i := 879) (by decide +kernel), List.mem_of_getElem? (i := 1030) (by decide +kernel), List.mem_of_getElem? (i := 1031) (by decide +kernel)⟩
theorem lw_p22 : lw_okq (⟨"ComparatorNetworksModel", "puts", "(IIII)V"⟩, 34) := ⟨⟨by decide +kernel, by decide +kernel⟩, List.mem_of_getElem? (i := 879) (by decide +kernel), List.mem_of_getElem? (i := 1034) (by decide +kernel), List.mem_of_getElem? (i := 1035) (by decide +kernel)⟩
theorem lw_p23 : lw_okq (⟨"ComparatorNetworksModel", "takes", "(II)V"⟩, 34) := ⟨⟨by decide +kernel, by decide +kernel⟩, List.mem_of_getElem? (i := 879) (by decide +kernel), List.mem_of_getElem? (i := 1044) (by decide +kernel), List.mem_of_getElem? (i := 1045) (by decide +kernel)⟩
theorem lw_p24 : lw_okq (⟨"ComparatorNetworksModel", "findsLayers", "(I)V"⟩, 34) := ⟨⟨by decide +kernel, by decide +kernel⟩, List.mem_of_getElem? (i := 879) (by decide +kernel), List.mem_of_getElem? (i := 1052) (by decide +kernel), List.mem_of_getElem? (i := 1053) (by decide +kernel)⟩
theorem lw_p25 : lw_okq (⟨"ComparatorNetworksModel", "wire", "(I)I"⟩, 34) := ⟨⟨by decide +kernel, by decide +kernel⟩, List.mem_of_getElem? (i := 879) (by decide +kernel), List.mem_of_getElem? (i := 1072) (by decide +kernel), List.mem_of_getElem? (i := 1073) (by decide +kernel)⟩
theorem lw_p26 : lw_okq (⟨"ComparatorNetworksModel", "here", "()I"⟩, 34) := ⟨⟨by decide +kernel, by decide +kernel⟩, List.mem_of_getElem? (i := 879) (by decide +kernel), List.mem_of_getElem? (i := 1076) (by decide +kernel), List.mem_of_getElem? (i := 1077) (by decide +kernel)⟩
theorem lw_p27 : lw_okq (⟨"ComparatorNetworksModel", "sign", "(I)V"⟩, 34) := ⟨⟨by decide +kernel, by decide +kernel⟩, List.mem_of_getElem? (i := 879) (by decide +kernel), List.mem_of_getElem? (i := 1080) (by decide +kernel), List.mem_of_getElem? (i := 1081) (by decide +kernel)⟩
theorem lw_p28 : lw_okq (⟨"ComparatorNetworksModel", "finds", "(I[Z)I"⟩, 34) := ⟨⟨by decide +kernel, by decide +kernel⟩, List.mem_of_getElem? (i := 879) (by decide +kernel), List.mem_of_getElem? (i := 1108) (by decide +kernel), List.mem_of_getElem? (i := 1109) (by decide +kernel)⟩
theorem lw_p29 : lw_okq (⟨"ComparatorNetworksModel", "makes", "(III)I"⟩, 34) := ⟨⟨by decide +kernel, by decide +kernel⟩, List.mem_of_getElem? (i := 879) (by decide +kernel), List.mem_of_getElem? (i := 1112) (by decide +kernel), List.mem_of_getElem? (i := 1113) (by decide +kernel)⟩
theorem lw_p30 : lw_okq (⟨"ComparatorNetworksModel", "isSorter", "(II)Z"⟩, 34) := ⟨⟨by decide +kernel, by decide +kernel⟩, List.mem_of_getElem? (i := 879) (by decide +kernel), List.mem_of_getElem? (i := 1124) (by decide +kernel), List.mem_of_getElem? (i := 1125) (by decide +kernel)⟩
theorem lw_p31 : lw_okq (⟨"ComparatorNetworksModel", "looks", "(I)V"⟩, 34) := ⟨⟨by decide +kernel, by decide +kernel⟩, List.mem_of_getElem? (i := 879) (by decide +kernel), List.mem_of_getElem? (i := 1146) (by decide +kernel), List.mem_of_getElem? (i := 1147) (by decide +kernel)⟩
def lw_privs_2 : List (MethodName × Nat) := [(⟨"ComparatorNetworks", "countBlocks", "()I"⟩, 13), (⟨"ComparatorNetworks", "unfold", "(LComparatorNetworks$Shelf;I)I"⟩, 13), (⟨"ComparatorNetworks$Shelf", "pushRepeated", "(LComparatorNetworks$Network;)V"⟩, 3), (⟨"ComparatorNetworksModel", "remembers", "()V"⟩, 34), (⟨"ComparatorNetworksModel", "isPosition", "(II)Z"⟩, 34), (⟨"ComparatorNetworksModel", "isWire", "(II)Z"⟩, 34), (⟨"ComparatorNetworksModel", "puts", "(IIII)V"⟩, 34), (⟨"ComparatorNetworksModel", "takes", "(II)V"⟩, 34), (⟨"ComparatorNetworksModel", "findsLayers", "(I)V"⟩, 34), (⟨"ComparatorNetworksModel", "wire", "(I)I"⟩, 34), (⟨"ComparatorNetworksModel", "here", "()I"⟩, 34), (⟨"ComparatorNetworksModel", "sign", "(I)V"⟩, 34), (⟨"ComparatorNetworksModel", "finds", "(I[Z)I"⟩, 34), (⟨"ComparatorNetworksModel", "makes", "(III)I"⟩, 34), (⟨"ComparatorNetworksModel", "isSorter", "(II)Z"⟩, 34), (⟨"ComparatorNetworksModel", "looks", "(I)V"⟩, 34)]
theorem lw_r2 : ∀ q ∈ lw_privs_2, lw_okq q := List.forall_mem_cons.mpr ⟨lw_p16, List.forall_mem_cons.mpr ⟨lw_p17, List.forall_mem_cons.mpr ⟨lw_p18, List.forall_mem_cons.mpr ⟨lw_p19, List.forall_mem_cons.mpr ⟨lw_p20, List.forall_mem_cons.mpr ⟨lw_p21, List.forall_mem_cons.mpr ⟨lw_p22, List.forall_mem_cons.mpr ⟨lw_p23, List.forall_mem_cons.mpr ⟨lw_p24, List.forall_mem_cons.mpr ⟨lw_p25, List.forall_mem_cons.mpr ⟨lw_p26, List.forall_mem_cons.mpr ⟨lw_p27, List.forall_mem_cons.mpr ⟨lw_p28, List.forall_mem_cons.mpr ⟨lw_p29, List.forall_mem_cons.mpr ⟨lw_p30, List.forall_mem_cons.mpr ⟨lw_p31, fun _ h => absurd h List.not_mem_nil⟩⟩⟩⟩⟩⟩⟩⟩⟩⟩⟩⟩⟩⟩⟩⟩
theorem lw_p32 : lw_okq (⟨"ComparatorNetworksModel", "begins", "()V"⟩, 34) := ⟨⟨by decide +kernel, by decide +kernel⟩, List.mem_of_getElem? (i := 879) (by decide +kernel), List.mem_of_getElem? (i := 1150) (by decide +kernel), List.mem_of_getElem? (i := 1151) (by decide +kernel)⟩
theorem lw_p33 : lw_okq (⟨"ComparatorNetworksModel", "carries", "(I)I"⟩, 34) := ⟨⟨by decide +kernel, by decide +kernel⟩, List.mem_of_getElem? (i := 879) (by decide +kernel), List.mem_of_getElem? (i := 1154) (by decide +kernel), List.mem_of_getElem? (i := 1155) (by decide +kernel)⟩
theorem lw_p34 : lw_okq (⟨"ComparatorNetworksModel", "isNext", "(I)Z"⟩, 34) := ⟨⟨by decide +kernel, by decide +kernel⟩, List.mem_of_getElem? (i := 879) (by decide +kernel), List.mem_of_getElem? (i := 1158) (by decide +kernel), List.mem_of_getElem? (i := 1159) (by decide +kernel)⟩
theorem lw_p35 : lw_okq (⟨"ComparatorNetworksModel", "changes", "(II)V"⟩, 34) := ⟨⟨by decide +kernel, by decide +kernel⟩, List.mem_of_getElem? (i := 879) (by decide +kernel), List.mem_of_getElem? (i := 1162) (by decide +kernel), List.mem_of_getElem? (i := 1163) (by decide +kernel)⟩
theorem lw_p36 : lw_okq (⟨"ComparatorNetworksModel", "isIdle", "(II)Z"⟩, 34) := ⟨⟨by decide +kernel, by decide +kernel⟩, List.mem_of_getElem? (i := 879) (by decide +kernel), List.mem_of_getElem? (i := 1183) (by decide +kernel), List.mem_of_getElem? (i := 1184) (by decide +kernel)⟩
theorem lw_p37 : lw_okq (⟨"ComparatorNetworksModel", "lists", "(I)I"⟩, 34) := ⟨⟨by decide +kernel, by decide +kernel⟩, List.mem_of_getElem? (i := 879) (by decide +kernel), List.mem_of_getElem? (i := 1207) (by decide +kernel), List.mem_of_getElem? (i := 1208) (by decide +kernel)⟩
theorem lw_p38 : lw_okq (⟨"ComparatorNetworksModel", "counts", "(III)I"⟩, 34) := ⟨⟨by decide +kernel, by decide +kernel⟩, List.mem_of_getElem? (i := 879) (by decide +kernel), List.mem_of_getElem? (i := 1211) (by decide +kernel), List.mem_of_getElem? (i := 1212) (by decide +kernel)⟩
theorem lw_p39 : lw_okq (⟨"ComparatorNetworksModel", "areSorted", "(I[Z)Z"⟩, 34) := ⟨⟨by decide +kernel, by decide +kernel⟩, List.mem_of_getElem? (i := 879) (by decide +kernel), List.mem_of_getElem? (i := 1223) (by decide +kernel), List.mem_of_getElem? (i := 1224) (by decide +kernel)⟩
theorem lw_p40 : lw_okq (⟨"ComparatorNetworksModel", "isOneEnough", "(I)Z"⟩, 34) := ⟨⟨by decide +kernel, by decide +kernel⟩, List.mem_of_getElem? (i := 879) (by decide +kernel), List.mem_of_getElem? (i := 1227) (by decide +kernel), List.mem_of_getElem? (i := 1228) (by decide +kernel)⟩
theorem lw_p41 : lw_okq (⟨"ComparatorNetworksModel", "unlike", "(II)I"⟩, 34) := ⟨⟨by decide +kernel, by decide +kernel⟩, List.mem_of_getElem? (i := 879) (by decide +kernel), List.mem_of_getElem? (i := 1235) (by decide +kernel), List.mem_of_getElem? (i := 1236) (by decide +kernel)⟩
theorem lw_p42 : lw_okq (⟨"ComparatorNetworksModel", "merges", "(I)V"⟩, 34) := ⟨⟨by decide +kernel, by decide +kernel⟩, List.mem_of_getElem? (i := 879) (by decide +kernel), List.mem_of_getElem? (i := 1251) (by decide +kernel), List.mem_of_getElem? (i := 1252) (by decide +kernel)⟩
theorem lw_p43 : lw_okq (⟨"ComparatorNetworksModel", "appends", "(III)V"⟩, 34) := ⟨⟨by decide +kernel, by decide +kernel⟩, List.mem_of_getElem? (i := 879) (by decide +kernel), List.mem_of_getElem? (i := 1255) (by decide +kernel), List.mem_of_getElem? (i := 1256) (by decide +kernel)⟩
theorem lw_p44 : lw_okq (⟨"ComparatorNetworksModel", "collects", "(III)I"⟩, 34) := ⟨⟨by decide +kernel, by decide +kernel⟩, List.mem_of_getElem? (i := 879) (by decide +kernel), List.mem_of_getElem? (i := 1267) (by decide +kernel), List.mem_of_getElem? (i := 1268) (by decide +kernel)⟩
theorem lw_p45 : lw_okq (⟨"ComparatorNetworksModel", "becomes", "(III)V"⟩, 34) := ⟨⟨by decide +kernel, by decide +kernel⟩, List.mem_of_getElem? (i := 879) (by decide +kernel), List.mem_of_getElem? (i := 1271) (by decide +kernel), List.mem_of_getElem? (i := 1272) (by decide +kernel)⟩
theorem lw_p46 : lw_okq (⟨"ComparatorNetworksModel", "isMade", "(II)Z"⟩, 34) := ⟨⟨by decide +kernel, by decide +kernel⟩, List.mem_of_getElem? (i := 879) (by decide +kernel), List.mem_of_getElem? (i := 1301) (by decide +kernel), List.mem_of_getElem? (i := 1302) (by decide +kernel)⟩
theorem lw_p47 : lw_okq (⟨"ComparatorNetworksModel", "makes", "(II)V"⟩, 34) := ⟨⟨by decide +kernel, by decide +kernel⟩, List.mem_of_getElem? (i := 879) (by decide +kernel), List.mem_of_getElem? (i := 1305) (by decide +kernel), List.mem_of_getElem? (i := 1306) (by decide +kernel)⟩
def lw_privs_3 : List (MethodName × Nat) := [(⟨"ComparatorNetworksModel", "begins", "()V"⟩, 34), (⟨"ComparatorNetworksModel", "carries", "(I)I"⟩, 34), (⟨"ComparatorNetworksModel", "isNext", "(I)Z"⟩, 34), (⟨"ComparatorNetworksModel", "changes", "(II)V"⟩, 34), (⟨"ComparatorNetworksModel", "isIdle", "(II)Z"⟩, 34), (⟨"ComparatorNetworksModel", "lists", "(I)I"⟩, 34), (⟨"ComparatorNetworksModel", "counts", "(III)I"⟩, 34), (⟨"ComparatorNetworksModel", "areSorted", "(I[Z)Z"⟩, 34), (⟨"ComparatorNetworksModel", "isOneEnough", "(I)Z"⟩, 34), (⟨"ComparatorNetworksModel", "unlike", "(II)I"⟩, 34), (⟨"ComparatorNetworksModel", "merges", "(I)V"⟩, 34), (⟨"ComparatorNetworksModel", "appends", "(III)V"⟩, 34), (⟨"ComparatorNetworksModel", "collects", "(III)I"⟩, 34), (⟨"ComparatorNetworksModel", "becomes", "(III)V"⟩, 34), (⟨"ComparatorNetworksModel", "isMade", "(II)Z"⟩, 34), (⟨"ComparatorNetworksModel", "makes", "(II)V"⟩, 34)]
theorem lw_r3 : ∀ q ∈ lw_privs_3, lw_okq q := List.forall_mem_cons.mpr ⟨lw_p32, List.forall_mem_cons.mpr ⟨lw_p33, List.forall_mem_cons.mpr ⟨lw_p34, List.forall_mem_cons.mpr ⟨lw_p35, List.forall_mem_cons.mpr ⟨lw_p36, List.forall_mem_cons.mpr ⟨lw_p37, List.forall_mem_cons.mpr ⟨lw_p38, List.forall_mem_cons.mpr ⟨lw_p39, List.forall_mem_cons.mpr ⟨lw_p40, List.forall_mem_cons.mpr ⟨lw_p41, List.forall_mem_cons.mpr ⟨lw_p42, List.forall_mem_cons.mpr ⟨lw_p43, List.forall_mem_cons.mpr ⟨lw_p44, List.forall_mem_cons.mpr ⟨lw_p45, List.forall_mem_cons.mpr ⟨lw_p46, List.forall_mem_cons.mpr ⟨lw_p47, fun _ h => absurd h List.not_mem_nil⟩⟩⟩⟩⟩⟩⟩⟩⟩⟩⟩⟩⟩⟩⟩⟩
theorem lw_p48 : lw_okq (⟨"ComparatorNetworksModel", "makesLayer", "(II)V"⟩, 34) := ⟨⟨by decide +kernel, by decide +kernel⟩, List.mem_of_getElem? (i := 879) (by decide +kernel), List.mem_of_getElem? (i := 1309) (by decide +kernel), List.mem_of_getElem? (i := 1310) (by decide +kernel)⟩
def lw_privs_4 : List (MethodName × Nat) := [(⟨"ComparatorNetworksModel", "makesLayer", "(II)V"⟩, 34)]
theorem lw_r4 : ∀ q ∈ lw_privs_4, lw_okq q := List.forall_mem_cons.mpr ⟨lw_p48, fun _ h => absurd h List.not_mem_nil⟩
def lw_privs : List (MethodName × Nat) := lw_privs_1 ++ (lw_privs_2 ++ (lw_privs_3 ++ (lw_privs_4)))
def lw_tbl : List Cond := k2_sels lw_privs ++ tables_1
theorem lw_privs_ok : ∀ q ∈ lw_privs, lw_okq q := by
  show ∀ q ∈ lw_privs_1 ++ (lw_privs_2 ++ (lw_privs_3 ++ (lw_privs_4))), lw_okq q
  exact List.forall_mem_append.mpr ⟨lw_r1, List.forall_mem_append.mpr ⟨lw_r2, List.forall_mem_append.mpr ⟨lw_r3, lw_r4⟩⟩⟩
end
section
def RX0 : String := "ComparatorNetworks$Chains"
def TX0 : u_T := fun k => match k with
  | 0 => ("ComparatorNetworks$Chains", "best", "[I", true)
  | _ => ("ComparatorNetworks$Chains", "exchanges", "[J", true)
def tyX0 : Nat → FieldType := fun k => match k with
  | 0 => .array .int
  | _ => .array .long
theorem nmX0 : ∀ a, a < 2 → ∀ b, b < 2 → a ≠ b → (TX0 a).2.1 ≠ (TX0 b).2.1 := by decide +kernel
theorem tyX0_ok : ∀ k, k < 2 → parseFieldDescriptor (TX0 k).2.2.1 = some (tyX0 k) := by decide +kernel
def RX1 : String := "ComparatorNetworks$Extensions"
def TX1 : u_T := fun k => match k with
  | 0 => ("ComparatorNetworks$Extensions", "firstWire", "[I", true)
  | 1 => ("ComparatorNetworks$Extensions", "secondWire", "[I", true)
  | 2 => ("ComparatorNetworks$Extensions", "outputsThen", "[I", true)
  | 3 => ("ComparatorNetworks$Extensions", "count", "I", false)
  | 4 => ("ComparatorNetworks$Extensions", "unsorted", "[I", true)
  | _ => ("ComparatorNetworks$Extensions", "unsortedThen", "[I", true)
def tyX1 : Nat → FieldType := fun k => match k with
  | 0 => .array .int
  | 1 => .array .int
  | 2 => .array .int
  | 3 => .int
  | 4 => .array .int
  | _ => .array .int
theorem nmX1 : ∀ a, a < 6 → ∀ b, b < 6 → a ≠ b → (TX1 a).2.1 ≠ (TX1 b).2.1 := by decide +kernel
theorem tyX1_ok : ∀ k, k < 6 → parseFieldDescriptor (TX1 k).2.2.1 = some (tyX1 k) := by decide +kernel
def RX2 : String := "ComparatorNetworks$History"
def TX2 : u_T := fun k => match k with
  | 0 => ("ComparatorNetworks$History", "before", "[LComparatorNetworks$Network;", true)
  | 1 => ("ComparatorNetworks$History", "changed", "[I", true)
  | 2 => ("ComparatorNetworks$History", "next", "I", false)
  | _ => ("ComparatorNetworks$History", "kept", "I", false)
def tyX2 : Nat → FieldType := fun k => match k with
  | 0 => .array (.object "ComparatorNetworks$Network")
  | 1 => .array .int
  | 2 => .int
  | _ => .int
theorem nmX2 : ∀ a, a < 4 → ∀ b, b < 4 → a ≠ b → (TX2 a).2.1 ≠ (TX2 b).2.1 := by decide +kernel
theorem tyX2_ok : ∀ k, k < 4 → parseFieldDescriptor (TX2 k).2.2.1 = some (tyX2 k) := by decide +kernel
def RX3 : String := "ComparatorNetworks$Network"
def TX3 : u_T := fun k => match k with
  | 0 => ("ComparatorNetworks$Network", "wireCount", "I", false)
  | 1 => ("ComparatorNetworks$Network", "count", "I", false)
  | 2 => ("ComparatorNetworks$Network", "first", "[I", true)
  | 3 => ("ComparatorNetworks$Network", "second", "[I", true)
  | _ => ("ComparatorNetworks$Network", "layersPassed", "[I", true)
def tyX3 : Nat → FieldType := fun k => match k with
  | 0 => .int
  | 1 => .int
  | 2 => .array .int
  | 3 => .array .int
  | _ => .array .int
theorem nmX3 : ∀ a, a < 5 → ∀ b, b < 5 → a ≠ b → (TX3 a).2.1 ≠ (TX3 b).2.1 := by decide +kernel
theorem tyX3_ok : ∀ k, k < 5 → parseFieldDescriptor (TX3 k).2.2.1 = some (tyX3 k) := by decide +kernel
def RX4 : String := "ComparatorNetworks$OutputSet"
def TX4 : u_T := fun k => match k with
  | 0 => ("ComparatorNetworks$OutputSet", "has", "[Z", true)
  | 1 => ("ComparatorNetworks$OutputSet", "members", "[I", true)
  | 2 => ("ComparatorNetworks$OutputSet", "wireCount", "I", false)
  | _ => ("ComparatorNetworks$OutputSet", "count", "I", false)
def tyX4 : Nat → FieldType := fun k => match k with
  | 0 => .array .boolean
  | 1 => .array .int
  | 2 => .int
  | _ => .int
theorem nmX4 : ∀ a, a < 4 → ∀ b, b < 4 → a ≠ b → (TX4 a).2.1 ≠ (TX4 b).2.1 := by decide +kernel
theorem tyX4_ok : ∀ k, k < 4 → parseFieldDescriptor (TX4 k).2.2.1 = some (tyX4 k) := by decide +kernel
def RX5 : String := "ComparatorNetworks$Renaming"
def TX5 : u_T := fun k => match k with
  | 0 => ("ComparatorNetworks$Renaming", "target", "[I", true)
  | _ => ("ComparatorNetworks$Renaming", "source", "[I", true)
def tyX5 : Nat → FieldType := fun k => match k with
  | 0 => .array .int
  | _ => .array .int
theorem nmX5 : ∀ a, a < 2 → ∀ b, b < 2 → a ≠ b → (TX5 a).2.1 ≠ (TX5 b).2.1 := by decide +kernel
theorem tyX5_ok : ∀ k, k < 2 → parseFieldDescriptor (TX5 k).2.2.1 = some (tyX5 k) := by decide +kernel
def RX6 : String := "ComparatorNetworks$Shelf"
def TX6 : u_T := fun k => match k with
  | 0 => ("ComparatorNetworks$Shelf", "kind", "I", false)
  | 1 => ("ComparatorNetworks$Shelf", "a", "I", false)
  | _ => ("ComparatorNetworks$Shelf", "b", "I", false)
def tyX6 : Nat → FieldType := fun k => match k with
  | 0 => .int
  | 1 => .int
  | _ => .int
theorem nmX6 : ∀ a, a < 3 → ∀ b, b < 3 → a ≠ b → (TX6 a).2.1 ≠ (TX6 b).2.1 := by decide +kernel
theorem tyX6_ok : ∀ k, k < 3 → parseFieldDescriptor (TX6 k).2.2.1 = some (tyX6 k) := by decide +kernel
def RX7 : String := "ComparatorNetworks$Sweep"
def TX7 : u_T := fun k => match k with
  | 0 => ("ComparatorNetworks$Sweep", "lanes", "[J", true)
  | 1 => ("ComparatorNetworks$Sweep", "wireCount", "I", false)
  | _ => ("ComparatorNetworks$Sweep", "words", "I", false)
def tyX7 : Nat → FieldType := fun k => match k with
  | 0 => .array .long
  | 1 => .int
  | _ => .int
theorem nmX7 : ∀ a, a < 3 → ∀ b, b < 3 → a ≠ b → (TX7 a).2.1 ≠ (TX7 b).2.1 := by decide +kernel
theorem tyX7_ok : ∀ k, k < 3 → parseFieldDescriptor (TX7 k).2.2.1 = some (tyX7 k) := by decide +kernel
def RX8 : String := "ComparatorNetworks$Text"
def TX8 : u_T := fun k => match k with
  | 0 => ("ComparatorNetworks$Text", "codes", "[I", true)
  | _ => ("ComparatorNetworks$Text", "length", "I", false)
def tyX8 : Nat → FieldType := fun k => match k with
  | 0 => .array .int
  | _ => .int
theorem nmX8 : ∀ a, a < 2 → ∀ b, b < 2 → a ≠ b → (TX8 a).2.1 ≠ (TX8 b).2.1 := by decide +kernel
theorem tyX8_ok : ∀ k, k < 2 → parseFieldDescriptor (TX8 k).2.2.1 = some (tyX8 k) := by decide +kernel
def RX9 : String := "ComparatorNetworks$Trial"
def TX9 : u_T := fun k => match k with
  | 0 => ("ComparatorNetworks$Trial", "happened", "Z", false)
  | 1 => ("ComparatorNetworks$Trial", "wireCount", "I", false)
  | 2 => ("ComparatorNetworks$Trial", "values", "[I", true)
  | _ => ("ComparatorNetworks$Trial", "origins", "[I", true)
def tyX9 : Nat → FieldType := fun k => match k with
  | 0 => .boolean
  | 1 => .int
  | 2 => .array .int
  | _ => .array .int
theorem nmX9 : ∀ a, a < 4 → ∀ b, b < 4 → a ≠ b → (TX9 a).2.1 ≠ (TX9 b).2.1 := by decide +kernel
theorem tyX9_ok : ∀ k, k < 4 → parseFieldDescriptor (TX9 k).2.2.1 = some (tyX9 k) := by decide +kernel
def RX10 : String := "ComparatorNetworks"
def TX10 : u_T := fun k => match k with
  | 0 => ("ComparatorNetworks", "networks", "[LComparatorNetworks$Network;", true)
  | 1 => ("ComparatorNetworks", "spare", "LComparatorNetworks$Network;", true)
  | 2 => ("ComparatorNetworks", "history", "LComparatorNetworks$History;", true)
  | 3 => ("ComparatorNetworks", "text", "LComparatorNetworks$Text;", true)
  | 4 => ("ComparatorNetworks", "keys", "[I", true)
  | 5 => ("ComparatorNetworks", "trial", "LComparatorNetworks$Trial;", true)
  | 6 => ("ComparatorNetworks", "shelves", "[LComparatorNetworks$Shelf;", true)
  | 7 => ("ComparatorNetworks", "sweep", "LComparatorNetworks$Sweep;", true)
  | 8 => ("ComparatorNetworks", "outputs", "LComparatorNetworks$OutputSet;", true)
  | 9 => ("ComparatorNetworks", "otherOutputs", "LComparatorNetworks$OutputSet;", true)
  | 10 => ("ComparatorNetworks", "extensions", "LComparatorNetworks$Extensions;", true)
  | 11 => ("ComparatorNetworks", "chains", "LComparatorNetworks$Chains;", true)
  | _ => ("ComparatorNetworks", "renaming", "LComparatorNetworks$Renaming;", true)
def tyX10 : Nat → FieldType := fun k => match k with
  | 0 => .array (.object "ComparatorNetworks$Network")
  | 1 => .object "ComparatorNetworks$Network"
  | 2 => .object "ComparatorNetworks$History"
  | 3 => .object "ComparatorNetworks$Text"
  | 4 => .array .int
  | 5 => .object "ComparatorNetworks$Trial"
  | 6 => .array (.object "ComparatorNetworks$Shelf")
  | 7 => .object "ComparatorNetworks$Sweep"
  | 8 => .object "ComparatorNetworks$OutputSet"
  | 9 => .object "ComparatorNetworks$OutputSet"
  | 10 => .object "ComparatorNetworks$Extensions"
  | 11 => .object "ComparatorNetworks$Chains"
  | _ => .object "ComparatorNetworks$Renaming"
theorem nmX10 : ∀ a, a < 13 → ∀ b, b < 13 → a ≠ b → (TX10 a).2.1 ≠ (TX10 b).2.1 := by decide +kernel
theorem tyX10_ok : ∀ k, k < 13 → parseFieldDescriptor (TX10 k).2.2.1 = some (tyX10 k) := by decide +kernel
def RX11 : String := "ComparatorNetworksModel"
def TX11 : u_T := fun k => match k with
  | 0 => ("ComparatorNetworksModel", "n", "[I", true)
  | 1 => ("ComparatorNetworksModel", "size", "[I", true)
  | 2 => ("ComparatorNetworksModel", "from", "[I", true)
  | 3 => ("ComparatorNetworksModel", "to", "[I", true)
  | 4 => ("ComparatorNetworksModel", "keys", "[I", true)
  | 5 => ("ComparatorNetworksModel", "value", "[I", true)
  | 6 => ("ComparatorNetworksModel", "origin", "[I", true)
  | 7 => ("ComparatorNetworksModel", "runN", "I", false)
  | 8 => ("ComparatorNetworksModel", "text", "[I", true)
  | 9 => ("ComparatorNetworksModel", "textN", "I", false)
  | 10 => ("ComparatorNetworksModel", "kept", "[I", true)
  | 11 => ("ComparatorNetworksModel", "changes", "I", false)
  | 12 => ("ComparatorNetworksModel", "kind", "[I", true)
  | 13 => ("ComparatorNetworksModel", "blockA", "[I", true)
  | 14 => ("ComparatorNetworksModel", "blockB", "[I", true)
  | 15 => ("ComparatorNetworksModel", "layers", "[I", true)
  | 16 => ("ComparatorNetworksModel", "readFrom", "[I", true)
  | 17 => ("ComparatorNetworksModel", "readTo", "[I", true)
  | 18 => ("ComparatorNetworksModel", "at", "I", false)
  | 19 => ("ComparatorNetworksModel", "used", "I", false)
  | 20 => ("ComparatorNetworksModel", "isFaulty", "Z", false)
  | 21 => ("ComparatorNetworksModel", "out", "[Z", true)
  | 22 => ("ComparatorNetworksModel", "other", "[Z", true)
  | 23 => ("ComparatorNetworksModel", "perm", "[I", true)
  | 24 => ("ComparatorNetworksModel", "carried", "[I", true)
  | 25 => ("ComparatorNetworksModel", "sorted", "I", false)
  | 26 => ("ComparatorNetworksModel", "firstBad", "I", false)
  | 27 => ("ComparatorNetworksModel", "mostAtOnce", "I", false)
  | 28 => ("ComparatorNetworksModel", "exchanged", "J", false)
  | 29 => ("ComparatorNetworksModel", "listed", "[I", true)
  | 30 => ("ComparatorNetworksModel", "begun", "[Z", true)
  | 31 => ("ComparatorNetworksModel", "madeFrom", "[I", true)
  | 32 => ("ComparatorNetworksModel", "madeTo", "[I", true)
  | _ => ("ComparatorNetworksModel", "made", "I", false)
def tyX11 : Nat → FieldType := fun k => match k with
  | 0 => .array .int
  | 1 => .array .int
  | 2 => .array .int
  | 3 => .array .int
  | 4 => .array .int
  | 5 => .array .int
  | 6 => .array .int
  | 7 => .int
  | 8 => .array .int
  | 9 => .int
  | 10 => .array .int
  | 11 => .int
  | 12 => .array .int
  | 13 => .array .int
  | 14 => .array .int
  | 15 => .array .int
  | 16 => .array .int
  | 17 => .array .int
  | 18 => .int
  | 19 => .int
  | 20 => .boolean
  | 21 => .array .boolean
  | 22 => .array .boolean
  | 23 => .array .int
  | 24 => .array .int
  | 25 => .int
  | 26 => .int
  | 27 => .int
  | 28 => .long
  | 29 => .array .int
  | 30 => .array .boolean
  | 31 => .array .int
  | 32 => .array .int
  | _ => .int
theorem nmX11 : ∀ a, a < 34 → ∀ b, b < 34 → a ≠ b → (TX11 a).2.1 ≠ (TX11 b).2.1 := by decide +kernel
theorem tyX11_ok : ∀ k, k < 34 → parseFieldDescriptor (TX11 k).2.2.1 = some (tyX11 k) := by decide +kernel
def RJ6 : String := "java/lang/Integer"
def RJ13 : String := "java/lang/Long"
def RJ9 : String := "java/lang/Math"
def RJ7 : String := "java/util/Arrays"
def RL : String := "ComparatorNetworksLaw"
abbrev vwCl : List vw_C := [(RX0, TX0, 2), (RX1, TX1, 6), (RX2, TX2, 4), (RX3, TX3, 5), (RX4, TX4, 4), (RX5, TX5, 2), (RX6, TX6, 3), (RX7, TX7, 3), (RX8, TX8, 2), (RX9, TX9, 4), (RX10, TX10, 13), (RX11, TX11, 34)]
abbrev MD : Type := MethodName × ByteArray × Nat × Option FieldType × Option (Nat × Nat × (Nat → Int32))
def yX0_init : MethodName := ⟨RX0, "<init>", "()V"⟩
abbrev mX0_init : MD := (yX0_init, prog_2_method_1_code, 1, none, none)
def yX0_countWithoutFailure : MethodName := ⟨RX0, "countWithoutFailure", "(LComparatorNetworks$Sweep;)I"⟩
abbrev mX0_countWithoutFailure : MD := (yX0_countWithoutFailure, prog_2_method_2_code, 5, (some .int), none)
def yX0_leastWithFailure : MethodName := ⟨RX0, "leastWithFailure", "(LComparatorNetworks$Sweep;)I"⟩
abbrev mX0_leastWithFailure : MD := (yX0_leastWithFailure, prog_2_method_3_code, 5, (some .int), none)
def yX0_leastThrough : MethodName := ⟨RX0, "leastThrough", "(II)I"⟩
abbrev mX0_leastThrough : MD := (yX0_leastThrough, prog_2_method_4_code, 7, (some .int), none)
def yX0_noteExchanges : MethodName := ⟨RX0, "noteExchanges", "(LComparatorNetworks$Network;)V"⟩
abbrev mX0_noteExchanges : MD := (yX0_noteExchanges, prog_2_method_5_code, 3, none, none)
def yX0_begun : MethodName := ⟨RX0, "begun", "(II)I"⟩
abbrev mX0_begun : MD := (yX0_begun, prog_2_method_6_code, 3, (some .int), none)
def yX0_allExchanges : MethodName := ⟨RX0, "allExchanges", "(LComparatorNetworks$Network;)J"⟩
abbrev mX0_allExchanges : MD := (yX0_allExchanges, prog_2_method_7_code, 10, (some .long), none)
def yX0_greatestExchanges : MethodName := ⟨RX0, "greatestExchanges", "(LComparatorNetworks$Network;)I"⟩
abbrev mX0_greatestExchanges : MD := (yX0_greatestExchanges, prog_2_method_8_code, 6, (some .int), none)
def yX1_init : MethodName := ⟨RX1, "<init>", "()V"⟩
abbrev mX1_init : MD := (yX1_init, prog_3_method_1_code, 1, none, none)
def yX1_rankAll : MethodName := ⟨RX1, "rankAll", "(LComparatorNetworks$OutputSet;)V"⟩
abbrev mX1_rankAll : MD := (yX1_rankAll, prog_3_method_2_code, 4, none, none)
def yX1_rankOne : MethodName := ⟨RX1, "rankOne", "(III)V"⟩
abbrev mX1_rankOne : MD := (yX1_rankOne, prog_3_method_3_code, 5, none, none)
def yX1_codeAt : MethodName := ⟨RX1, "codeAt", "(I)I"⟩
abbrev mX1_codeAt : MD := (yX1_codeAt, prog_3_method_4_code, 2, (some .int), none)
def yX1_outputsAt : MethodName := ⟨RX1, "outputsAt", "(I)I"⟩
abbrev mX1_outputsAt : MD := (yX1_outputsAt, prog_3_method_5_code, 2, (some .int), none)
def yX1_leastToSort : MethodName := ⟨RX1, "leastToSort", "(LComparatorNetworks$OutputSet;I)I"⟩
abbrev mX1_leastToSort : MD := (yX1_leastToSort, prog_3_method_6_code, 5, (some .int), none)
def yX1_oneSorts : MethodName := ⟨RX1, "oneSorts", "([III)Z"⟩
abbrev mX1_oneSorts : MD := (yX1_oneSorts, prog_3_method_7_code, 5, (some .boolean), none)
def yX1_pairSorts : MethodName := ⟨RX1, "pairSorts", "([IIIII)Z"⟩
abbrev mX1_pairSorts : MD := (yX1_pairSorts, prog_3_method_8_code, 6, (some .boolean), none)
def yX1_twoSort : MethodName := ⟨RX1, "twoSort", "(II)Z"⟩
abbrev mX1_twoSort : MD := (yX1_twoSort, prog_3_method_9_code, 6, (some .boolean), none)
def yX1_keepUnsorted : MethodName := ⟨RX1, "keepUnsorted", "(IIII)I"⟩
abbrev mX1_keepUnsorted : MD := (yX1_keepUnsorted, prog_3_method_10_code, 8, (some .int), none)
def yX2_init : MethodName := ⟨RX2, "<init>", "()V"⟩
abbrev mX2_init : MD := (yX2_init, prog_4_method_1_code, 2, none, none)
def yX2_keep : MethodName := ⟨RX2, "keep", "(ILComparatorNetworks$Network;)V"⟩
abbrev mX2_keep : MD := (yX2_keep, prog_4_method_2_code, 3, none, none)
def yX2_takeBack : MethodName := ⟨RX2, "takeBack", "([LComparatorNetworks$Network;)I"⟩
abbrev mX2_takeBack : MD := (yX2_takeBack, prog_4_method_3_code, 3, (some .int), none)
def yX3_init : MethodName := ⟨RX3, "<init>", "()V"⟩
abbrev mX3_init : MD := (yX3_init, prog_5_method_1_code, 1, none, none)
def yX3_hasWire : MethodName := ⟨RX3, "hasWire", "(I)Z"⟩
abbrev mX3_hasWire : MD := (yX3_hasWire, prog_5_method_2_code, 2, (some .boolean), none)
def yX3_hasPosition : MethodName := ⟨RX3, "hasPosition", "(I)Z"⟩
abbrev mX3_hasPosition : MD := (yX3_hasPosition, prog_5_method_3_code, 2, (some .boolean), none)
def yX3_restart : MethodName := ⟨RX3, "restart", "(I)V"⟩
abbrev mX3_restart : MD := (yX3_restart, prog_5_method_4_code, 2, none, none)
def yX3_takeOver : MethodName := ⟨RX3, "takeOver", "(LComparatorNetworks$Network;)V"⟩
abbrev mX3_takeOver : MD := (yX3_takeOver, prog_5_method_5_code, 2, none, none)
def yX3_codeAt : MethodName := ⟨RX3, "codeAt", "(I)I"⟩
abbrev mX3_codeAt : MD := (yX3_codeAt, prog_5_method_6_code, 2, (some .int), none)
def yX3_refusal : MethodName := ⟨RX3, "refusal", "(II)I"⟩
abbrev mX3_refusal : MD := (yX3_refusal, prog_5_method_7_code, 3, (some .int), none)
def yX3_push : MethodName := ⟨RX3, "push", "(II)V"⟩
abbrev mX3_push : MD := (yX3_push, prog_5_method_8_code, 3, none, none)
def yX3_pushAt : MethodName := ⟨RX3, "pushAt", "(III)V"⟩
abbrev mX3_pushAt : MD := (yX3_pushAt, prog_5_method_9_code, 5, none, none)
def yX3_pushAll : MethodName := ⟨RX3, "pushAll", "(LComparatorNetworks$Network;I)V"⟩
abbrev mX3_pushAll : MD := (yX3_pushAll, prog_5_method_10_code, 5, none, none)
def yX3_pushNeighbours : MethodName := ⟨RX3, "pushNeighbours", "(I)V"⟩
abbrev mX3_pushNeighbours : MD := (yX3_pushNeighbours, prog_5_method_11_code, 3, none, none)
def yX3_drop : MethodName := ⟨RX3, "drop", "(I)V"⟩
abbrev mX3_drop : MD := (yX3_drop, prog_5_method_12_code, 3, none, none)
def yX3_levelAt : MethodName := ⟨RX3, "levelAt", "(I)I"⟩
abbrev mX3_levelAt : MD := (yX3_levelAt, prog_5_method_13_code, 2, (some .int), none)
def yX3_levels : MethodName := ⟨RX3, "levels", "()I"⟩
abbrev mX3_levels : MD := (yX3_levels, prog_5_method_14_code, 3, (some .int), none)
def yX3_passLayers : MethodName := ⟨RX3, "passLayers", "(I)V"⟩
abbrev mX3_passLayers : MD := (yX3_passLayers, prog_5_method_15_code, 4, none, none)
def yX3_carry : MethodName := ⟨RX3, "carry", "(I)I"⟩
abbrev mX3_carry : MD := (yX3_carry, prog_5_method_16_code, 4, (some .int), none)
def yX3_exchangesFor : MethodName := ⟨RX3, "exchangesFor", "(I)J"⟩
abbrev mX3_exchangesFor : MD := (yX3_exchangesFor, prog_5_method_17_code, 7, (some .long), none)
def yX3_turnAll : MethodName := ⟨RX3, "turnAll", "()I"⟩
abbrev mX3_turnAll : MD := (yX3_turnAll, prog_5_method_18_code, 5, (some .int), none)
def yX3_swapWiresBehind : MethodName := ⟨RX3, "swapWiresBehind", "(III)V"⟩
abbrev mX3_swapWiresBehind : MD := (yX3_swapWiresBehind, prog_5_method_19_code, 5, none, none)
def yX3_swapped : MethodName := ⟨RX3, "swapped", "(III)I"⟩
abbrev mX3_swapped : MD := (yX3_swapped, prog_5_method_20_code, 3, (some .int), none)
def yX3_reflect : MethodName := ⟨RX3, "reflect", "()V"⟩
abbrev mX3_reflect : MD := (yX3_reflect, prog_5_method_21_code, 3, none, none)
def yX4_init : MethodName := ⟨RX4, "<init>", "()V"⟩
abbrev mX4_init : MD := (yX4_init, prog_6_method_1_code, 1, none, none)
def yX4_gather : MethodName := ⟨RX4, "gather", "(LComparatorNetworks$Sweep;)V"⟩
abbrev mX4_gather : MD := (yX4_gather, prog_6_method_2_code, 4, none, none)
def yX4_equalTo : MethodName := ⟨RX4, "equalTo", "(LComparatorNetworks$OutputSet;)Z"⟩
abbrev mX4_equalTo : MD := (yX4_equalTo, prog_6_method_3_code, 3, (some .boolean), none)
def yX4_countAfter : MethodName := ⟨RX4, "countAfter", "(II)I"⟩
abbrev mX4_countAfter : MD := (yX4_countAfter, prog_6_method_4_code, 6, (some .int), none)
def yX5_init : MethodName := ⟨RX5, "<init>", "()V"⟩
abbrev mX5_init : MD := (yX5_init, prog_7_method_1_code, 1, none, none)
def yX5_makes : MethodName := ⟨RX5, "makes", "(LComparatorNetworks$Network;LComparatorNetworks$Network;)Z"⟩
abbrev mX5_makes : MD := (yX5_makes, prog_7_method_2_code, 4, (some .boolean), none)
def yX5_link : MethodName := ⟨RX5, "link", "(II)Z"⟩
abbrev mX5_link : MD := (yX5_link, prog_7_method_3_code, 3, (some .boolean), none)
def yX5_putsInto : MethodName := ⟨RX5, "putsInto", "(LComparatorNetworks$OutputSet;LComparatorNetworks$OutputSet;)Z"⟩
abbrev mX5_putsInto : MD := (yX5_putsInto, prog_7_method_4_code, 3, (some .boolean), none)
def yX5_search : MethodName := ⟨RX5, "search", "(LComparatorNetworks$OutputSet;LComparatorNetworks$OutputSet;[III)Z"⟩
abbrev mX5_search : MD := (yX5_search, prog_7_method_5_code, 6, (some .boolean), none)
def yX5_movesInto : MethodName := ⟨RX5, "movesInto", "(LComparatorNetworks$OutputSet;LComparatorNetworks$OutputSet;[I)Z"⟩
abbrev mX5_movesInto : MD := (yX5_movesInto, prog_7_method_6_code, 6, (some .boolean), none)
def yX6_init : MethodName := ⟨RX6, "<init>", "()V"⟩
abbrev mX6_init : MD := (yX6_init, prog_8_method_1_code, 1, none, none)
def yX6_allows : MethodName := ⟨RX6, "allows", "(III)Z"⟩
abbrev mX6_allows : MD := (yX6_allows, prog_8_method_2_code, 3, (some .boolean), none)
def yX6_isTaken : MethodName := ⟨RX6, "isTaken", "()Z"⟩
abbrev mX6_isTaken : MD := (yX6_isTaken, prog_8_method_3_code, 1, (some .boolean), none)
def yX6_hold : MethodName := ⟨RX6, "hold", "(III)V"⟩
abbrev mX6_hold : MD := (yX6_hold, prog_8_method_4_code, 4, none, none)
def yX6_release : MethodName := ⟨RX6, "release", "()V"⟩
abbrev mX6_release : MD := (yX6_release, prog_8_method_5_code, 1, none, none)
def yX6_isOfKind : MethodName := ⟨RX6, "isOfKind", "(I)Z"⟩
abbrev mX6_isOfKind : MD := (yX6_isOfKind, prog_8_method_6_code, 3, (some .boolean), none)
def yX6_fits : MethodName := ⟨RX6, "fits", "(I)Z"⟩
abbrev mX6_fits : MD := (yX6_fits, prog_8_method_7_code, 3, (some .boolean), none)
def yX6_pushOnto : MethodName := ⟨RX6, "pushOnto", "(LComparatorNetworks$Network;)V"⟩
abbrev mX6_pushOnto : MD := (yX6_pushOnto, prog_8_method_8_code, 2, none, none)
def yX6_pushRepeated : MethodName := ⟨RX6, "pushRepeated", "(LComparatorNetworks$Network;)V"⟩
abbrev mX6_pushRepeated : MD := (yX6_pushRepeated, prog_8_method_9_code, 3, none, none)
def yX7_init : MethodName := ⟨RX7, "<init>", "()V"⟩
abbrev mX7_init : MD := (yX7_init, prog_9_method_1_code, 1, none, none)
def yX7_start : MethodName := ⟨RX7, "start", "(I)V"⟩
abbrev mX7_start : MD := (yX7_start, prog_9_method_2_code, 4, none, none)
def yX7_inputLane : MethodName := ⟨RX7, "inputLane", "(II)J"⟩
abbrev mX7_inputLane : MD := (yX7_inputLane, prog_9_method_3_code, 2, (some .long), none)
def yX7_pass : MethodName := ⟨RX7, "pass", "(II)V"⟩
abbrev mX7_pass : MD := (yX7_pass, prog_9_method_4_code, 8, none, none)
def yX7_passAll : MethodName := ⟨RX7, "passAll", "(LComparatorNetworks$Network;I)V"⟩
abbrev mX7_passAll : MD := (yX7_passAll, prog_9_method_5_code, 4, none, none)
def yX7_exchanges : MethodName := ⟨RX7, "exchanges", "(II)Z"⟩
abbrev mX7_exchanges : MD := (yX7_exchanges, prog_9_method_6_code, 4, (some .boolean), none)
def yX7_failures : MethodName := ⟨RX7, "failures", "(I)J"⟩
abbrev mX7_failures : MD := (yX7_failures, prog_9_method_7_code, 5, (some .long), none)
def yX7_lowestFailure : MethodName := ⟨RX7, "lowestFailure", "()I"⟩
abbrev mX7_lowestFailure : MD := (yX7_lowestFailure, prog_9_method_8_code, 6, (some .int), none)
def yX7_valueAt : MethodName := ⟨RX7, "valueAt", "(II)I"⟩
abbrev mX7_valueAt : MD := (yX7_valueAt, prog_9_method_9_code, 3, (some .int), none)
def yX7_outputFor : MethodName := ⟨RX7, "outputFor", "(I)I"⟩
abbrev mX7_outputFor : MD := (yX7_outputFor, prog_9_method_10_code, 4, (some .int), none)
def yX7_selects : MethodName := ⟨RX7, "selects", "(I)Z"⟩
abbrev mX7_selects : MD := (yX7_selects, prog_9_method_11_code, 4, (some .boolean), none)
def yX8_init : MethodName := ⟨RX8, "<init>", "()V"⟩
abbrev mX8_init : MD := (yX8_init, prog_10_method_1_code, 1, none, none)
def yX8_put : MethodName := ⟨RX8, "put", "(I)I"⟩
abbrev mX8_put : MD := (yX8_put, prog_10_method_2_code, 2, (some .int), none)
def yX8_empty : MethodName := ⟨RX8, "empty", "()I"⟩
abbrev mX8_empty : MD := (yX8_empty, prog_10_method_3_code, 2, (some .int), none)
def yX8_readInto : MethodName := ⟨RX8, "readInto", "(LComparatorNetworks$Network;)I"⟩
abbrev mX8_readInto : MD := (yX8_readInto, prog_10_method_4_code, 8, (some .int), none)
def yX8_canContinue : MethodName := ⟨RX8, "canContinue", "(IILComparatorNetworks$Network;I)Z"⟩
abbrev mX8_canContinue : MD := (yX8_canContinue, prog_10_method_5_code, 5, (some .boolean), none)
def yX9_init : MethodName := ⟨RX9, "<init>", "()V"⟩
abbrev mX9_init : MD := (yX9_init, prog_11_method_1_code, 1, none, none)
def yX9_hadWire : MethodName := ⟨RX9, "hadWire", "(I)Z"⟩
abbrev mX9_hadWire : MD := (yX9_hadWire, prog_11_method_2_code, 2, (some .boolean), none)
def yX9_perform : MethodName := ⟨RX9, "perform", "(LComparatorNetworks$Network;[I)I"⟩
abbrev mX9_perform : MD := (yX9_perform, prog_11_method_3_code, 5, (some .int), none)
def yX9_swap : MethodName := ⟨RX9, "swap", "([III)V"⟩
abbrev mX9_swap : MD := (yX9_swap, prog_11_method_4_code, 4, none, none)
def yX9_keptOrder : MethodName := ⟨RX9, "keptOrder", "()Z"⟩
abbrev mX9_keptOrder : MD := (yX9_keptOrder, prog_11_method_5_code, 3, (some .boolean), none)
def yX10_init : MethodName := ⟨RX10, "<init>", "()V"⟩
abbrev mX10_init : MD := (yX10_init, prog_1_method_1_code, 2, none, none)
def yX10_reset : MethodName := ⟨RX10, "reset", "(II)I"⟩
abbrev mX10_reset : MD := (yX10_reset, prog_1_method_2_code, 4, (some .int), none)
def yX10_wires : MethodName := ⟨RX10, "wires", "(I)I"⟩
abbrev mX10_wires : MD := (yX10_wires, prog_1_method_3_code, 2, (some .int), none)
def yX10_size : MethodName := ⟨RX10, "size", "(I)I"⟩
abbrev mX10_size : MD := (yX10_size, prog_1_method_4_code, 2, (some .int), none)
def yX10_comparator : MethodName := ⟨RX10, "comparator", "(II)I"⟩
abbrev mX10_comparator : MD := (yX10_comparator, prog_1_method_5_code, 3, (some .int), none)
def yX10_add : MethodName := ⟨RX10, "add", "(III)I"⟩
abbrev mX10_add : MD := (yX10_add, prog_1_method_6_code, 4, (some .int), none)
def yX10_insert : MethodName := ⟨RX10, "insert", "(IIII)I"⟩
abbrev mX10_insert : MD := (yX10_insert, prog_1_method_7_code, 5, (some .int), none)
def yX10_remove : MethodName := ⟨RX10, "remove", "(II)I"⟩
abbrev mX10_remove : MD := (yX10_remove, prog_1_method_8_code, 4, (some .int), none)
def yX10_layer : MethodName := ⟨RX10, "layer", "(II)I"⟩
abbrev mX10_layer : MD := (yX10_layer, prog_1_method_9_code, 3, (some .int), none)
def yX10_depth : MethodName := ⟨RX10, "depth", "(I)I"⟩
abbrev mX10_depth : MD := (yX10_depth, prog_1_method_10_code, 2, (some .int), none)
def yX10_append : MethodName := ⟨RX10, "append", "(I)I"⟩
abbrev mX10_append : MD := (yX10_append, prog_1_method_11_code, 2, (some .int), none)
def yX10_clearText : MethodName := ⟨RX10, "clearText", "()I"⟩
abbrev mX10_clearText : MD := (yX10_clearText, prog_1_method_12_code, 1, (some .int), none)
def yX10_parse : MethodName := ⟨RX10, "parse", "(I)I"⟩
abbrev mX10_parse : MD := (yX10_parse, prog_1_method_13_code, 4, (some .int), none)
def yX10_setKey : MethodName := ⟨RX10, "setKey", "(II)I"⟩
abbrev mX10_setKey : MD := (yX10_setKey, prog_1_method_14_code, 4, (some .int), none)
def yX10_run : MethodName := ⟨RX10, "run", "(I)I"⟩
abbrev mX10_run : MD := (yX10_run, prog_1_method_15_code, 2, (some .int), none)
def yX10_result : MethodName := ⟨RX10, "result", "(I)I"⟩
abbrev mX10_result : MD := (yX10_result, prog_1_method_16_code, 2, (some .int), none)
def yX10_origin : MethodName := ⟨RX10, "origin", "(I)I"⟩
abbrev mX10_origin : MD := (yX10_origin, prog_1_method_17_code, 2, (some .int), none)
def yX10_isStable : MethodName := ⟨RX10, "isStable", "()I"⟩
abbrev mX10_isStable : MD := (yX10_isStable, prog_1_method_18_code, 1, (some .int), none)
def yX10_outputCount : MethodName := ⟨RX10, "outputCount", "(I)I"⟩
abbrev mX10_outputCount : MD := (yX10_outputCount, prog_1_method_19_code, 2, (some .int), none)
def yX10_outputOf : MethodName := ⟨RX10, "outputOf", "(II)I"⟩
abbrev mX10_outputOf : MD := (yX10_outputOf, prog_1_method_20_code, 3, (some .int), none)
def yX10_isSorter : MethodName := ⟨RX10, "isSorter", "(I)I"⟩
abbrev mX10_isSorter : MD := (yX10_isSorter, prog_1_method_21_code, 2, (some .int), none)
def yX10_firstFailure : MethodName := ⟨RX10, "firstFailure", "(I)I"⟩
abbrev mX10_firstFailure : MD := (yX10_firstFailure, prog_1_method_22_code, 3, (some .int), none)
def yX10_isSelector : MethodName := ⟨RX10, "isSelector", "(II)I"⟩
abbrev mX10_isSelector : MD := (yX10_isSelector, prog_1_method_23_code, 3, (some .int), none)
def yX10_countSorted : MethodName := ⟨RX10, "countSorted", "(I)I"⟩
abbrev mX10_countSorted : MD := (yX10_countSorted, prog_1_method_24_code, 2, (some .int), none)
def yX10_firstUnsorted : MethodName := ⟨RX10, "firstUnsorted", "(I)I"⟩
abbrev mX10_firstUnsorted : MD := (yX10_firstUnsorted, prog_1_method_25_code, 2, (some .int), none)
def yX10_totalExchanges : MethodName := ⟨RX10, "totalExchanges", "(I)J"⟩
abbrev mX10_totalExchanges : MD := (yX10_totalExchanges, prog_1_method_26_code, 2, (some .long), none)
def yX10_mostExchanges : MethodName := ⟨RX10, "mostExchanges", "(I)I"⟩
abbrev mX10_mostExchanges : MD := (yX10_mostExchanges, prog_1_method_27_code, 2, (some .int), none)
def yX10_isRedundant : MethodName := ⟨RX10, "isRedundant", "(II)I"⟩
abbrev mX10_isRedundant : MD := (yX10_isRedundant, prog_1_method_28_code, 5, (some .int), none)
def yX10_prune : MethodName := ⟨RX10, "prune", "(I)I"⟩
abbrev mX10_prune : MD := (yX10_prune, prog_1_method_29_code, 5, (some .int), none)
def yX10_reduce : MethodName := ⟨RX10, "reduce", "(I)I"⟩
abbrev mX10_reduce : MD := (yX10_reduce, prog_1_method_30_code, 5, (some .int), none)
def yX10_standardize : MethodName := ⟨RX10, "standardize", "(I)I"⟩
abbrev mX10_standardize : MD := (yX10_standardize, prog_1_method_31_code, 2, (some .int), none)
def yX10_mirror : MethodName := ⟨RX10, "mirror", "(I)I"⟩
abbrev mX10_mirror : MD := (yX10_mirror, prog_1_method_32_code, 2, (some .int), none)
def yX10_candidate : MethodName := ⟨RX10, "candidate", "(III)I"⟩
abbrev mX10_candidate : MD := (yX10_candidate, prog_1_method_33_code, 5, (some .int), none)
def yX10_grow : MethodName := ⟨RX10, "grow", "(I)I"⟩
abbrev mX10_grow : MD := (yX10_grow, prog_1_method_34_code, 3, (some .int), none)
def yX10_missing : MethodName := ⟨RX10, "missing", "(II)I"⟩
abbrev mX10_missing : MD := (yX10_missing, prog_1_method_35_code, 4, (some .int), none)
def yX10_sameOutputs : MethodName := ⟨RX10, "sameOutputs", "(II)I"⟩
abbrev mX10_sameOutputs : MD := (yX10_sameOutputs, prog_1_method_36_code, 3, (some .int), none)
def yX10_isIsomorphic : MethodName := ⟨RX10, "isIsomorphic", "(II)I"⟩
abbrev mX10_isIsomorphic : MD := (yX10_isIsomorphic, prog_1_method_37_code, 3, (some .int), none)
def yX10_subsumes : MethodName := ⟨RX10, "subsumes", "(II)I"⟩
abbrev mX10_subsumes : MD := (yX10_subsumes, prog_1_method_38_code, 3, (some .int), none)
def yX10_build : MethodName := ⟨RX10, "build", "(III)I"⟩
abbrev mX10_build : MD := (yX10_build, prog_1_method_39_code, 4, (some .int), none)
def yX10_isMerger : MethodName := ⟨RX10, "isMerger", "(II)I"⟩
abbrev mX10_isMerger : MD := (yX10_isMerger, prog_1_method_40_code, 3, (some .int), none)
def yX10_concatenate : MethodName := ⟨RX10, "concatenate", "(III)I"⟩
abbrev mX10_concatenate : MD := (yX10_concatenate, prog_1_method_41_code, 4, (some .int), none)
def yX10_beside : MethodName := ⟨RX10, "beside", "(III)I"⟩
abbrev mX10_beside : MD := (yX10_beside, prog_1_method_42_code, 5, (some .int), none)
def yX10_undo : MethodName := ⟨RX10, "undo", "()I"⟩
abbrev mX10_undo : MD := (yX10_undo, prog_1_method_43_code, 1, (some .int), none)
def yX10_place : MethodName := ⟨RX10, "place", "(IIII)I"⟩
abbrev mX10_place : MD := (yX10_place, prog_1_method_44_code, 5, (some .int), none)
def yX10_discard : MethodName := ⟨RX10, "discard", "(I)I"⟩
abbrev mX10_discard : MD := (yX10_discard, prog_1_method_45_code, 3, (some .int), none)
def yX10_castBlock : MethodName := ⟨RX10, "castBlock", "(II)I"⟩
abbrev mX10_castBlock : MD := (yX10_castBlock, prog_1_method_46_code, 3, (some .int), none)
def yX10_blockSize : MethodName := ⟨RX10, "blockSize", "(II)I"⟩
abbrev mX10_blockSize : MD := (yX10_blockSize, prog_1_method_47_code, 3, (some .int), none)
def yX10_applyBlock : MethodName := ⟨RX10, "applyBlock", "(II)I"⟩
abbrev mX10_applyBlock : MD := (yX10_applyBlock, prog_1_method_48_code, 5, (some .int), none)
def yX10_isNetwork : MethodName := ⟨RX10, "isNetwork", "(I)Z"⟩
abbrev mX10_isNetwork : MD := (yX10_isNetwork, prog_1_method_49_code, 1, (some .boolean), none)
def yX10_isShelf : MethodName := ⟨RX10, "isShelf", "(I)Z"⟩
abbrev mX10_isShelf : MD := (yX10_isShelf, prog_1_method_50_code, 1, (some .boolean), none)
def yX10_isWireCount : MethodName := ⟨RX10, "isWireCount", "(I)Z"⟩
abbrev mX10_isWireCount : MD := (yX10_isWireCount, prog_1_method_51_code, 1, (some .boolean), none)
def yX10_isPosition : MethodName := ⟨RX10, "isPosition", "(II)Z"⟩
abbrev mX10_isPosition : MD := (yX10_isPosition, prog_1_method_52_code, 3, (some .boolean), none)
def yX10_oneIf : MethodName := ⟨RX10, "oneIf", "(Z)I"⟩
abbrev mX10_oneIf : MD := (yX10_oneIf, prog_1_method_53_code, 1, (some .int), none)
def yX10_isSorted : MethodName := ⟨RX10, "isSorted", "(II)Z"⟩
abbrev mX10_isSorted : MD := (yX10_isSorted, prog_1_method_54_code, 3, (some .boolean), none)
def yX10_exchanged : MethodName := ⟨RX10, "exchanged", "(III)I"⟩
abbrev mX10_exchanged : MD := (yX10_exchanged, prog_1_method_55_code, 4, (some .int), none)
def yX10_remember : MethodName := ⟨RX10, "remember", "(I)V"⟩
abbrev mX10_remember : MD := (yX10_remember, prog_1_method_56_code, 2, none, none)
def yX10_pushInto : MethodName := ⟨RX10, "pushInto", "(IIII)I"⟩
abbrev mX10_pushInto : MD := (yX10_pushInto, prog_1_method_57_code, 6, (some .int), none)
def yX10_replaceBySpare : MethodName := ⟨RX10, "replaceBySpare", "(I)I"⟩
abbrev mX10_replaceBySpare : MD := (yX10_replaceBySpare, prog_1_method_58_code, 2, (some .int), none)
def yX10_gatherOutputs : MethodName := ⟨RX10, "gatherOutputs", "(LComparatorNetworks$Network;LComparatorNetworks$OutputSet;)V"⟩
abbrev mX10_gatherOutputs : MD := (yX10_gatherOutputs, prog_1_method_59_code, 3, none, none)
def yX10_sorts : MethodName := ⟨RX10, "sorts", "(LComparatorNetworks$Network;I)Z"⟩
abbrev mX10_sorts : MD := (yX10_sorts, prog_1_method_60_code, 3, (some .boolean), none)
def yX10_lastNeedless : MethodName := ⟨RX10, "lastNeedless", "(LComparatorNetworks$Network;)I"⟩
abbrev mX10_lastNeedless : MD := (yX10_lastNeedless, prog_1_method_61_code, 3, (some .int), none)
def yX10_pushInsertion : MethodName := ⟨RX10, "pushInsertion", "(LComparatorNetworks$Network;)V"⟩
abbrev mX10_pushInsertion : MD := (yX10_pushInsertion, prog_1_method_62_code, 3, none, none)
def yX10_pushBubbles : MethodName := ⟨RX10, "pushBubbles", "(LComparatorNetworks$Network;)V"⟩
abbrev mX10_pushBubbles : MD := (yX10_pushBubbles, prog_1_method_63_code, 3, none, none)
def yX10_pushTransposition : MethodName := ⟨RX10, "pushTransposition", "(LComparatorNetworks$Network;)V"⟩
abbrev mX10_pushTransposition : MD := (yX10_pushTransposition, prog_1_method_64_code, 2, none, none)
def yX10_pushMergeExchange : MethodName := ⟨RX10, "pushMergeExchange", "(LComparatorNetworks$Network;)V"⟩
abbrev mX10_pushMergeExchange : MD := (yX10_pushMergeExchange, prog_1_method_65_code, 6, none, none)
def yX10_pushApart : MethodName := ⟨RX10, "pushApart", "(LComparatorNetworks$Network;III)V"⟩
abbrev mX10_pushApart : MD := (yX10_pushApart, prog_1_method_66_code, 5, none, none)
def yX10_merges : MethodName := ⟨RX10, "merges", "(LComparatorNetworks$Network;I)Z"⟩
abbrev mX10_merges : MD := (yX10_merges, prog_1_method_67_code, 6, (some .boolean), none)
def yX10_sortedBits : MethodName := ⟨RX10, "sortedBits", "(II)I"⟩
abbrev mX10_sortedBits : MD := (yX10_sortedBits, prog_1_method_68_code, 2, (some .int), none)
def yX10_countBlocks : MethodName := ⟨RX10, "countBlocks", "()I"⟩
abbrev mX10_countBlocks : MD := (yX10_countBlocks, prog_1_method_69_code, 3, (some .int), none)
def yX10_unfold : MethodName := ⟨RX10, "unfold", "(LComparatorNetworks$Shelf;I)I"⟩
abbrev mX10_unfold : MD := (yX10_unfold, prog_1_method_70_code, 3, (some .int), none)
def yX11_init : MethodName := ⟨RX11, "<init>", "()V"⟩
abbrev mX11_init : MD := (yX11_init, prog_13_method_1_code, 2, none, none)
def yX11_isIn : MethodName := ⟨RX11, "isIn", "(III)Z"⟩
abbrev mX11_isIn : MD := (yX11_isIn, prog_13_method_2_code, 3, (some .boolean), none)
def yX11_isNet : MethodName := ⟨RX11, "isNet", "(I)Z"⟩
abbrev mX11_isNet : MD := (yX11_isNet, prog_13_method_3_code, 1, (some .boolean), none)
def yX11_isWire : MethodName := ⟨RX11, "isWire", "(II)Z"⟩
abbrev mX11_isWire : MD := (yX11_isWire, prog_13_method_4_code, 3, (some .boolean), none)
def yX11_remembers : MethodName := ⟨RX11, "remembers", "()V"⟩
abbrev mX11_remembers : MD := (yX11_remembers, prog_13_method_5_code, 3, none, none)
def yX11_undo : MethodName := ⟨RX11, "undo", "()I"⟩
abbrev mX11_undo : MD := (yX11_undo, prog_13_method_6_code, 3, (some .int), none)
def yX11_reset : MethodName := ⟨RX11, "reset", "(II)I"⟩
abbrev mX11_reset : MD := (yX11_reset, prog_13_method_7_code, 4, (some .int), none)
def yX11_wires : MethodName := ⟨RX11, "wires", "(I)I"⟩
abbrev mX11_wires : MD := (yX11_wires, prog_13_method_8_code, 2, (some .int), none)
def yX11_size : MethodName := ⟨RX11, "size", "(I)I"⟩
abbrev mX11_size : MD := (yX11_size, prog_13_method_9_code, 2, (some .int), none)
def yX11_isPosition : MethodName := ⟨RX11, "isPosition", "(II)Z"⟩
abbrev mX11_isPosition : MD := (yX11_isPosition, prog_13_method_10_code, 3, (some .boolean), none)
def yX11_comparator : MethodName := ⟨RX11, "comparator", "(II)I"⟩
abbrev mX11_comparator : MD := (yX11_comparator, prog_13_method_11_code, 3, (some .int), none)
def yX11_puts : MethodName := ⟨RX11, "puts", "(IIII)V"⟩
abbrev mX11_puts : MD := (yX11_puts, prog_13_method_12_code, 6, none, none)
def yX11_takes : MethodName := ⟨RX11, "takes", "(II)V"⟩
abbrev mX11_takes : MD := (yX11_takes, prog_13_method_13_code, 4, none, none)
def yX11_add : MethodName := ⟨RX11, "add", "(III)I"⟩
abbrev mX11_add : MD := (yX11_add, prog_13_method_14_code, 4, (some .int), none)
def yX11_insert : MethodName := ⟨RX11, "insert", "(IIII)I"⟩
abbrev mX11_insert : MD := (yX11_insert, prog_13_method_15_code, 5, (some .int), none)
def yX11_remove : MethodName := ⟨RX11, "remove", "(II)I"⟩
abbrev mX11_remove : MD := (yX11_remove, prog_13_method_16_code, 4, (some .int), none)
def yX11_findsLayers : MethodName := ⟨RX11, "findsLayers", "(I)V"⟩
abbrev mX11_findsLayers : MD := (yX11_findsLayers, prog_13_method_17_code, 7, none, none)
def yX11_layer : MethodName := ⟨RX11, "layer", "(II)I"⟩
abbrev mX11_layer : MD := (yX11_layer, prog_13_method_18_code, 3, (some .int), none)
def yX11_depth : MethodName := ⟨RX11, "depth", "(I)I"⟩
abbrev mX11_depth : MD := (yX11_depth, prog_13_method_19_code, 4, (some .int), none)
def yX11_append : MethodName := ⟨RX11, "append", "(I)I"⟩
abbrev mX11_append : MD := (yX11_append, prog_13_method_20_code, 2, (some .int), none)
def yX11_clearText : MethodName := ⟨RX11, "clearText", "()I"⟩
abbrev mX11_clearText : MD := (yX11_clearText, prog_13_method_21_code, 2, (some .int), none)
def yX11_here : MethodName := ⟨RX11, "here", "()I"⟩
abbrev mX11_here : MD := (yX11_here, prog_13_method_22_code, 1, (some .int), none)
def yX11_wire : MethodName := ⟨RX11, "wire", "(I)I"⟩
abbrev mX11_wire : MD := (yX11_wire, prog_13_method_23_code, 3, (some .int), none)
def yX11_sign : MethodName := ⟨RX11, "sign", "(I)V"⟩
abbrev mX11_sign : MD := (yX11_sign, prog_13_method_24_code, 2, none, none)
def yX11_parse : MethodName := ⟨RX11, "parse", "(I)I"⟩
abbrev mX11_parse : MD := (yX11_parse, prog_13_method_25_code, 6, (some .int), none)
def yX11_setKey : MethodName := ⟨RX11, "setKey", "(II)I"⟩
abbrev mX11_setKey : MD := (yX11_setKey, prog_13_method_26_code, 4, (some .int), none)
def yX11_run : MethodName := ⟨RX11, "run", "(I)I"⟩
abbrev mX11_run : MD := (yX11_run, prog_13_method_27_code, 8, (some .int), none)
def yX11_result : MethodName := ⟨RX11, "result", "(I)I"⟩
abbrev mX11_result : MD := (yX11_result, prog_13_method_28_code, 2, (some .int), none)
def yX11_origin : MethodName := ⟨RX11, "origin", "(I)I"⟩
abbrev mX11_origin : MD := (yX11_origin, prog_13_method_29_code, 2, (some .int), none)
def yX11_isStable : MethodName := ⟨RX11, "isStable", "()I"⟩
abbrev mX11_isStable : MD := (yX11_isStable, prog_13_method_30_code, 3, (some .int), none)
def yX11_makes : MethodName := ⟨RX11, "makes", "(III)I"⟩
abbrev mX11_makes : MD := (yX11_makes, prog_13_method_31_code, 8, (some .int), none)
def yX11_isSorted : MethodName := ⟨RX11, "isSorted", "(II)Z"⟩
abbrev mX11_isSorted : MD := (yX11_isSorted, prog_13_method_32_code, 5, (some .boolean), none)
def yX11_isSorter : MethodName := ⟨RX11, "isSorter", "(II)Z"⟩
abbrev mX11_isSorter : MD := (yX11_isSorter, prog_13_method_33_code, 4, (some .boolean), none)
def yX11_finds : MethodName := ⟨RX11, "finds", "(I[Z)I"⟩
abbrev mX11_finds : MD := (yX11_finds, prog_13_method_34_code, 6, (some .int), none)
def yX11_outputCount : MethodName := ⟨RX11, "outputCount", "(I)I"⟩
abbrev mX11_outputCount : MD := (yX11_outputCount, prog_13_method_35_code, 2, (some .int), none)
def yX11_outputOf : MethodName := ⟨RX11, "outputOf", "(II)I"⟩
abbrev mX11_outputOf : MD := (yX11_outputOf, prog_13_method_36_code, 3, (some .int), none)
def yX11_isSorter_ : MethodName := ⟨RX11, "isSorter", "(I)I"⟩
abbrev mX11_isSorter_ : MD := (yX11_isSorter_, prog_13_method_37_code, 2, (some .int), none)
def yX11_firstFailure : MethodName := ⟨RX11, "firstFailure", "(I)I"⟩
abbrev mX11_firstFailure : MD := (yX11_firstFailure, prog_13_method_38_code, 3, (some .int), none)
def yX11_ones : MethodName := ⟨RX11, "ones", "(I)I"⟩
abbrev mX11_ones : MD := (yX11_ones, prog_13_method_39_code, 3, (some .int), none)
def yX11_isSelector : MethodName := ⟨RX11, "isSelector", "(II)I"⟩
abbrev mX11_isSelector : MD := (yX11_isSelector, prog_13_method_40_code, 5, (some .int), none)
def yX11_isNext : MethodName := ⟨RX11, "isNext", "(I)Z"⟩
abbrev mX11_isNext : MD := (yX11_isNext, prog_13_method_41_code, 6, (some .boolean), none)
def yX11_changes : MethodName := ⟨RX11, "changes", "(II)V"⟩
abbrev mX11_changes : MD := (yX11_changes, prog_13_method_42_code, 4, none, none)
def yX11_begins : MethodName := ⟨RX11, "begins", "()V"⟩
abbrev mX11_begins : MD := (yX11_begins, prog_13_method_43_code, 2, none, none)
def yX11_carries : MethodName := ⟨RX11, "carries", "(I)I"⟩
abbrev mX11_carries : MD := (yX11_carries, prog_13_method_44_code, 7, (some .int), none)
def yX11_looks : MethodName := ⟨RX11, "looks", "(I)V"⟩
abbrev mX11_looks : MD := (yX11_looks, prog_13_method_45_code, 7, none, none)
def yX11_countSorted : MethodName := ⟨RX11, "countSorted", "(I)I"⟩
abbrev mX11_countSorted : MD := (yX11_countSorted, prog_13_method_46_code, 2, (some .int), none)
def yX11_firstUnsorted : MethodName := ⟨RX11, "firstUnsorted", "(I)I"⟩
abbrev mX11_firstUnsorted : MD := (yX11_firstUnsorted, prog_13_method_47_code, 2, (some .int), none)
def yX11_totalExchanges : MethodName := ⟨RX11, "totalExchanges", "(I)J"⟩
abbrev mX11_totalExchanges : MD := (yX11_totalExchanges, prog_13_method_48_code, 2, (some .long), none)
def yX11_mostExchanges : MethodName := ⟨RX11, "mostExchanges", "(I)I"⟩
abbrev mX11_mostExchanges : MD := (yX11_mostExchanges, prog_13_method_49_code, 2, (some .int), none)
def yX11_isIdle : MethodName := ⟨RX11, "isIdle", "(II)Z"⟩
abbrev mX11_isIdle : MD := (yX11_isIdle, prog_13_method_50_code, 8, (some .boolean), none)
def yX11_isRedundant : MethodName := ⟨RX11, "isRedundant", "(II)I"⟩
abbrev mX11_isRedundant : MD := (yX11_isRedundant, prog_13_method_51_code, 3, (some .int), none)
def yX11_prune : MethodName := ⟨RX11, "prune", "(I)I"⟩
abbrev mX11_prune : MD := (yX11_prune, prog_13_method_52_code, 4, (some .int), none)
def yX11_reduce : MethodName := ⟨RX11, "reduce", "(I)I"⟩
abbrev mX11_reduce : MD := (yX11_reduce, prog_13_method_53_code, 4, (some .int), none)
def yX11_standardize : MethodName := ⟨RX11, "standardize", "(I)I"⟩
abbrev mX11_standardize : MD := (yX11_standardize, prog_13_method_54_code, 7, (some .int), none)
def yX11_mirror : MethodName := ⟨RX11, "mirror", "(I)I"⟩
abbrev mX11_mirror : MD := (yX11_mirror, prog_13_method_55_code, 4, (some .int), none)
def yX11_counts : MethodName := ⟨RX11, "counts", "(III)I"⟩
abbrev mX11_counts : MD := (yX11_counts, prog_13_method_56_code, 7, (some .int), none)
def yX11_lists : MethodName := ⟨RX11, "lists", "(I)I"⟩
abbrev mX11_lists : MD := (yX11_lists, prog_13_method_57_code, 8, (some .int), none)
def yX11_candidate : MethodName := ⟨RX11, "candidate", "(III)I"⟩
abbrev mX11_candidate : MD := (yX11_candidate, prog_13_method_58_code, 4, (some .int), none)
def yX11_grow : MethodName := ⟨RX11, "grow", "(I)I"⟩
abbrev mX11_grow : MD := (yX11_grow, prog_13_method_59_code, 3, (some .int), none)
def yX11_areSorted : MethodName := ⟨RX11, "areSorted", "(I[Z)Z"⟩
abbrev mX11_areSorted : MD := (yX11_areSorted, prog_13_method_60_code, 4, (some .boolean), none)
def yX11_isOneEnough : MethodName := ⟨RX11, "isOneEnough", "(I)Z"⟩
abbrev mX11_isOneEnough : MD := (yX11_isOneEnough, prog_13_method_61_code, 5, (some .boolean), none)
def yX11_missing : MethodName := ⟨RX11, "missing", "(II)I"⟩
abbrev mX11_missing : MD := (yX11_missing, prog_13_method_62_code, 8, (some .int), none)
def yX11_unlike : MethodName := ⟨RX11, "unlike", "(II)I"⟩
abbrev mX11_unlike : MD := (yX11_unlike, prog_13_method_63_code, 3, (some .int), none)
def yX11_sameOutputs : MethodName := ⟨RX11, "sameOutputs", "(II)I"⟩
abbrev mX11_sameOutputs : MD := (yX11_sameOutputs, prog_13_method_64_code, 7, (some .int), none)
def yX11_isIsomorphic : MethodName := ⟨RX11, "isIsomorphic", "(II)I"⟩
abbrev mX11_isIsomorphic : MD := (yX11_isIsomorphic, prog_13_method_65_code, 7, (some .int), none)
def yX11_subsumes : MethodName := ⟨RX11, "subsumes", "(II)I"⟩
abbrev mX11_subsumes : MD := (yX11_subsumes, prog_13_method_66_code, 11, (some .int), none)
def yX11_appends : MethodName := ⟨RX11, "appends", "(III)V"⟩
abbrev mX11_appends : MD := (yX11_appends, prog_13_method_67_code, 4, none, none)
def yX11_build : MethodName := ⟨RX11, "build", "(III)I"⟩
abbrev mX11_build : MD := (yX11_build, prog_13_method_68_code, 6, (some .int), none)
def yX11_merges : MethodName := ⟨RX11, "merges", "(I)V"⟩
abbrev mX11_merges : MD := (yX11_merges, prog_13_method_69_code, 9, none, none)
def yX11_isMerger : MethodName := ⟨RX11, "isMerger", "(II)I"⟩
abbrev mX11_isMerger : MD := (yX11_isMerger, prog_13_method_70_code, 5, (some .int), none)
def yX11_collects : MethodName := ⟨RX11, "collects", "(III)I"⟩
abbrev mX11_collects : MD := (yX11_collects, prog_13_method_71_code, 5, (some .int), none)
def yX11_becomes : MethodName := ⟨RX11, "becomes", "(III)V"⟩
abbrev mX11_becomes : MD := (yX11_becomes, prog_13_method_72_code, 5, none, none)
def yX11_concatenate : MethodName := ⟨RX11, "concatenate", "(III)I"⟩
abbrev mX11_concatenate : MD := (yX11_concatenate, prog_13_method_73_code, 5, (some .int), none)
def yX11_beside : MethodName := ⟨RX11, "beside", "(III)I"⟩
abbrev mX11_beside : MD := (yX11_beside, prog_13_method_74_code, 5, (some .int), none)
def yX11_isShelf : MethodName := ⟨RX11, "isShelf", "(I)Z"⟩
abbrev mX11_isShelf : MD := (yX11_isShelf, prog_13_method_75_code, 1, (some .boolean), none)
def yX11_above : MethodName := ⟨RX11, "above", "(I)I"⟩
abbrev mX11_above : MD := (yX11_above, prog_13_method_76_code, 1, (some .int), none)
def yX11_place : MethodName := ⟨RX11, "place", "(IIII)I"⟩
abbrev mX11_place : MD := (yX11_place, prog_13_method_77_code, 8, (some .int), none)
def yX11_discard : MethodName := ⟨RX11, "discard", "(I)I"⟩
abbrev mX11_discard : MD := (yX11_discard, prog_13_method_78_code, 3, (some .int), none)
def yX11_castBlock : MethodName := ⟨RX11, "castBlock", "(II)I"⟩
abbrev mX11_castBlock : MD := (yX11_castBlock, prog_13_method_79_code, 4, (some .int), none)
def yX11_makes_ : MethodName := ⟨RX11, "makes", "(II)V"⟩
abbrev mX11_makes_ : MD := (yX11_makes_, prog_13_method_80_code, 3, none, none)
def yX11_makesLayer : MethodName := ⟨RX11, "makesLayer", "(II)V"⟩
abbrev mX11_makesLayer : MD := (yX11_makesLayer, prog_13_method_81_code, 4, none, none)
def yX11_isMade : MethodName := ⟨RX11, "isMade", "(II)Z"⟩
abbrev mX11_isMade : MD := (yX11_isMade, prog_13_method_82_code, 6, (some .boolean), none)
def yX11_blockSize : MethodName := ⟨RX11, "blockSize", "(II)I"⟩
abbrev mX11_blockSize : MD := (yX11_blockSize, prog_13_method_83_code, 3, (some .int), none)
def yX11_applyBlock : MethodName := ⟨RX11, "applyBlock", "(II)I"⟩
abbrev mX11_applyBlock : MD := (yX11_applyBlock, prog_13_method_84_code, 4, (some .int), none)
def yJ6_bitCount_0f7a4 : MethodName := ⟨RJ6, "bitCount", "(I)I"⟩
abbrev mJ6_bitCount_0f7a4 : MD := (yJ6_bitCount_0f7a4, prog_14_method_49_code, 1, (some .int), none)
def yJ13_bitCount_95d88 : MethodName := ⟨RJ13, "bitCount", "(J)I"⟩
abbrev mJ13_bitCount_95d88 : MD := (yJ13_bitCount_95d88, prog_15_method_50_code, 2, (some .int), none)
def yJ9_max_7cf53 : MethodName := ⟨RJ9, "max", "(II)I"⟩
abbrev mJ9_max_7cf53 : MD := (yJ9_max_7cf53, prog_16_method_65_code, 2, (some .int), none)
def yJ9_min_7cf53 : MethodName := ⟨RJ9, "min", "(II)I"⟩
abbrev mJ9_min_7cf53 : MD := (yJ9_min_7cf53, prog_16_method_69_code, 2, (some .int), none)
def yJ7_fill_53178 : MethodName := ⟨RJ7, "fill", "([II)V"⟩
abbrev mJ7_fill_53178 : MD := (yJ7_fill_53178, prog_18_method_103_code, 4, none, none)
def yL_law : MethodName := ⟨RL, "law", "([I)Z"⟩
def gtb : List Cond := lw_tbl.filter goodWord
theorem gtb_in {i : Nat} {w : Cond} (h : lw_tbl[i]? = some w) (hg : goodWord w = true) : w ∈ gtb := List.mem_filter.mpr ⟨List.mem_of_getElem? h, hg⟩
theorem gtb0 {i : Nat} {w : Cond} (h : (k2_sels lw_privs)[i]? = some w) (hg : goodWord w = true) : w ∈ gtb := List.mem_filter.mpr ⟨List.mem_append_left _ (List.mem_of_getElem? h), hg⟩
theorem gtbT {w : Cond} (h : w ∈ tables_1) (hg : goodWord w = true) : w ∈ gtb := List.mem_filter.mpr ⟨List.mem_append_right _ h, hg⟩
theorem gtb1 {i : Nat} {w : Cond} (h : tables_1_1[i]? = some w) (hg : goodWord w = true) : w ∈ gtb := gtbT (List.mem_append_left _ (List.mem_of_getElem? h)) hg
theorem gtb2 {i : Nat} {w : Cond} (h : tables_1_2[i]? = some w) (hg : goodWord w = true) : w ∈ gtb := gtbT (List.mem_append_right _ (List.mem_append_left _ (List.mem_of_getElem? h))) hg
theorem gtb3 {i : Nat} {w : Cond} (h : tables_1_3[i]? = some w) (hg : goodWord w = true) : w ∈ gtb := gtbT (List.mem_append_right _ (List.mem_append_right _ (List.mem_append_left _ (List.mem_of_getElem? h)))) hg
theorem gtb4 {i : Nat} {w : Cond} (h : tables_1_4[i]? = some w) (hg : goodWord w = true) : w ∈ gtb := gtbT (List.mem_append_right _ (List.mem_append_right _ (List.mem_append_right _ (List.mem_append_left _ (List.mem_of_getElem? h))))) hg
theorem gtb5 {i : Nat} {w : Cond} (h : tables_1_5[i]? = some w) (hg : goodWord w = true) : w ∈ gtb := gtbT (List.mem_append_right _ (List.mem_append_right _ (List.mem_append_right _ (List.mem_append_right _ (List.mem_append_left _ (List.mem_of_getElem? h)))))) hg
theorem gtb6 {i : Nat} {w : Cond} (h : tables_1_6[i]? = some w) (hg : goodWord w = true) : w ∈ gtb := gtbT (List.mem_append_right _ (List.mem_append_right _ (List.mem_append_right _ (List.mem_append_right _ (List.mem_append_right _ (List.mem_of_getElem? h)))))) hg
theorem gtb_good {w : Cond} (h : w ∈ gtb) : (w.onTables && w.keeps) = true ∨ ∃ ty, w = .arrayClass ty := good_of_word (List.mem_filter.mp h).2
theorem gtb_tbl {w : Cond} (h : w ∈ gtb) : w ∈ lw_tbl := (List.mem_filter.mp h).1
theorem i_X0 : ∀ w ∈ u_ws RX0 TX0 2, w ∈ gtb := by
  intro w hw
  obtain ⟨j, hj, rfl⟩ := List.mem_map.mp hw
  have hj := List.mem_range.mp hj
  match j, hj with
  | 0, _ => exact gtb1 (i := 223) (by decide +kernel) rfl
  | 1, _ => exact gtb1 (i := 225) (by decide +kernel) rfl
  | j + 2, h => exact absurd h (by omega)
theorem i_X1 : ∀ w ∈ u_ws RX1 TX1 6, w ∈ gtb := by
  intro w hw
  obtain ⟨j, hj, rfl⟩ := List.mem_map.mp hw
  have hj := List.mem_range.mp hj
  match j, hj with
  | 0, _ => exact gtb1 (i := 202) (by decide +kernel) rfl
  | 1, _ => exact gtb1 (i := 204) (by decide +kernel) rfl
  | 2, _ => exact gtb1 (i := 206) (by decide +kernel) rfl
  | 3, _ => exact gtb1 (i := 208) (by decide +kernel) rfl
  | 4, _ => exact gtb1 (i := 210) (by decide +kernel) rfl
  | 5, _ => exact gtb1 (i := 212) (by decide +kernel) rfl
  | j + 6, h => exact absurd h (by omega)
theorem i_X2 : ∀ w ∈ u_ws RX2 TX2 4, w ∈ gtb := by
  intro w hw
  obtain ⟨j, hj, rfl⟩ := List.mem_map.mp hw
  have hj := List.mem_range.mp hj
  match j, hj with
  | 0, _ => exact gtb1 (i := 79) (by decide +kernel) rfl
  | 1, _ => exact gtb1 (i := 81) (by decide +kernel) rfl
  | 2, _ => exact gtb1 (i := 83) (by decide +kernel) rfl
  | 3, _ => exact gtb1 (i := 85) (by decide +kernel) rfl
  | j + 4, h => exact absurd h (by omega)
theorem i_X3 : ∀ w ∈ u_ws RX3 TX3 5, w ∈ gtb := by
  intro w hw
  obtain ⟨j, hj, rfl⟩ := List.mem_map.mp hw
  have hj := List.mem_range.mp hj
  match j, hj with
  | 0, _ => exact gtb1 (i := 55) (by decide +kernel) rfl
  | 1, _ => exact gtb1 (i := 57) (by decide +kernel) rfl
  | 2, _ => exact gtb1 (i := 59) (by decide +kernel) rfl
  | 3, _ => exact gtb1 (i := 61) (by decide +kernel) rfl
  | 4, _ => exact gtb1 (i := 63) (by decide +kernel) rfl
  | j + 5, h => exact absurd h (by omega)
theorem i_X4 : ∀ w ∈ u_ws RX4 TX4 4, w ∈ gtb := by
  intro w hw
  obtain ⟨j, hj, rfl⟩ := List.mem_map.mp hw
  have hj := List.mem_range.mp hj
  match j, hj with
  | 0, _ => exact gtb1 (i := 178) (by decide +kernel) rfl
  | 1, _ => exact gtb1 (i := 180) (by decide +kernel) rfl
  | 2, _ => exact gtb1 (i := 182) (by decide +kernel) rfl
  | 3, _ => exact gtb1 (i := 184) (by decide +kernel) rfl
  | j + 4, h => exact absurd h (by omega)
theorem i_X5 : ∀ w ∈ u_ws RX5 TX5 2, w ∈ gtb := by
  intro w hw
  obtain ⟨j, hj, rfl⟩ := List.mem_map.mp hw
  have hj := List.mem_range.mp hj
  match j, hj with
  | 0, _ => exact gtb1 (i := 236) (by decide +kernel) rfl
  | 1, _ => exact gtb1 (i := 238) (by decide +kernel) rfl
  | j + 2, h => exact absurd h (by omega)
theorem i_X6 : ∀ w ∈ u_ws RX6 TX6 3, w ∈ gtb := by
  intro w hw
  obtain ⟨j, hj, rfl⟩ := List.mem_map.mp hw
  have hj := List.mem_range.mp hj
  match j, hj with
  | 0, _ => exact gtb1 (i := 134) (by decide +kernel) rfl
  | 1, _ => exact gtb1 (i := 136) (by decide +kernel) rfl
  | 2, _ => exact gtb1 (i := 138) (by decide +kernel) rfl
  | j + 3, h => exact absurd h (by omega)
theorem i_X7 : ∀ w ∈ u_ws RX7 TX7 3, w ∈ gtb := by
  intro w hw
  obtain ⟨j, hj, rfl⟩ := List.mem_map.mp hw
  have hj := List.mem_range.mp hj
  match j, hj with
  | 0, _ => exact gtb1 (i := 152) (by decide +kernel) rfl
  | 1, _ => exact gtb1 (i := 154) (by decide +kernel) rfl
  | 2, _ => exact gtb1 (i := 156) (by decide +kernel) rfl
  | j + 3, h => exact absurd h (by omega)
theorem i_X8 : ∀ w ∈ u_ws RX8 TX8 2, w ∈ gtb := by
  intro w hw
  obtain ⟨j, hj, rfl⟩ := List.mem_map.mp hw
  have hj := List.mem_range.mp hj
  match j, hj with
  | 0, _ => exact gtb1 (i := 96) (by decide +kernel) rfl
  | 1, _ => exact gtb1 (i := 98) (by decide +kernel) rfl
  | j + 2, h => exact absurd h (by omega)
theorem i_X9 : ∀ w ∈ u_ws RX9 TX9 4, w ∈ gtb := by
  intro w hw
  obtain ⟨j, hj, rfl⟩ := List.mem_map.mp hw
  have hj := List.mem_range.mp hj
  match j, hj with
  | 0, _ => exact gtb1 (i := 114) (by decide +kernel) rfl
  | 1, _ => exact gtb1 (i := 116) (by decide +kernel) rfl
  | 2, _ => exact gtb1 (i := 118) (by decide +kernel) rfl
  | 3, _ => exact gtb1 (i := 120) (by decide +kernel) rfl
  | j + 4, h => exact absurd h (by omega)
theorem i_X10 : ∀ w ∈ u_ws RX10 TX10 13, w ∈ gtb := by
  intro w hw
  obtain ⟨j, hj, rfl⟩ := List.mem_map.mp hw
  have hj := List.mem_range.mp hj
  match j, hj with
  | 0, _ => exact gtb2 (i := 14) (by decide +kernel) rfl
  | 1, _ => exact gtb2 (i := 16) (by decide +kernel) rfl
  | 2, _ => exact gtb2 (i := 18) (by decide +kernel) rfl
  | 3, _ => exact gtb2 (i := 20) (by decide +kernel) rfl
  | 4, _ => exact gtb2 (i := 22) (by decide +kernel) rfl
  | 5, _ => exact gtb2 (i := 24) (by decide +kernel) rfl
  | 6, _ => exact gtb2 (i := 26) (by decide +kernel) rfl
  | 7, _ => exact gtb2 (i := 28) (by decide +kernel) rfl
  | 8, _ => exact gtb2 (i := 30) (by decide +kernel) rfl
  | 9, _ => exact gtb2 (i := 32) (by decide +kernel) rfl
  | 10, _ => exact gtb2 (i := 34) (by decide +kernel) rfl
  | 11, _ => exact gtb2 (i := 36) (by decide +kernel) rfl
  | 12, _ => exact gtb2 (i := 38) (by decide +kernel) rfl
  | j + 13, h => exact absurd h (by omega)
theorem i_X11 : ∀ w ∈ u_ws RX11 TX11 34, w ∈ gtb := by
  intro w hw
  obtain ⟨j, hj, rfl⟩ := List.mem_map.mp hw
  have hj := List.mem_range.mp hj
  match j, hj with
  | 0, _ => exact gtb4 (i := 198) (by decide +kernel) rfl
  | 1, _ => exact gtb4 (i := 200) (by decide +kernel) rfl
  | 2, _ => exact gtb4 (i := 202) (by decide +kernel) rfl
  | 3, _ => exact gtb4 (i := 204) (by decide +kernel) rfl
  | 4, _ => exact gtb4 (i := 206) (by decide +kernel) rfl
  | 5, _ => exact gtb4 (i := 208) (by decide +kernel) rfl
  | 6, _ => exact gtb4 (i := 210) (by decide +kernel) rfl
  | 7, _ => exact gtb4 (i := 212) (by decide +kernel) rfl
  | 8, _ => exact gtb4 (i := 214) (by decide +kernel) rfl
  | 9, _ => exact gtb4 (i := 216) (by decide +kernel) rfl
  | 10, _ => exact gtb4 (i := 218) (by decide +kernel) rfl
  | 11, _ => exact gtb4 (i := 220) (by decide +kernel) rfl
  | 12, _ => exact gtb4 (i := 222) (by decide +kernel) rfl
  | 13, _ => exact gtb4 (i := 224) (by decide +kernel) rfl
  | 14, _ => exact gtb4 (i := 226) (by decide +kernel) rfl
  | 15, _ => exact gtb4 (i := 228) (by decide +kernel) rfl
  | 16, _ => exact gtb4 (i := 230) (by decide +kernel) rfl
  | 17, _ => exact gtb4 (i := 232) (by decide +kernel) rfl
  | 18, _ => exact gtb4 (i := 234) (by decide +kernel) rfl
  | 19, _ => exact gtb4 (i := 236) (by decide +kernel) rfl
  | 20, _ => exact gtb4 (i := 238) (by decide +kernel) rfl
  | 21, _ => exact gtb5 (i := 0) (by decide +kernel) rfl
  | 22, _ => exact gtb5 (i := 2) (by decide +kernel) rfl
  | 23, _ => exact gtb5 (i := 4) (by decide +kernel) rfl
  | 24, _ => exact gtb5 (i := 6) (by decide +kernel) rfl
  | 25, _ => exact gtb5 (i := 8) (by decide +kernel) rfl
  | 26, _ => exact gtb5 (i := 10) (by decide +kernel) rfl
  | 27, _ => exact gtb5 (i := 12) (by decide +kernel) rfl
  | 28, _ => exact gtb5 (i := 14) (by decide +kernel) rfl
  | 29, _ => exact gtb5 (i := 16) (by decide +kernel) rfl
  | 30, _ => exact gtb5 (i := 18) (by decide +kernel) rfl
  | 31, _ => exact gtb5 (i := 20) (by decide +kernel) rfl
  | 32, _ => exact gtb5 (i := 22) (by decide +kernel) rfl
  | 33, _ => exact gtb5 (i := 24) (by decide +kernel) rfl
  | j + 34, h => exact absurd h (by omega)
/-- what a call of a method needs of the tables, but for its link -/
def CF (C : String) : Prop := Cond.initialized C ∈ gtb ∧ C ≠ "java/lang/invoke/MethodHandle" ∧ C ≠ "java/lang/invoke/VarHandle" ∧ plainName C = true
def MFc (M : MD) (n : Nat) : Prop := Cond.code M.1 M.2.1 M.2.2.1 M.2.2.2.1 ∈ gtb ∧ CF M.1.cls ∧ (parseMethodDescriptor M.1.desc).map (fun d => d.parameters.length) = some n ∧ M.2.2.1 ≤ 45
theorem cfX0 : CF RX0 := ⟨gtb1 (i := 10) (by decide +kernel) rfl, by decide +kernel, by decide +kernel, by decide +kernel⟩
theorem cfX1 : CF RX1 := ⟨gtb1 (i := 9) (by decide +kernel) rfl, by decide +kernel, by decide +kernel, by decide +kernel⟩
theorem cfX2 : CF RX2 := ⟨gtb1 (i := 3) (by decide +kernel) rfl, by decide +kernel, by decide +kernel, by decide +kernel⟩
theorem cfX3 : CF RX3 := ⟨gtb1 (i := 2) (by decide +kernel) rfl, by decide +kernel, by decide +kernel, by decide +kernel⟩
theorem cfX4 : CF RX4 := ⟨gtb1 (i := 8) (by decide +kernel) rfl, by decide +kernel, by decide +kernel, by decide +kernel⟩
theorem cfX5 : CF RX5 := ⟨gtb1 (i := 11) (by decide +kernel) rfl, by decide +kernel, by decide +kernel, by decide +kernel⟩
theorem cfX6 : CF RX6 := ⟨gtb1 (i := 6) (by decide +kernel) rfl, by decide +kernel, by decide +kernel, by decide +kernel⟩
theorem cfX7 : CF RX7 := ⟨gtb1 (i := 7) (by decide +kernel) rfl, by decide +kernel, by decide +kernel, by decide +kernel⟩
theorem cfX8 : CF RX8 := ⟨gtb1 (i := 4) (by decide +kernel) rfl, by decide +kernel, by decide +kernel, by decide +kernel⟩
theorem cfX9 : CF RX9 := ⟨gtb1 (i := 5) (by decide +kernel) rfl, by decide +kernel, by decide +kernel, by decide +kernel⟩
theorem cfX10 : CF RX10 := ⟨gtb1 (i := 1) (by decide +kernel) rfl, by decide +kernel, by decide +kernel, by decide +kernel⟩
theorem cfX11 : CF RX11 := ⟨gtb1 (i := 12) (by decide +kernel) rfl, by decide +kernel, by decide +kernel, by decide +kernel⟩
theorem cfJ6 : CF RJ6 := ⟨gtb1 (i := 17) (by decide +kernel) rfl, by decide +kernel, by decide +kernel, by decide +kernel⟩
theorem cfJ13 : CF RJ13 := ⟨gtb1 (i := 16) (by decide +kernel) rfl, by decide +kernel, by decide +kernel, by decide +kernel⟩
theorem cfJ7 : CF RJ7 := ⟨gtb1 (i := 15) (by decide +kernel) rfl, by decide +kernel, by decide +kernel, by decide +kernel⟩
def MFv (M : MD) (n : Nat) : Prop := MFc M n ∧ Cond.instanceMethod M.1 ∈ gtb ∧ Cond.selects M.1.cls M.1 M.1 ∈ gtb
def MFs (M : MD) (n : Nat) : Prop := MFc M n ∧ Cond.static M.1 ∈ gtb
theorem fX0_init : MFc mX0_init 0 := ⟨gtb1 (i := 219) (by decide +kernel) rfl, cfX0, by decide +kernel, by decide⟩
theorem fX0_countWithoutFailure : MFv mX0_countWithoutFailure 1 := ⟨⟨gtb3 (i := 91) (by decide +kernel) rfl, cfX0, by decide +kernel, by decide⟩, gtb3 (i := 89) (by decide +kernel) rfl, gtb3 (i := 90) (by decide +kernel) rfl⟩
theorem fX0_leastWithFailure : MFv mX0_leastWithFailure 1 := ⟨⟨gtb3 (i := 103) (by decide +kernel) rfl, cfX0, by decide +kernel, by decide⟩, gtb3 (i := 101) (by decide +kernel) rfl, gtb3 (i := 102) (by decide +kernel) rfl⟩
theorem fX0_leastThrough : MFs mX0_leastThrough 2 := ⟨⟨gtb3 (i := 106) (by decide +kernel) rfl, cfX0, by decide +kernel, by decide⟩, gtb3 (i := 105) (by decide +kernel) rfl⟩
theorem fX0_noteExchanges : MFv mX0_noteExchanges 1 := ⟨⟨gtb3 (i := 120) (by decide +kernel) rfl, cfX0, by decide +kernel, by decide⟩, gtb3 (i := 119) (by decide +kernel) rfl, gtb0 (i := 8) (by decide +kernel) rfl⟩
theorem fX0_begun : MFv mX0_begun 2 := ⟨⟨gtb3 (i := 130) (by decide +kernel) rfl, cfX0, by decide +kernel, by decide⟩, gtb3 (i := 129) (by decide +kernel) rfl, gtb0 (i := 9) (by decide +kernel) rfl⟩
theorem fX0_allExchanges : MFv mX0_allExchanges 1 := ⟨⟨gtb3 (i := 116) (by decide +kernel) rfl, cfX0, by decide +kernel, by decide⟩, gtb3 (i := 114) (by decide +kernel) rfl, gtb3 (i := 115) (by decide +kernel) rfl⟩
theorem fX0_greatestExchanges : MFv mX0_greatestExchanges 1 := ⟨⟨gtb3 (i := 141) (by decide +kernel) rfl, cfX0, by decide +kernel, by decide⟩, gtb3 (i := 139) (by decide +kernel) rfl, gtb3 (i := 140) (by decide +kernel) rfl⟩
theorem fX1_init : MFc mX1_init 0 := ⟨gtb1 (i := 192) (by decide +kernel) rfl, cfX1, by decide +kernel, by decide⟩
theorem fX1_rankAll : MFv mX1_rankAll 1 := ⟨⟨gtb3 (i := 196) (by decide +kernel) rfl, cfX1, by decide +kernel, by decide⟩, gtb3 (i := 194) (by decide +kernel) rfl, gtb3 (i := 195) (by decide +kernel) rfl⟩
theorem fX1_rankOne : MFv mX1_rankOne 3 := ⟨⟨gtb3 (i := 205) (by decide +kernel) rfl, cfX1, by decide +kernel, by decide⟩, gtb3 (i := 204) (by decide +kernel) rfl, gtb0 (i := 12) (by decide +kernel) rfl⟩
theorem fX1_codeAt : MFv mX1_codeAt 1 := ⟨⟨gtb3 (i := 209) (by decide +kernel) rfl, cfX1, by decide +kernel, by decide⟩, gtb3 (i := 207) (by decide +kernel) rfl, gtb3 (i := 208) (by decide +kernel) rfl⟩
theorem fX1_outputsAt : MFv mX1_outputsAt 1 := ⟨⟨gtb3 (i := 213) (by decide +kernel) rfl, cfX1, by decide +kernel, by decide⟩, gtb3 (i := 211) (by decide +kernel) rfl, gtb3 (i := 212) (by decide +kernel) rfl⟩
theorem fX1_leastToSort : MFv mX1_leastToSort 2 := ⟨⟨gtb3 (i := 225) (by decide +kernel) rfl, cfX1, by decide +kernel, by decide⟩, gtb3 (i := 223) (by decide +kernel) rfl, gtb3 (i := 224) (by decide +kernel) rfl⟩
theorem fX1_oneSorts : MFs mX1_oneSorts 3 := ⟨⟨gtb3 (i := 229) (by decide +kernel) rfl, cfX1, by decide +kernel, by decide⟩, gtb3 (i := 228) (by decide +kernel) rfl⟩
theorem fX1_pairSorts : MFs mX1_pairSorts 5 := ⟨⟨gtb3 (i := 232) (by decide +kernel) rfl, cfX1, by decide +kernel, by decide⟩, gtb3 (i := 231) (by decide +kernel) rfl⟩
theorem fX1_twoSort : MFv mX1_twoSort 2 := ⟨⟨gtb3 (i := 237) (by decide +kernel) rfl, cfX1, by decide +kernel, by decide⟩, gtb3 (i := 236) (by decide +kernel) rfl, gtb0 (i := 13) (by decide +kernel) rfl⟩
theorem fX1_keepUnsorted : MFv mX1_keepUnsorted 4 := ⟨⟨gtb4 (i := 1) (by decide +kernel) rfl, cfX1, by decide +kernel, by decide⟩, gtb4 (i := 0) (by decide +kernel) rfl, gtb0 (i := 14) (by decide +kernel) rfl⟩
theorem fX2_init : MFc mX2_init 0 := ⟨gtb1 (i := 71) (by decide +kernel) rfl, cfX2, by decide +kernel, by decide⟩
theorem fX2_keep : MFv mX2_keep 2 := ⟨⟨gtb2 (i := 58) (by decide +kernel) rfl, cfX2, by decide +kernel, by decide⟩, gtb2 (i := 56) (by decide +kernel) rfl, gtb2 (i := 57) (by decide +kernel) rfl⟩
theorem fX2_takeBack : MFv mX2_takeBack 1 := ⟨⟨gtb4 (i := 91) (by decide +kernel) rfl, cfX2, by decide +kernel, by decide⟩, gtb4 (i := 89) (by decide +kernel) rfl, gtb4 (i := 90) (by decide +kernel) rfl⟩
theorem fX3_init : MFc mX3_init 0 := ⟨gtb1 (i := 31) (by decide +kernel) rfl, cfX3, by decide +kernel, by decide⟩
theorem fX3_hasWire : MFv mX3_hasWire 1 := ⟨⟨gtb2 (i := 113) (by decide +kernel) rfl, cfX3, by decide +kernel, by decide⟩, gtb2 (i := 111) (by decide +kernel) rfl, gtb2 (i := 112) (by decide +kernel) rfl⟩
theorem fX3_hasPosition : MFv mX3_hasPosition 1 := ⟨⟨gtb2 (i := 92) (by decide +kernel) rfl, cfX3, by decide +kernel, by decide⟩, gtb2 (i := 90) (by decide +kernel) rfl, gtb2 (i := 91) (by decide +kernel) rfl⟩
theorem fX3_restart : MFv mX3_restart 1 := ⟨⟨gtb2 (i := 72) (by decide +kernel) rfl, cfX3, by decide +kernel, by decide⟩, gtb2 (i := 70) (by decide +kernel) rfl, gtb2 (i := 71) (by decide +kernel) rfl⟩
theorem fX3_takeOver : MFv mX3_takeOver 1 := ⟨⟨gtb2 (i := 62) (by decide +kernel) rfl, cfX3, by decide +kernel, by decide⟩, gtb2 (i := 60) (by decide +kernel) rfl, gtb2 (i := 61) (by decide +kernel) rfl⟩
theorem fX3_codeAt : MFv mX3_codeAt 1 := ⟨⟨gtb2 (i := 96) (by decide +kernel) rfl, cfX3, by decide +kernel, by decide⟩, gtb2 (i := 94) (by decide +kernel) rfl, gtb2 (i := 95) (by decide +kernel) rfl⟩
theorem fX3_refusal : MFv mX3_refusal 2 := ⟨⟨gtb2 (i := 109) (by decide +kernel) rfl, cfX3, by decide +kernel, by decide⟩, gtb2 (i := 107) (by decide +kernel) rfl, gtb2 (i := 108) (by decide +kernel) rfl⟩
theorem fX3_push : MFv mX3_push 2 := ⟨⟨gtb2 (i := 188) (by decide +kernel) rfl, cfX3, by decide +kernel, by decide⟩, gtb2 (i := 186) (by decide +kernel) rfl, gtb2 (i := 187) (by decide +kernel) rfl⟩
theorem fX3_pushAt : MFv mX3_pushAt 3 := ⟨⟨gtb2 (i := 117) (by decide +kernel) rfl, cfX3, by decide +kernel, by decide⟩, gtb2 (i := 115) (by decide +kernel) rfl, gtb2 (i := 116) (by decide +kernel) rfl⟩
theorem fX3_pushAll : MFv mX3_pushAll 2 := ⟨⟨gtb4 (i := 79) (by decide +kernel) rfl, cfX3, by decide +kernel, by decide⟩, gtb4 (i := 77) (by decide +kernel) rfl, gtb4 (i := 78) (by decide +kernel) rfl⟩
theorem fX3_pushNeighbours : MFv mX3_pushNeighbours 1 := ⟨⟨gtb4 (i := 53) (by decide +kernel) rfl, cfX3, by decide +kernel, by decide⟩, gtb4 (i := 51) (by decide +kernel) rfl, gtb4 (i := 52) (by decide +kernel) rfl⟩
theorem fX3_drop : MFv mX3_drop 1 := ⟨⟨gtb2 (i := 130) (by decide +kernel) rfl, cfX3, by decide +kernel, by decide⟩, gtb2 (i := 128) (by decide +kernel) rfl, gtb2 (i := 129) (by decide +kernel) rfl⟩
theorem fX3_levelAt : MFv mX3_levelAt 1 := ⟨⟨gtb2 (i := 138) (by decide +kernel) rfl, cfX3, by decide +kernel, by decide⟩, gtb2 (i := 136) (by decide +kernel) rfl, gtb2 (i := 137) (by decide +kernel) rfl⟩
theorem fX3_levels : MFv mX3_levels 0 := ⟨⟨gtb2 (i := 156) (by decide +kernel) rfl, cfX3, by decide +kernel, by decide⟩, gtb2 (i := 154) (by decide +kernel) rfl, gtb2 (i := 155) (by decide +kernel) rfl⟩
theorem fX3_passLayers : MFv mX3_passLayers 1 := ⟨⟨gtb2 (i := 142) (by decide +kernel) rfl, cfX3, by decide +kernel, by decide⟩, gtb2 (i := 141) (by decide +kernel) rfl, gtb0 (i := 3) (by decide +kernel) rfl⟩
theorem fX3_carry : MFv mX3_carry 1 := ⟨⟨gtb3 (i := 38) (by decide +kernel) rfl, cfX3, by decide +kernel, by decide⟩, gtb3 (i := 36) (by decide +kernel) rfl, gtb3 (i := 37) (by decide +kernel) rfl⟩
theorem fX3_exchangesFor : MFv mX3_exchangesFor 1 := ⟨⟨gtb3 (i := 124) (by decide +kernel) rfl, cfX3, by decide +kernel, by decide⟩, gtb3 (i := 122) (by decide +kernel) rfl, gtb3 (i := 123) (by decide +kernel) rfl⟩
theorem fX3_turnAll : MFv mX3_turnAll 0 := ⟨⟨gtb3 (i := 173) (by decide +kernel) rfl, cfX3, by decide +kernel, by decide⟩, gtb3 (i := 171) (by decide +kernel) rfl, gtb3 (i := 172) (by decide +kernel) rfl⟩
theorem fX3_swapWiresBehind : MFv mX3_swapWiresBehind 3 := ⟨⟨gtb3 (i := 177) (by decide +kernel) rfl, cfX3, by decide +kernel, by decide⟩, gtb3 (i := 176) (by decide +kernel) rfl, gtb0 (i := 11) (by decide +kernel) rfl⟩
theorem fX3_swapped : MFs mX3_swapped 3 := ⟨⟨gtb3 (i := 180) (by decide +kernel) rfl, cfX3, by decide +kernel, by decide⟩, gtb3 (i := 179) (by decide +kernel) rfl⟩
theorem fX3_reflect : MFv mX3_reflect 0 := ⟨⟨gtb3 (i := 188) (by decide +kernel) rfl, cfX3, by decide +kernel, by decide⟩, gtb3 (i := 186) (by decide +kernel) rfl, gtb3 (i := 187) (by decide +kernel) rfl⟩
theorem fX4_init : MFc mX4_init 0 := ⟨gtb1 (i := 164) (by decide +kernel) rfl, cfX4, by decide +kernel, by decide⟩
theorem fX4_gather : MFv mX4_gather 1 := ⟨⟨gtb3 (i := 22) (by decide +kernel) rfl, cfX4, by decide +kernel, by decide⟩, gtb3 (i := 20) (by decide +kernel) rfl, gtb3 (i := 21) (by decide +kernel) rfl⟩
theorem fX4_equalTo : MFv mX4_equalTo 1 := ⟨⟨gtb4 (i := 9) (by decide +kernel) rfl, cfX4, by decide +kernel, by decide⟩, gtb4 (i := 7) (by decide +kernel) rfl, gtb4 (i := 8) (by decide +kernel) rfl⟩
theorem fX4_countAfter : MFv mX4_countAfter 2 := ⟨⟨gtb3 (i := 200) (by decide +kernel) rfl, cfX4, by decide +kernel, by decide⟩, gtb3 (i := 198) (by decide +kernel) rfl, gtb3 (i := 199) (by decide +kernel) rfl⟩
theorem fX5_init : MFc mX5_init 0 := ⟨gtb1 (i := 232) (by decide +kernel) rfl, cfX5, by decide +kernel, by decide⟩
theorem fX5_makes : MFv mX5_makes 2 := ⟨⟨gtb4 (i := 17) (by decide +kernel) rfl, cfX5, by decide +kernel, by decide⟩, gtb4 (i := 15) (by decide +kernel) rfl, gtb4 (i := 16) (by decide +kernel) rfl⟩
theorem fX5_link : MFv mX5_link 2 := ⟨⟨gtb4 (i := 22) (by decide +kernel) rfl, cfX5, by decide +kernel, by decide⟩, gtb4 (i := 21) (by decide +kernel) rfl, gtb0 (i := 15) (by decide +kernel) rfl⟩
theorem fX5_putsInto : MFv mX5_putsInto 2 := ⟨⟨gtb4 (i := 30) (by decide +kernel) rfl, cfX5, by decide +kernel, by decide⟩, gtb4 (i := 28) (by decide +kernel) rfl, gtb4 (i := 29) (by decide +kernel) rfl⟩
theorem fX5_search : MFs mX5_search 5 := ⟨⟨gtb4 (i := 33) (by decide +kernel) rfl, cfX5, by decide +kernel, by decide⟩, gtb4 (i := 32) (by decide +kernel) rfl⟩
theorem fX5_movesInto : MFs mX5_movesInto 3 := ⟨⟨gtb4 (i := 36) (by decide +kernel) rfl, cfX5, by decide +kernel, by decide⟩, gtb4 (i := 35) (by decide +kernel) rfl⟩
theorem fX6_init : MFc mX6_init 0 := ⟨gtb1 (i := 128) (by decide +kernel) rfl, cfX6, by decide +kernel, by decide⟩
theorem fX6_allows : MFs mX6_allows 3 := ⟨⟨gtb4 (i := 101) (by decide +kernel) rfl, cfX6, by decide +kernel, by decide⟩, gtb4 (i := 100) (by decide +kernel) rfl⟩
theorem fX6_isTaken : MFv mX6_isTaken 0 := ⟨⟨gtb4 (i := 113) (by decide +kernel) rfl, cfX6, by decide +kernel, by decide⟩, gtb4 (i := 111) (by decide +kernel) rfl, gtb4 (i := 112) (by decide +kernel) rfl⟩
theorem fX6_hold : MFv mX6_hold 3 := ⟨⟨gtb4 (i := 105) (by decide +kernel) rfl, cfX6, by decide +kernel, by decide⟩, gtb4 (i := 103) (by decide +kernel) rfl, gtb4 (i := 104) (by decide +kernel) rfl⟩
theorem fX6_release : MFv mX6_release 0 := ⟨⟨gtb4 (i := 121) (by decide +kernel) rfl, cfX6, by decide +kernel, by decide⟩, gtb4 (i := 119) (by decide +kernel) rfl, gtb4 (i := 120) (by decide +kernel) rfl⟩
theorem fX6_isOfKind : MFv mX6_isOfKind 1 := ⟨⟨gtb4 (i := 129) (by decide +kernel) rfl, cfX6, by decide +kernel, by decide⟩, gtb4 (i := 127) (by decide +kernel) rfl, gtb4 (i := 128) (by decide +kernel) rfl⟩
theorem fX6_fits : MFv mX6_fits 1 := ⟨⟨gtb4 (i := 143) (by decide +kernel) rfl, cfX6, by decide +kernel, by decide⟩, gtb4 (i := 141) (by decide +kernel) rfl, gtb4 (i := 142) (by decide +kernel) rfl⟩
theorem fX6_pushOnto : MFv mX6_pushOnto 1 := ⟨⟨gtb4 (i := 147) (by decide +kernel) rfl, cfX6, by decide +kernel, by decide⟩, gtb4 (i := 145) (by decide +kernel) rfl, gtb4 (i := 146) (by decide +kernel) rfl⟩
theorem fX6_pushRepeated : MFv mX6_pushRepeated 1 := ⟨⟨gtb4 (i := 153) (by decide +kernel) rfl, cfX6, by decide +kernel, by decide⟩, gtb4 (i := 152) (by decide +kernel) rfl, gtb0 (i := 18) (by decide +kernel) rfl⟩
theorem fX7_init : MFc mX7_init 0 := ⟨gtb1 (i := 145) (by decide +kernel) rfl, cfX7, by decide +kernel, by decide⟩
theorem fX7_start : MFv mX7_start 1 := ⟨⟨gtb3 (i := 8) (by decide +kernel) rfl, cfX7, by decide +kernel, by decide⟩, gtb3 (i := 6) (by decide +kernel) rfl, gtb3 (i := 7) (by decide +kernel) rfl⟩
theorem fX7_inputLane : MFs mX7_inputLane 2 := ⟨⟨gtb3 (i := 11) (by decide +kernel) rfl, cfX7, by decide +kernel, by decide⟩, gtb3 (i := 10) (by decide +kernel) rfl⟩
theorem fX7_pass : MFv mX7_pass 2 := ⟨⟨gtb3 (i := 18) (by decide +kernel) rfl, cfX7, by decide +kernel, by decide⟩, gtb3 (i := 16) (by decide +kernel) rfl, gtb3 (i := 17) (by decide +kernel) rfl⟩
theorem fX7_passAll : MFv mX7_passAll 2 := ⟨⟨gtb3 (i := 4) (by decide +kernel) rfl, cfX7, by decide +kernel, by decide⟩, gtb3 (i := 2) (by decide +kernel) rfl, gtb3 (i := 3) (by decide +kernel) rfl⟩
theorem fX7_exchanges : MFv mX7_exchanges 2 := ⟨⟨gtb3 (i := 152) (by decide +kernel) rfl, cfX7, by decide +kernel, by decide⟩, gtb3 (i := 150) (by decide +kernel) rfl, gtb3 (i := 151) (by decide +kernel) rfl⟩
theorem fX7_failures : MFv mX7_failures 1 := ⟨⟨gtb3 (i := 57) (by decide +kernel) rfl, cfX7, by decide +kernel, by decide⟩, gtb3 (i := 56) (by decide +kernel) rfl, gtb0 (i := 7) (by decide +kernel) rfl⟩
theorem fX7_lowestFailure : MFv mX7_lowestFailure 0 := ⟨⟨gtb3 (i := 53) (by decide +kernel) rfl, cfX7, by decide +kernel, by decide⟩, gtb3 (i := 51) (by decide +kernel) rfl, gtb3 (i := 52) (by decide +kernel) rfl⟩
theorem fX7_valueAt : MFv mX7_valueAt 2 := ⟨⟨gtb3 (i := 30) (by decide +kernel) rfl, cfX7, by decide +kernel, by decide⟩, gtb3 (i := 28) (by decide +kernel) rfl, gtb3 (i := 29) (by decide +kernel) rfl⟩
theorem fX7_outputFor : MFv mX7_outputFor 1 := ⟨⟨gtb3 (i := 26) (by decide +kernel) rfl, cfX7, by decide +kernel, by decide⟩, gtb3 (i := 24) (by decide +kernel) rfl, gtb3 (i := 25) (by decide +kernel) rfl⟩
theorem fX7_selects : MFv mX7_selects 1 := ⟨⟨gtb3 (i := 76) (by decide +kernel) rfl, cfX7, by decide +kernel, by decide⟩, gtb3 (i := 74) (by decide +kernel) rfl, gtb3 (i := 75) (by decide +kernel) rfl⟩
theorem fX8_init : MFc mX8_init 0 := ⟨gtb1 (i := 92) (by decide +kernel) rfl, cfX8, by decide +kernel, by decide⟩
theorem fX8_put : MFv mX8_put 1 := ⟨⟨gtb2 (i := 164) (by decide +kernel) rfl, cfX8, by decide +kernel, by decide⟩, gtb2 (i := 162) (by decide +kernel) rfl, gtb2 (i := 163) (by decide +kernel) rfl⟩
theorem fX8_empty : MFv mX8_empty 0 := ⟨⟨gtb2 (i := 172) (by decide +kernel) rfl, cfX8, by decide +kernel, by decide⟩, gtb2 (i := 170) (by decide +kernel) rfl, gtb2 (i := 171) (by decide +kernel) rfl⟩
theorem fX8_readInto : MFv mX8_readInto 1 := ⟨⟨gtb2 (i := 180) (by decide +kernel) rfl, cfX8, by decide +kernel, by decide⟩, gtb2 (i := 178) (by decide +kernel) rfl, gtb2 (i := 179) (by decide +kernel) rfl⟩
theorem fX8_canContinue : MFs mX8_canContinue 4 := ⟨⟨gtb2 (i := 183) (by decide +kernel) rfl, cfX8, by decide +kernel, by decide⟩, gtb2 (i := 182) (by decide +kernel) rfl⟩
theorem fX9_init : MFc mX9_init 0 := ⟨gtb1 (i := 105) (by decide +kernel) rfl, cfX9, by decide +kernel, by decide⟩
theorem fX9_hadWire : MFv mX9_hadWire 1 := ⟨⟨gtb2 (i := 217) (by decide +kernel) rfl, cfX9, by decide +kernel, by decide⟩, gtb2 (i := 215) (by decide +kernel) rfl, gtb2 (i := 216) (by decide +kernel) rfl⟩
theorem fX9_perform : MFv mX9_perform 2 := ⟨⟨gtb2 (i := 206) (by decide +kernel) rfl, cfX9, by decide +kernel, by decide⟩, gtb2 (i := 204) (by decide +kernel) rfl, gtb2 (i := 205) (by decide +kernel) rfl⟩
theorem fX9_swap : MFs mX9_swap 3 := ⟨⟨gtb2 (i := 209) (by decide +kernel) rfl, cfX9, by decide +kernel, by decide⟩, gtb2 (i := 208) (by decide +kernel) rfl⟩
theorem fX9_keptOrder : MFv mX9_keptOrder 0 := ⟨⟨gtb2 (i := 229) (by decide +kernel) rfl, cfX9, by decide +kernel, by decide⟩, gtb2 (i := 227) (by decide +kernel) rfl, gtb2 (i := 228) (by decide +kernel) rfl⟩
theorem fX10_init : MFc mX10_init 0 := ⟨gtb1 (i := 22) (by decide +kernel) rfl, cfX10, by decide +kernel, by decide⟩
theorem fX10_reset : MFv mX10_reset 2 := ⟨⟨gtb2 (i := 44) (by decide +kernel) rfl, cfX10, by decide +kernel, by decide⟩, gtb2 (i := 42) (by decide +kernel) rfl, gtb2 (i := 43) (by decide +kernel) rfl⟩
theorem fX10_wires : MFv mX10_wires 1 := ⟨⟨gtb2 (i := 76) (by decide +kernel) rfl, cfX10, by decide +kernel, by decide⟩, gtb2 (i := 74) (by decide +kernel) rfl, gtb2 (i := 75) (by decide +kernel) rfl⟩
theorem fX10_size : MFv mX10_size 1 := ⟨⟨gtb2 (i := 80) (by decide +kernel) rfl, cfX10, by decide +kernel, by decide⟩, gtb2 (i := 78) (by decide +kernel) rfl, gtb2 (i := 79) (by decide +kernel) rfl⟩
theorem fX10_comparator : MFv mX10_comparator 2 := ⟨⟨gtb2 (i := 84) (by decide +kernel) rfl, cfX10, by decide +kernel, by decide⟩, gtb2 (i := 82) (by decide +kernel) rfl, gtb2 (i := 83) (by decide +kernel) rfl⟩
theorem fX10_add : MFv mX10_add 3 := ⟨⟨gtb2 (i := 101) (by decide +kernel) rfl, cfX10, by decide +kernel, by decide⟩, gtb2 (i := 99) (by decide +kernel) rfl, gtb2 (i := 100) (by decide +kernel) rfl⟩
theorem fX10_insert : MFv mX10_insert 4 := ⟨⟨gtb2 (i := 122) (by decide +kernel) rfl, cfX10, by decide +kernel, by decide⟩, gtb2 (i := 120) (by decide +kernel) rfl, gtb2 (i := 121) (by decide +kernel) rfl⟩
theorem fX10_remove : MFv mX10_remove 2 := ⟨⟨gtb2 (i := 126) (by decide +kernel) rfl, cfX10, by decide +kernel, by decide⟩, gtb2 (i := 124) (by decide +kernel) rfl, gtb2 (i := 125) (by decide +kernel) rfl⟩
theorem fX10_layer : MFv mX10_layer 2 := ⟨⟨gtb2 (i := 134) (by decide +kernel) rfl, cfX10, by decide +kernel, by decide⟩, gtb2 (i := 132) (by decide +kernel) rfl, gtb2 (i := 133) (by decide +kernel) rfl⟩
theorem fX10_depth : MFv mX10_depth 1 := ⟨⟨gtb2 (i := 152) (by decide +kernel) rfl, cfX10, by decide +kernel, by decide⟩, gtb2 (i := 150) (by decide +kernel) rfl, gtb2 (i := 151) (by decide +kernel) rfl⟩
theorem fX10_append : MFv mX10_append 1 := ⟨⟨gtb2 (i := 160) (by decide +kernel) rfl, cfX10, by decide +kernel, by decide⟩, gtb2 (i := 158) (by decide +kernel) rfl, gtb2 (i := 159) (by decide +kernel) rfl⟩
theorem fX10_clearText : MFv mX10_clearText 0 := ⟨⟨gtb2 (i := 168) (by decide +kernel) rfl, cfX10, by decide +kernel, by decide⟩, gtb2 (i := 166) (by decide +kernel) rfl, gtb2 (i := 167) (by decide +kernel) rfl⟩
theorem fX10_parse : MFv mX10_parse 1 := ⟨⟨gtb2 (i := 176) (by decide +kernel) rfl, cfX10, by decide +kernel, by decide⟩, gtb2 (i := 174) (by decide +kernel) rfl, gtb2 (i := 175) (by decide +kernel) rfl⟩
theorem fX10_setKey : MFv mX10_setKey 2 := ⟨⟨gtb2 (i := 198) (by decide +kernel) rfl, cfX10, by decide +kernel, by decide⟩, gtb2 (i := 196) (by decide +kernel) rfl, gtb2 (i := 197) (by decide +kernel) rfl⟩
theorem fX10_run : MFv mX10_run 1 := ⟨⟨gtb2 (i := 202) (by decide +kernel) rfl, cfX10, by decide +kernel, by decide⟩, gtb2 (i := 200) (by decide +kernel) rfl, gtb2 (i := 201) (by decide +kernel) rfl⟩
theorem fX10_result : MFv mX10_result 1 := ⟨⟨gtb2 (i := 213) (by decide +kernel) rfl, cfX10, by decide +kernel, by decide⟩, gtb2 (i := 211) (by decide +kernel) rfl, gtb2 (i := 212) (by decide +kernel) rfl⟩
theorem fX10_origin : MFv mX10_origin 1 := ⟨⟨gtb2 (i := 221) (by decide +kernel) rfl, cfX10, by decide +kernel, by decide⟩, gtb2 (i := 219) (by decide +kernel) rfl, gtb2 (i := 220) (by decide +kernel) rfl⟩
theorem fX10_isStable : MFv mX10_isStable 0 := ⟨⟨gtb2 (i := 225) (by decide +kernel) rfl, cfX10, by decide +kernel, by decide⟩, gtb2 (i := 223) (by decide +kernel) rfl, gtb2 (i := 224) (by decide +kernel) rfl⟩
theorem fX10_outputCount : MFv mX10_outputCount 1 := ⟨⟨gtb2 (i := 236) (by decide +kernel) rfl, cfX10, by decide +kernel, by decide⟩, gtb2 (i := 234) (by decide +kernel) rfl, gtb2 (i := 235) (by decide +kernel) rfl⟩
theorem fX10_outputOf : MFv mX10_outputOf 2 := ⟨⟨gtb3 (i := 34) (by decide +kernel) rfl, cfX10, by decide +kernel, by decide⟩, gtb3 (i := 32) (by decide +kernel) rfl, gtb3 (i := 33) (by decide +kernel) rfl⟩
theorem fX10_isSorter : MFv mX10_isSorter 1 := ⟨⟨gtb3 (i := 45) (by decide +kernel) rfl, cfX10, by decide +kernel, by decide⟩, gtb3 (i := 43) (by decide +kernel) rfl, gtb3 (i := 44) (by decide +kernel) rfl⟩
theorem fX10_firstFailure : MFv mX10_firstFailure 1 := ⟨⟨gtb3 (i := 67) (by decide +kernel) rfl, cfX10, by decide +kernel, by decide⟩, gtb3 (i := 65) (by decide +kernel) rfl, gtb3 (i := 66) (by decide +kernel) rfl⟩
theorem fX10_isSelector : MFv mX10_isSelector 2 := ⟨⟨gtb3 (i := 71) (by decide +kernel) rfl, cfX10, by decide +kernel, by decide⟩, gtb3 (i := 69) (by decide +kernel) rfl, gtb3 (i := 70) (by decide +kernel) rfl⟩
theorem fX10_countSorted : MFv mX10_countSorted 1 := ⟨⟨gtb3 (i := 87) (by decide +kernel) rfl, cfX10, by decide +kernel, by decide⟩, gtb3 (i := 85) (by decide +kernel) rfl, gtb3 (i := 86) (by decide +kernel) rfl⟩
theorem fX10_firstUnsorted : MFv mX10_firstUnsorted 1 := ⟨⟨gtb3 (i := 99) (by decide +kernel) rfl, cfX10, by decide +kernel, by decide⟩, gtb3 (i := 97) (by decide +kernel) rfl, gtb3 (i := 98) (by decide +kernel) rfl⟩
theorem fX10_totalExchanges : MFv mX10_totalExchanges 1 := ⟨⟨gtb3 (i := 112) (by decide +kernel) rfl, cfX10, by decide +kernel, by decide⟩, gtb3 (i := 110) (by decide +kernel) rfl, gtb3 (i := 111) (by decide +kernel) rfl⟩
theorem fX10_mostExchanges : MFv mX10_mostExchanges 1 := ⟨⟨gtb3 (i := 137) (by decide +kernel) rfl, cfX10, by decide +kernel, by decide⟩, gtb3 (i := 135) (by decide +kernel) rfl, gtb3 (i := 136) (by decide +kernel) rfl⟩
theorem fX10_isRedundant : MFv mX10_isRedundant 2 := ⟨⟨gtb3 (i := 146) (by decide +kernel) rfl, cfX10, by decide +kernel, by decide⟩, gtb3 (i := 144) (by decide +kernel) rfl, gtb3 (i := 145) (by decide +kernel) rfl⟩
theorem fX10_prune : MFv mX10_prune 1 := ⟨⟨gtb3 (i := 156) (by decide +kernel) rfl, cfX10, by decide +kernel, by decide⟩, gtb3 (i := 154) (by decide +kernel) rfl, gtb3 (i := 155) (by decide +kernel) rfl⟩
theorem fX10_reduce : MFv mX10_reduce 1 := ⟨⟨gtb3 (i := 161) (by decide +kernel) rfl, cfX10, by decide +kernel, by decide⟩, gtb3 (i := 159) (by decide +kernel) rfl, gtb3 (i := 160) (by decide +kernel) rfl⟩
theorem fX10_standardize : MFv mX10_standardize 1 := ⟨⟨gtb3 (i := 169) (by decide +kernel) rfl, cfX10, by decide +kernel, by decide⟩, gtb3 (i := 167) (by decide +kernel) rfl, gtb3 (i := 168) (by decide +kernel) rfl⟩
theorem fX10_mirror : MFv mX10_mirror 1 := ⟨⟨gtb3 (i := 184) (by decide +kernel) rfl, cfX10, by decide +kernel, by decide⟩, gtb3 (i := 182) (by decide +kernel) rfl, gtb3 (i := 183) (by decide +kernel) rfl⟩
theorem fX10_candidate : MFv mX10_candidate 3 := ⟨⟨gtb3 (i := 192) (by decide +kernel) rfl, cfX10, by decide +kernel, by decide⟩, gtb3 (i := 190) (by decide +kernel) rfl, gtb3 (i := 191) (by decide +kernel) rfl⟩
theorem fX10_grow : MFv mX10_grow 1 := ⟨⟨gtb3 (i := 217) (by decide +kernel) rfl, cfX10, by decide +kernel, by decide⟩, gtb3 (i := 215) (by decide +kernel) rfl, gtb3 (i := 216) (by decide +kernel) rfl⟩
theorem fX10_missing : MFv mX10_missing 2 := ⟨⟨gtb3 (i := 221) (by decide +kernel) rfl, cfX10, by decide +kernel, by decide⟩, gtb3 (i := 219) (by decide +kernel) rfl, gtb3 (i := 220) (by decide +kernel) rfl⟩
theorem fX10_sameOutputs : MFv mX10_sameOutputs 2 := ⟨⟨gtb4 (i := 5) (by decide +kernel) rfl, cfX10, by decide +kernel, by decide⟩, gtb4 (i := 3) (by decide +kernel) rfl, gtb4 (i := 4) (by decide +kernel) rfl⟩
theorem fX10_isIsomorphic : MFv mX10_isIsomorphic 2 := ⟨⟨gtb4 (i := 13) (by decide +kernel) rfl, cfX10, by decide +kernel, by decide⟩, gtb4 (i := 11) (by decide +kernel) rfl, gtb4 (i := 12) (by decide +kernel) rfl⟩
theorem fX10_subsumes : MFv mX10_subsumes 2 := ⟨⟨gtb4 (i := 26) (by decide +kernel) rfl, cfX10, by decide +kernel, by decide⟩, gtb4 (i := 24) (by decide +kernel) rfl, gtb4 (i := 25) (by decide +kernel) rfl⟩
theorem fX10_build : MFv mX10_build 3 := ⟨⟨gtb4 (i := 40) (by decide +kernel) rfl, cfX10, by decide +kernel, by decide⟩, gtb4 (i := 38) (by decide +kernel) rfl, gtb4 (i := 39) (by decide +kernel) rfl⟩
theorem fX10_isMerger : MFv mX10_isMerger 2 := ⟨⟨gtb4 (i := 64) (by decide +kernel) rfl, cfX10, by decide +kernel, by decide⟩, gtb4 (i := 62) (by decide +kernel) rfl, gtb4 (i := 63) (by decide +kernel) rfl⟩
theorem fX10_concatenate : MFv mX10_concatenate 3 := ⟨⟨gtb4 (i := 75) (by decide +kernel) rfl, cfX10, by decide +kernel, by decide⟩, gtb4 (i := 73) (by decide +kernel) rfl, gtb4 (i := 74) (by decide +kernel) rfl⟩
theorem fX10_beside : MFv mX10_beside 3 := ⟨⟨gtb4 (i := 83) (by decide +kernel) rfl, cfX10, by decide +kernel, by decide⟩, gtb4 (i := 81) (by decide +kernel) rfl, gtb4 (i := 82) (by decide +kernel) rfl⟩
theorem fX10_undo : MFv mX10_undo 0 := ⟨⟨gtb4 (i := 87) (by decide +kernel) rfl, cfX10, by decide +kernel, by decide⟩, gtb4 (i := 85) (by decide +kernel) rfl, gtb4 (i := 86) (by decide +kernel) rfl⟩
theorem fX10_place : MFv mX10_place 4 := ⟨⟨gtb4 (i := 95) (by decide +kernel) rfl, cfX10, by decide +kernel, by decide⟩, gtb4 (i := 93) (by decide +kernel) rfl, gtb4 (i := 94) (by decide +kernel) rfl⟩
theorem fX10_discard : MFv mX10_discard 1 := ⟨⟨gtb4 (i := 117) (by decide +kernel) rfl, cfX10, by decide +kernel, by decide⟩, gtb4 (i := 115) (by decide +kernel) rfl, gtb4 (i := 116) (by decide +kernel) rfl⟩
theorem fX10_castBlock : MFv mX10_castBlock 2 := ⟨⟨gtb4 (i := 125) (by decide +kernel) rfl, cfX10, by decide +kernel, by decide⟩, gtb4 (i := 123) (by decide +kernel) rfl, gtb4 (i := 124) (by decide +kernel) rfl⟩
theorem fX10_blockSize : MFv mX10_blockSize 2 := ⟨⟨gtb4 (i := 135) (by decide +kernel) rfl, cfX10, by decide +kernel, by decide⟩, gtb4 (i := 133) (by decide +kernel) rfl, gtb4 (i := 134) (by decide +kernel) rfl⟩
theorem fX10_applyBlock : MFv mX10_applyBlock 2 := ⟨⟨gtb4 (i := 157) (by decide +kernel) rfl, cfX10, by decide +kernel, by decide⟩, gtb4 (i := 155) (by decide +kernel) rfl, gtb4 (i := 156) (by decide +kernel) rfl⟩
theorem fX10_isNetwork : MFs mX10_isNetwork 1 := ⟨⟨gtb2 (i := 47) (by decide +kernel) rfl, cfX10, by decide +kernel, by decide⟩, gtb2 (i := 46) (by decide +kernel) rfl⟩
theorem fX10_isShelf : MFs mX10_isShelf 1 := ⟨⟨gtb4 (i := 98) (by decide +kernel) rfl, cfX10, by decide +kernel, by decide⟩, gtb4 (i := 97) (by decide +kernel) rfl⟩
theorem fX10_isWireCount : MFs mX10_isWireCount 1 := ⟨⟨gtb2 (i := 50) (by decide +kernel) rfl, cfX10, by decide +kernel, by decide⟩, gtb2 (i := 49) (by decide +kernel) rfl⟩
theorem fX10_isPosition : MFv mX10_isPosition 2 := ⟨⟨gtb2 (i := 88) (by decide +kernel) rfl, cfX10, by decide +kernel, by decide⟩, gtb2 (i := 87) (by decide +kernel) rfl, gtb0 (i := 1) (by decide +kernel) rfl⟩
theorem fX10_oneIf : MFs mX10_oneIf 1 := ⟨⟨gtb2 (i := 232) (by decide +kernel) rfl, cfX10, by decide +kernel, by decide⟩, gtb2 (i := 231) (by decide +kernel) rfl⟩
theorem fX10_isSorted : MFs mX10_isSorted 2 := ⟨⟨gtb3 (i := 95) (by decide +kernel) rfl, cfX10, by decide +kernel, by decide⟩, gtb3 (i := 94) (by decide +kernel) rfl⟩
theorem fX10_exchanged : MFs mX10_exchanged 3 := ⟨⟨gtb3 (i := 41) (by decide +kernel) rfl, cfX10, by decide +kernel, by decide⟩, gtb3 (i := 40) (by decide +kernel) rfl⟩
theorem fX10_remember : MFv mX10_remember 1 := ⟨⟨gtb2 (i := 54) (by decide +kernel) rfl, cfX10, by decide +kernel, by decide⟩, gtb2 (i := 53) (by decide +kernel) rfl, gtb0 (i := 0) (by decide +kernel) rfl⟩
theorem fX10_pushInto : MFv mX10_pushInto 4 := ⟨⟨gtb2 (i := 105) (by decide +kernel) rfl, cfX10, by decide +kernel, by decide⟩, gtb2 (i := 104) (by decide +kernel) rfl, gtb0 (i := 2) (by decide +kernel) rfl⟩
theorem fX10_replaceBySpare : MFv mX10_replaceBySpare 1 := ⟨⟨gtb2 (i := 193) (by decide +kernel) rfl, cfX10, by decide +kernel, by decide⟩, gtb2 (i := 192) (by decide +kernel) rfl, gtb0 (i := 4) (by decide +kernel) rfl⟩
theorem fX10_gatherOutputs : MFv mX10_gatherOutputs 2 := ⟨⟨gtb3 (i := 0) (by decide +kernel) rfl, cfX10, by decide +kernel, by decide⟩, gtb2 (i := 239) (by decide +kernel) rfl, gtb0 (i := 5) (by decide +kernel) rfl⟩
theorem fX10_sorts : MFv mX10_sorts 2 := ⟨⟨gtb3 (i := 49) (by decide +kernel) rfl, cfX10, by decide +kernel, by decide⟩, gtb3 (i := 48) (by decide +kernel) rfl, gtb0 (i := 6) (by decide +kernel) rfl⟩
theorem fX10_lastNeedless : MFv mX10_lastNeedless 1 := ⟨⟨gtb3 (i := 165) (by decide +kernel) rfl, cfX10, by decide +kernel, by decide⟩, gtb3 (i := 164) (by decide +kernel) rfl, gtb0 (i := 10) (by decide +kernel) rfl⟩
theorem fX10_pushInsertion : MFs mX10_pushInsertion 1 := ⟨⟨gtb4 (i := 43) (by decide +kernel) rfl, cfX10, by decide +kernel, by decide⟩, gtb4 (i := 42) (by decide +kernel) rfl⟩
theorem fX10_pushBubbles : MFs mX10_pushBubbles 1 := ⟨⟨gtb4 (i := 46) (by decide +kernel) rfl, cfX10, by decide +kernel, by decide⟩, gtb4 (i := 45) (by decide +kernel) rfl⟩
theorem fX10_pushTransposition : MFs mX10_pushTransposition 1 := ⟨⟨gtb4 (i := 49) (by decide +kernel) rfl, cfX10, by decide +kernel, by decide⟩, gtb4 (i := 48) (by decide +kernel) rfl⟩
theorem fX10_pushMergeExchange : MFs mX10_pushMergeExchange 1 := ⟨⟨gtb4 (i := 57) (by decide +kernel) rfl, cfX10, by decide +kernel, by decide⟩, gtb4 (i := 56) (by decide +kernel) rfl⟩
theorem fX10_pushApart : MFs mX10_pushApart 4 := ⟨⟨gtb4 (i := 60) (by decide +kernel) rfl, cfX10, by decide +kernel, by decide⟩, gtb4 (i := 59) (by decide +kernel) rfl⟩
theorem fX10_merges : MFs mX10_merges 2 := ⟨⟨gtb4 (i := 67) (by decide +kernel) rfl, cfX10, by decide +kernel, by decide⟩, gtb4 (i := 66) (by decide +kernel) rfl⟩
theorem fX10_sortedBits : MFs mX10_sortedBits 2 := ⟨⟨gtb4 (i := 70) (by decide +kernel) rfl, cfX10, by decide +kernel, by decide⟩, gtb4 (i := 69) (by decide +kernel) rfl⟩
theorem fX10_countBlocks : MFv mX10_countBlocks 0 := ⟨⟨gtb4 (i := 109) (by decide +kernel) rfl, cfX10, by decide +kernel, by decide⟩, gtb4 (i := 108) (by decide +kernel) rfl, gtb0 (i := 16) (by decide +kernel) rfl⟩
theorem fX10_unfold : MFv mX10_unfold 2 := ⟨⟨gtb4 (i := 139) (by decide +kernel) rfl, cfX10, by decide +kernel, by decide⟩, gtb4 (i := 138) (by decide +kernel) rfl, gtb0 (i := 17) (by decide +kernel) rfl⟩
theorem fX11_init : MFc mX11_init 0 := ⟨gtb4 (i := 162) (by decide +kernel) rfl, cfX11, by decide +kernel, by decide⟩
theorem fX11_isIn : MFs mX11_isIn 3 := ⟨⟨gtb5 (i := 40) (by decide +kernel) rfl, cfX11, by decide +kernel, by decide⟩, gtb5 (i := 39) (by decide +kernel) rfl⟩
theorem fX11_isNet : MFs mX11_isNet 1 := ⟨⟨gtb5 (i := 37) (by decide +kernel) rfl, cfX11, by decide +kernel, by decide⟩, gtb5 (i := 36) (by decide +kernel) rfl⟩
theorem fX11_isWire : MFv mX11_isWire 2 := ⟨⟨gtb5 (i := 72) (by decide +kernel) rfl, cfX11, by decide +kernel, by decide⟩, gtb5 (i := 71) (by decide +kernel) rfl, gtb0 (i := 21) (by decide +kernel) rfl⟩
theorem fX11_remembers : MFv mX11_remembers 0 := ⟨⟨gtb5 (i := 44) (by decide +kernel) rfl, cfX11, by decide +kernel, by decide⟩, gtb5 (i := 43) (by decide +kernel) rfl, gtb0 (i := 19) (by decide +kernel) rfl⟩
theorem fX11_undo : MFv mX11_undo 0 := ⟨⟨gtb5 (i := 30) (by decide +kernel) rfl, cfX11, by decide +kernel, by decide⟩, gtb5 (i := 28) (by decide +kernel) rfl, gtb5 (i := 29) (by decide +kernel) rfl⟩
theorem fX11_reset : MFv mX11_reset 2 := ⟨⟨gtb5 (i := 34) (by decide +kernel) rfl, cfX11, by decide +kernel, by decide⟩, gtb5 (i := 32) (by decide +kernel) rfl, gtb5 (i := 33) (by decide +kernel) rfl⟩
theorem fX11_wires : MFv mX11_wires 1 := ⟨⟨gtb5 (i := 48) (by decide +kernel) rfl, cfX11, by decide +kernel, by decide⟩, gtb5 (i := 46) (by decide +kernel) rfl, gtb5 (i := 47) (by decide +kernel) rfl⟩
theorem fX11_size : MFv mX11_size 1 := ⟨⟨gtb5 (i := 52) (by decide +kernel) rfl, cfX11, by decide +kernel, by decide⟩, gtb5 (i := 50) (by decide +kernel) rfl, gtb5 (i := 51) (by decide +kernel) rfl⟩
theorem fX11_isPosition : MFv mX11_isPosition 2 := ⟨⟨gtb5 (i := 60) (by decide +kernel) rfl, cfX11, by decide +kernel, by decide⟩, gtb5 (i := 59) (by decide +kernel) rfl, gtb0 (i := 20) (by decide +kernel) rfl⟩
theorem fX11_comparator : MFv mX11_comparator 2 := ⟨⟨gtb5 (i := 56) (by decide +kernel) rfl, cfX11, by decide +kernel, by decide⟩, gtb5 (i := 54) (by decide +kernel) rfl, gtb5 (i := 55) (by decide +kernel) rfl⟩
theorem fX11_puts : MFv mX11_puts 4 := ⟨⟨gtb5 (i := 76) (by decide +kernel) rfl, cfX11, by decide +kernel, by decide⟩, gtb5 (i := 75) (by decide +kernel) rfl, gtb0 (i := 22) (by decide +kernel) rfl⟩
theorem fX11_takes : MFv mX11_takes 2 := ⟨⟨gtb5 (i := 86) (by decide +kernel) rfl, cfX11, by decide +kernel, by decide⟩, gtb5 (i := 85) (by decide +kernel) rfl, gtb0 (i := 23) (by decide +kernel) rfl⟩
theorem fX11_add : MFv mX11_add 3 := ⟨⟨gtb5 (i := 64) (by decide +kernel) rfl, cfX11, by decide +kernel, by decide⟩, gtb5 (i := 62) (by decide +kernel) rfl, gtb5 (i := 63) (by decide +kernel) rfl⟩
theorem fX11_insert : MFv mX11_insert 4 := ⟨⟨gtb5 (i := 68) (by decide +kernel) rfl, cfX11, by decide +kernel, by decide⟩, gtb5 (i := 66) (by decide +kernel) rfl, gtb5 (i := 67) (by decide +kernel) rfl⟩
theorem fX11_remove : MFv mX11_remove 2 := ⟨⟨gtb5 (i := 81) (by decide +kernel) rfl, cfX11, by decide +kernel, by decide⟩, gtb5 (i := 79) (by decide +kernel) rfl, gtb5 (i := 80) (by decide +kernel) rfl⟩
theorem fX11_findsLayers : MFv mX11_findsLayers 1 := ⟨⟨gtb5 (i := 94) (by decide +kernel) rfl, cfX11, by decide +kernel, by decide⟩, gtb5 (i := 93) (by decide +kernel) rfl, gtb0 (i := 24) (by decide +kernel) rfl⟩
theorem fX11_layer : MFv mX11_layer 2 := ⟨⟨gtb5 (i := 90) (by decide +kernel) rfl, cfX11, by decide +kernel, by decide⟩, gtb5 (i := 88) (by decide +kernel) rfl, gtb5 (i := 89) (by decide +kernel) rfl⟩
theorem fX11_depth : MFv mX11_depth 1 := ⟨⟨gtb5 (i := 98) (by decide +kernel) rfl, cfX11, by decide +kernel, by decide⟩, gtb5 (i := 96) (by decide +kernel) rfl, gtb5 (i := 97) (by decide +kernel) rfl⟩
theorem fX11_append : MFv mX11_append 1 := ⟨⟨gtb5 (i := 102) (by decide +kernel) rfl, cfX11, by decide +kernel, by decide⟩, gtb5 (i := 100) (by decide +kernel) rfl, gtb5 (i := 101) (by decide +kernel) rfl⟩
theorem fX11_clearText : MFv mX11_clearText 0 := ⟨⟨gtb5 (i := 106) (by decide +kernel) rfl, cfX11, by decide +kernel, by decide⟩, gtb5 (i := 104) (by decide +kernel) rfl, gtb5 (i := 105) (by decide +kernel) rfl⟩
theorem fX11_here : MFv mX11_here 0 := ⟨⟨gtb5 (i := 118) (by decide +kernel) rfl, cfX11, by decide +kernel, by decide⟩, gtb5 (i := 117) (by decide +kernel) rfl, gtb0 (i := 26) (by decide +kernel) rfl⟩
theorem fX11_wire : MFv mX11_wire 1 := ⟨⟨gtb5 (i := 114) (by decide +kernel) rfl, cfX11, by decide +kernel, by decide⟩, gtb5 (i := 113) (by decide +kernel) rfl, gtb0 (i := 25) (by decide +kernel) rfl⟩
theorem fX11_sign : MFv mX11_sign 1 := ⟨⟨gtb5 (i := 122) (by decide +kernel) rfl, cfX11, by decide +kernel, by decide⟩, gtb5 (i := 121) (by decide +kernel) rfl, gtb0 (i := 27) (by decide +kernel) rfl⟩
theorem fX11_parse : MFv mX11_parse 1 := ⟨⟨gtb5 (i := 110) (by decide +kernel) rfl, cfX11, by decide +kernel, by decide⟩, gtb5 (i := 108) (by decide +kernel) rfl, gtb5 (i := 109) (by decide +kernel) rfl⟩
theorem fX11_setKey : MFv mX11_setKey 2 := ⟨⟨gtb5 (i := 126) (by decide +kernel) rfl, cfX11, by decide +kernel, by decide⟩, gtb5 (i := 124) (by decide +kernel) rfl, gtb5 (i := 125) (by decide +kernel) rfl⟩
theorem fX11_run : MFv mX11_run 1 := ⟨⟨gtb5 (i := 130) (by decide +kernel) rfl, cfX11, by decide +kernel, by decide⟩, gtb5 (i := 128) (by decide +kernel) rfl, gtb5 (i := 129) (by decide +kernel) rfl⟩
theorem fX11_result : MFv mX11_result 1 := ⟨⟨gtb5 (i := 134) (by decide +kernel) rfl, cfX11, by decide +kernel, by decide⟩, gtb5 (i := 132) (by decide +kernel) rfl, gtb5 (i := 133) (by decide +kernel) rfl⟩
theorem fX11_origin : MFv mX11_origin 1 := ⟨⟨gtb5 (i := 138) (by decide +kernel) rfl, cfX11, by decide +kernel, by decide⟩, gtb5 (i := 136) (by decide +kernel) rfl, gtb5 (i := 137) (by decide +kernel) rfl⟩
theorem fX11_isStable : MFv mX11_isStable 0 := ⟨⟨gtb5 (i := 142) (by decide +kernel) rfl, cfX11, by decide +kernel, by decide⟩, gtb5 (i := 140) (by decide +kernel) rfl, gtb5 (i := 141) (by decide +kernel) rfl⟩
theorem fX11_makes : MFv mX11_makes 3 := ⟨⟨gtb5 (i := 154) (by decide +kernel) rfl, cfX11, by decide +kernel, by decide⟩, gtb5 (i := 153) (by decide +kernel) rfl, gtb0 (i := 29) (by decide +kernel) rfl⟩
theorem fX11_isSorted : MFs mX11_isSorted 2 := ⟨⟨gtb5 (i := 169) (by decide +kernel) rfl, cfX11, by decide +kernel, by decide⟩, gtb5 (i := 168) (by decide +kernel) rfl⟩
theorem fX11_isSorter : MFv mX11_isSorter 2 := ⟨⟨gtb5 (i := 166) (by decide +kernel) rfl, cfX11, by decide +kernel, by decide⟩, gtb5 (i := 165) (by decide +kernel) rfl, gtb0 (i := 30) (by decide +kernel) rfl⟩
theorem fX11_finds : MFv mX11_finds 2 := ⟨⟨gtb5 (i := 150) (by decide +kernel) rfl, cfX11, by decide +kernel, by decide⟩, gtb5 (i := 149) (by decide +kernel) rfl, gtb0 (i := 28) (by decide +kernel) rfl⟩
theorem fX11_outputCount : MFv mX11_outputCount 1 := ⟨⟨gtb5 (i := 146) (by decide +kernel) rfl, cfX11, by decide +kernel, by decide⟩, gtb5 (i := 144) (by decide +kernel) rfl, gtb5 (i := 145) (by decide +kernel) rfl⟩
theorem fX11_outputOf : MFv mX11_outputOf 2 := ⟨⟨gtb5 (i := 158) (by decide +kernel) rfl, cfX11, by decide +kernel, by decide⟩, gtb5 (i := 156) (by decide +kernel) rfl, gtb5 (i := 157) (by decide +kernel) rfl⟩
theorem fX11_isSorter_ : MFv mX11_isSorter_ 1 := ⟨⟨gtb5 (i := 162) (by decide +kernel) rfl, cfX11, by decide +kernel, by decide⟩, gtb5 (i := 160) (by decide +kernel) rfl, gtb5 (i := 161) (by decide +kernel) rfl⟩
theorem fX11_firstFailure : MFv mX11_firstFailure 1 := ⟨⟨gtb5 (i := 173) (by decide +kernel) rfl, cfX11, by decide +kernel, by decide⟩, gtb5 (i := 171) (by decide +kernel) rfl, gtb5 (i := 172) (by decide +kernel) rfl⟩
theorem fX11_ones : MFs mX11_ones 1 := ⟨⟨gtb5 (i := 180) (by decide +kernel) rfl, cfX11, by decide +kernel, by decide⟩, gtb5 (i := 179) (by decide +kernel) rfl⟩
theorem fX11_isSelector : MFv mX11_isSelector 2 := ⟨⟨gtb5 (i := 177) (by decide +kernel) rfl, cfX11, by decide +kernel, by decide⟩, gtb5 (i := 175) (by decide +kernel) rfl, gtb5 (i := 176) (by decide +kernel) rfl⟩
theorem fX11_isNext : MFv mX11_isNext 1 := ⟨⟨gtb5 (i := 200) (by decide +kernel) rfl, cfX11, by decide +kernel, by decide⟩, gtb5 (i := 199) (by decide +kernel) rfl, gtb0 (i := 34) (by decide +kernel) rfl⟩
theorem fX11_changes : MFv mX11_changes 2 := ⟨⟨gtb5 (i := 204) (by decide +kernel) rfl, cfX11, by decide +kernel, by decide⟩, gtb5 (i := 203) (by decide +kernel) rfl, gtb0 (i := 35) (by decide +kernel) rfl⟩
theorem fX11_begins : MFv mX11_begins 0 := ⟨⟨gtb5 (i := 192) (by decide +kernel) rfl, cfX11, by decide +kernel, by decide⟩, gtb5 (i := 191) (by decide +kernel) rfl, gtb0 (i := 32) (by decide +kernel) rfl⟩
theorem fX11_carries : MFv mX11_carries 1 := ⟨⟨gtb5 (i := 196) (by decide +kernel) rfl, cfX11, by decide +kernel, by decide⟩, gtb5 (i := 195) (by decide +kernel) rfl, gtb0 (i := 33) (by decide +kernel) rfl⟩
theorem fX11_looks : MFv mX11_looks 1 := ⟨⟨gtb5 (i := 188) (by decide +kernel) rfl, cfX11, by decide +kernel, by decide⟩, gtb5 (i := 187) (by decide +kernel) rfl, gtb0 (i := 31) (by decide +kernel) rfl⟩
theorem fX11_countSorted : MFv mX11_countSorted 1 := ⟨⟨gtb5 (i := 184) (by decide +kernel) rfl, cfX11, by decide +kernel, by decide⟩, gtb5 (i := 182) (by decide +kernel) rfl, gtb5 (i := 183) (by decide +kernel) rfl⟩
theorem fX11_firstUnsorted : MFv mX11_firstUnsorted 1 := ⟨⟨gtb5 (i := 208) (by decide +kernel) rfl, cfX11, by decide +kernel, by decide⟩, gtb5 (i := 206) (by decide +kernel) rfl, gtb5 (i := 207) (by decide +kernel) rfl⟩
theorem fX11_totalExchanges : MFv mX11_totalExchanges 1 := ⟨⟨gtb5 (i := 212) (by decide +kernel) rfl, cfX11, by decide +kernel, by decide⟩, gtb5 (i := 210) (by decide +kernel) rfl, gtb5 (i := 211) (by decide +kernel) rfl⟩
theorem fX11_mostExchanges : MFv mX11_mostExchanges 1 := ⟨⟨gtb5 (i := 217) (by decide +kernel) rfl, cfX11, by decide +kernel, by decide⟩, gtb5 (i := 215) (by decide +kernel) rfl, gtb5 (i := 216) (by decide +kernel) rfl⟩
theorem fX11_isIdle : MFv mX11_isIdle 2 := ⟨⟨gtb5 (i := 225) (by decide +kernel) rfl, cfX11, by decide +kernel, by decide⟩, gtb5 (i := 224) (by decide +kernel) rfl, gtb0 (i := 36) (by decide +kernel) rfl⟩
theorem fX11_isRedundant : MFv mX11_isRedundant 2 := ⟨⟨gtb5 (i := 221) (by decide +kernel) rfl, cfX11, by decide +kernel, by decide⟩, gtb5 (i := 219) (by decide +kernel) rfl, gtb5 (i := 220) (by decide +kernel) rfl⟩
theorem fX11_prune : MFv mX11_prune 1 := ⟨⟨gtb5 (i := 229) (by decide +kernel) rfl, cfX11, by decide +kernel, by decide⟩, gtb5 (i := 227) (by decide +kernel) rfl, gtb5 (i := 228) (by decide +kernel) rfl⟩
theorem fX11_reduce : MFv mX11_reduce 1 := ⟨⟨gtb5 (i := 233) (by decide +kernel) rfl, cfX11, by decide +kernel, by decide⟩, gtb5 (i := 231) (by decide +kernel) rfl, gtb5 (i := 232) (by decide +kernel) rfl⟩
theorem fX11_standardize : MFv mX11_standardize 1 := ⟨⟨gtb5 (i := 237) (by decide +kernel) rfl, cfX11, by decide +kernel, by decide⟩, gtb5 (i := 235) (by decide +kernel) rfl, gtb5 (i := 236) (by decide +kernel) rfl⟩
theorem fX11_mirror : MFv mX11_mirror 1 := ⟨⟨gtb6 (i := 1) (by decide +kernel) rfl, cfX11, by decide +kernel, by decide⟩, gtb5 (i := 239) (by decide +kernel) rfl, gtb6 (i := 0) (by decide +kernel) rfl⟩
theorem fX11_counts : MFv mX11_counts 3 := ⟨⟨gtb6 (i := 13) (by decide +kernel) rfl, cfX11, by decide +kernel, by decide⟩, gtb6 (i := 12) (by decide +kernel) rfl, gtb0 (i := 38) (by decide +kernel) rfl⟩
theorem fX11_lists : MFv mX11_lists 1 := ⟨⟨gtb6 (i := 9) (by decide +kernel) rfl, cfX11, by decide +kernel, by decide⟩, gtb6 (i := 8) (by decide +kernel) rfl, gtb0 (i := 37) (by decide +kernel) rfl⟩
theorem fX11_candidate : MFv mX11_candidate 3 := ⟨⟨gtb6 (i := 5) (by decide +kernel) rfl, cfX11, by decide +kernel, by decide⟩, gtb6 (i := 3) (by decide +kernel) rfl, gtb6 (i := 4) (by decide +kernel) rfl⟩
theorem fX11_grow : MFv mX11_grow 1 := ⟨⟨gtb6 (i := 17) (by decide +kernel) rfl, cfX11, by decide +kernel, by decide⟩, gtb6 (i := 15) (by decide +kernel) rfl, gtb6 (i := 16) (by decide +kernel) rfl⟩
theorem fX11_areSorted : MFv mX11_areSorted 2 := ⟨⟨gtb6 (i := 25) (by decide +kernel) rfl, cfX11, by decide +kernel, by decide⟩, gtb6 (i := 24) (by decide +kernel) rfl, gtb0 (i := 39) (by decide +kernel) rfl⟩
theorem fX11_isOneEnough : MFv mX11_isOneEnough 1 := ⟨⟨gtb6 (i := 29) (by decide +kernel) rfl, cfX11, by decide +kernel, by decide⟩, gtb6 (i := 28) (by decide +kernel) rfl, gtb0 (i := 40) (by decide +kernel) rfl⟩
theorem fX11_missing : MFv mX11_missing 2 := ⟨⟨gtb6 (i := 21) (by decide +kernel) rfl, cfX11, by decide +kernel, by decide⟩, gtb6 (i := 19) (by decide +kernel) rfl, gtb6 (i := 20) (by decide +kernel) rfl⟩
theorem fX11_unlike : MFv mX11_unlike 2 := ⟨⟨gtb6 (i := 37) (by decide +kernel) rfl, cfX11, by decide +kernel, by decide⟩, gtb6 (i := 36) (by decide +kernel) rfl, gtb0 (i := 41) (by decide +kernel) rfl⟩
theorem fX11_sameOutputs : MFv mX11_sameOutputs 2 := ⟨⟨gtb6 (i := 33) (by decide +kernel) rfl, cfX11, by decide +kernel, by decide⟩, gtb6 (i := 31) (by decide +kernel) rfl, gtb6 (i := 32) (by decide +kernel) rfl⟩
theorem fX11_isIsomorphic : MFv mX11_isIsomorphic 2 := ⟨⟨gtb6 (i := 41) (by decide +kernel) rfl, cfX11, by decide +kernel, by decide⟩, gtb6 (i := 39) (by decide +kernel) rfl, gtb6 (i := 40) (by decide +kernel) rfl⟩
theorem fX11_subsumes : MFv mX11_subsumes 2 := ⟨⟨gtb6 (i := 45) (by decide +kernel) rfl, cfX11, by decide +kernel, by decide⟩, gtb6 (i := 43) (by decide +kernel) rfl, gtb6 (i := 44) (by decide +kernel) rfl⟩
theorem fX11_appends : MFv mX11_appends 3 := ⟨⟨gtb6 (i := 57) (by decide +kernel) rfl, cfX11, by decide +kernel, by decide⟩, gtb6 (i := 56) (by decide +kernel) rfl, gtb0 (i := 43) (by decide +kernel) rfl⟩
theorem fX11_build : MFv mX11_build 3 := ⟨⟨gtb6 (i := 49) (by decide +kernel) rfl, cfX11, by decide +kernel, by decide⟩, gtb6 (i := 47) (by decide +kernel) rfl, gtb6 (i := 48) (by decide +kernel) rfl⟩
theorem fX11_merges : MFv mX11_merges 1 := ⟨⟨gtb6 (i := 53) (by decide +kernel) rfl, cfX11, by decide +kernel, by decide⟩, gtb6 (i := 52) (by decide +kernel) rfl, gtb0 (i := 42) (by decide +kernel) rfl⟩
theorem fX11_isMerger : MFv mX11_isMerger 2 := ⟨⟨gtb6 (i := 61) (by decide +kernel) rfl, cfX11, by decide +kernel, by decide⟩, gtb6 (i := 59) (by decide +kernel) rfl, gtb6 (i := 60) (by decide +kernel) rfl⟩
theorem fX11_collects : MFv mX11_collects 3 := ⟨⟨gtb6 (i := 69) (by decide +kernel) rfl, cfX11, by decide +kernel, by decide⟩, gtb6 (i := 68) (by decide +kernel) rfl, gtb0 (i := 44) (by decide +kernel) rfl⟩
theorem fX11_becomes : MFv mX11_becomes 3 := ⟨⟨gtb6 (i := 73) (by decide +kernel) rfl, cfX11, by decide +kernel, by decide⟩, gtb6 (i := 72) (by decide +kernel) rfl, gtb0 (i := 45) (by decide +kernel) rfl⟩
theorem fX11_concatenate : MFv mX11_concatenate 3 := ⟨⟨gtb6 (i := 65) (by decide +kernel) rfl, cfX11, by decide +kernel, by decide⟩, gtb6 (i := 63) (by decide +kernel) rfl, gtb6 (i := 64) (by decide +kernel) rfl⟩
theorem fX11_beside : MFv mX11_beside 3 := ⟨⟨gtb6 (i := 77) (by decide +kernel) rfl, cfX11, by decide +kernel, by decide⟩, gtb6 (i := 75) (by decide +kernel) rfl, gtb6 (i := 76) (by decide +kernel) rfl⟩
theorem fX11_isShelf : MFs mX11_isShelf 1 := ⟨⟨gtb6 (i := 84) (by decide +kernel) rfl, cfX11, by decide +kernel, by decide⟩, gtb6 (i := 83) (by decide +kernel) rfl⟩
theorem fX11_above : MFs mX11_above 1 := ⟨⟨gtb6 (i := 95) (by decide +kernel) rfl, cfX11, by decide +kernel, by decide⟩, gtb6 (i := 94) (by decide +kernel) rfl⟩
theorem fX11_place : MFv mX11_place 4 := ⟨⟨gtb6 (i := 81) (by decide +kernel) rfl, cfX11, by decide +kernel, by decide⟩, gtb6 (i := 79) (by decide +kernel) rfl, gtb6 (i := 80) (by decide +kernel) rfl⟩
theorem fX11_discard : MFv mX11_discard 1 := ⟨⟨gtb6 (i := 88) (by decide +kernel) rfl, cfX11, by decide +kernel, by decide⟩, gtb6 (i := 86) (by decide +kernel) rfl, gtb6 (i := 87) (by decide +kernel) rfl⟩
theorem fX11_castBlock : MFv mX11_castBlock 2 := ⟨⟨gtb6 (i := 92) (by decide +kernel) rfl, cfX11, by decide +kernel, by decide⟩, gtb6 (i := 90) (by decide +kernel) rfl, gtb6 (i := 91) (by decide +kernel) rfl⟩
theorem fX11_makes_ : MFv mX11_makes_ 2 := ⟨⟨gtb6 (i := 107) (by decide +kernel) rfl, cfX11, by decide +kernel, by decide⟩, gtb6 (i := 106) (by decide +kernel) rfl, gtb0 (i := 47) (by decide +kernel) rfl⟩
theorem fX11_makesLayer : MFv mX11_makesLayer 2 := ⟨⟨gtb6 (i := 111) (by decide +kernel) rfl, cfX11, by decide +kernel, by decide⟩, gtb6 (i := 110) (by decide +kernel) rfl, gtb0 (i := 48) (by decide +kernel) rfl⟩
theorem fX11_isMade : MFv mX11_isMade 2 := ⟨⟨gtb6 (i := 103) (by decide +kernel) rfl, cfX11, by decide +kernel, by decide⟩, gtb6 (i := 102) (by decide +kernel) rfl, gtb0 (i := 46) (by decide +kernel) rfl⟩
theorem fX11_blockSize : MFv mX11_blockSize 2 := ⟨⟨gtb6 (i := 99) (by decide +kernel) rfl, cfX11, by decide +kernel, by decide⟩, gtb6 (i := 97) (by decide +kernel) rfl, gtb6 (i := 98) (by decide +kernel) rfl⟩
theorem fX11_applyBlock : MFv mX11_applyBlock 2 := ⟨⟨gtb6 (i := 115) (by decide +kernel) rfl, cfX11, by decide +kernel, by decide⟩, gtb6 (i := 113) (by decide +kernel) rfl, gtb6 (i := 114) (by decide +kernel) rfl⟩
theorem fJ6_bitCount_0f7a4 : MFs mJ6_bitCount_0f7a4 1 := ⟨⟨gtb3 (i := 79) (by decide +kernel) rfl, cfJ6, by decide +kernel, by decide⟩, gtb3 (i := 78) (by decide +kernel) rfl⟩
theorem fJ13_bitCount_95d88 : MFs mJ13_bitCount_95d88 1 := ⟨⟨gtb3 (i := 60) (by decide +kernel) rfl, cfJ13, by decide +kernel, by decide⟩, gtb3 (i := 59) (by decide +kernel) rfl⟩
theorem fJ7_fill_53178 : MFs mJ7_fill_53178 2 := ⟨⟨gtb2 (i := 145) (by decide +kernel) rfl, cfJ7, by decide +kernel, by decide⟩, gtb2 (i := 144) (by decide +kernel) rfl⟩
theorem lL_9 : Cond.methodLink RL 9 yX10_init ∈ gtb := gtb1 (i := 20) (by decide +kernel) rfl
theorem gX3_9 : Cond.fieldLink RX3 9 "ComparatorNetworks$Network" "wireCount" "I" ∈ gtb := gtb1 (i := 33) (by decide +kernel) rfl
theorem gX9_26 : Cond.fieldLink RX9 26 "ComparatorNetworks$Network" "wireCount" "I" ∈ gtb := gtb1 (i := 34) (by decide +kernel) rfl
theorem gX10_108 : Cond.fieldLink RX10 108 "ComparatorNetworks$Network" "wireCount" "I" ∈ gtb := gtb1 (i := 35) (by decide +kernel) rfl
theorem gX7_31 : Cond.fieldLink RX7 31 "ComparatorNetworks$Network" "wireCount" "I" ∈ gtb := gtb1 (i := 36) (by decide +kernel) rfl
theorem gX0_47 : Cond.fieldLink RX0 47 "ComparatorNetworks$Network" "wireCount" "I" ∈ gtb := gtb1 (i := 37) (by decide +kernel) rfl
theorem gX6_31 : Cond.fieldLink RX6 31 "ComparatorNetworks$Network" "wireCount" "I" ∈ gtb := gtb1 (i := 38) (by decide +kernel) rfl
theorem gX3_15 : Cond.fieldLink RX3 15 "ComparatorNetworks$Network" "count" "I" ∈ gtb := gtb1 (i := 39) (by decide +kernel) rfl
theorem gX5_18 : Cond.fieldLink RX5 18 "ComparatorNetworks$Network" "count" "I" ∈ gtb := gtb1 (i := 40) (by decide +kernel) rfl
theorem gX10_101 : Cond.fieldLink RX10 101 "ComparatorNetworks$Network" "count" "I" ∈ gtb := gtb1 (i := 41) (by decide +kernel) rfl
theorem gX9_29 : Cond.fieldLink RX9 29 "ComparatorNetworks$Network" "count" "I" ∈ gtb := gtb1 (i := 42) (by decide +kernel) rfl
theorem gX7_38 : Cond.fieldLink RX7 38 "ComparatorNetworks$Network" "count" "I" ∈ gtb := gtb1 (i := 43) (by decide +kernel) rfl
theorem gX3_18 : Cond.fieldLink RX3 18 "ComparatorNetworks$Network" "first" "[I" ∈ gtb := gtb1 (i := 44) (by decide +kernel) rfl
theorem gX5_30 : Cond.fieldLink RX5 30 "ComparatorNetworks$Network" "first" "[I" ∈ gtb := gtb1 (i := 45) (by decide +kernel) rfl
theorem gX9_32 : Cond.fieldLink RX9 32 "ComparatorNetworks$Network" "first" "[I" ∈ gtb := gtb1 (i := 46) (by decide +kernel) rfl
theorem gX7_41 : Cond.fieldLink RX7 41 "ComparatorNetworks$Network" "first" "[I" ∈ gtb := gtb1 (i := 47) (by decide +kernel) rfl
theorem gX10_215 : Cond.fieldLink RX10 215 "ComparatorNetworks$Network" "first" "[I" ∈ gtb := gtb1 (i := 48) (by decide +kernel) rfl
theorem gX3_22 : Cond.fieldLink RX3 22 "ComparatorNetworks$Network" "second" "[I" ∈ gtb := gtb1 (i := 49) (by decide +kernel) rfl
theorem gX5_37 : Cond.fieldLink RX5 37 "ComparatorNetworks$Network" "second" "[I" ∈ gtb := gtb1 (i := 50) (by decide +kernel) rfl
theorem gX9_35 : Cond.fieldLink RX9 35 "ComparatorNetworks$Network" "second" "[I" ∈ gtb := gtb1 (i := 51) (by decide +kernel) rfl
theorem gX7_45 : Cond.fieldLink RX7 45 "ComparatorNetworks$Network" "second" "[I" ∈ gtb := gtb1 (i := 52) (by decide +kernel) rfl
theorem gX10_218 : Cond.fieldLink RX10 218 "ComparatorNetworks$Network" "second" "[I" ∈ gtb := gtb1 (i := 53) (by decide +kernel) rfl
theorem gX3_25 : Cond.fieldLink RX3 25 "ComparatorNetworks$Network" "layersPassed" "[I" ∈ gtb := gtb1 (i := 54) (by decide +kernel) rfl
theorem lX10_22 : Cond.methodLink RX10 22 yX2_init ∈ gtb := gtb1 (i := 69) (by decide +kernel) rfl
theorem gX2_11 : Cond.fieldLink RX2 11 "ComparatorNetworks$History" "before" "[LComparatorNetworks$Network;" ∈ gtb := gtb1 (i := 75) (by decide +kernel) rfl
theorem gX2_17 : Cond.fieldLink RX2 17 "ComparatorNetworks$History" "changed" "[I" ∈ gtb := gtb1 (i := 76) (by decide +kernel) rfl
theorem gX2_21 : Cond.fieldLink RX2 21 "ComparatorNetworks$History" "next" "I" ∈ gtb := gtb1 (i := 77) (by decide +kernel) rfl
theorem gX2_25 : Cond.fieldLink RX2 25 "ComparatorNetworks$History" "kept" "I" ∈ gtb := gtb1 (i := 78) (by decide +kernel) rfl
theorem gX8_9 : Cond.fieldLink RX8 9 "ComparatorNetworks$Text" "codes" "[I" ∈ gtb := gtb1 (i := 94) (by decide +kernel) rfl
theorem gX8_15 : Cond.fieldLink RX8 15 "ComparatorNetworks$Text" "length" "I" ∈ gtb := gtb1 (i := 95) (by decide +kernel) rfl
theorem gX9_9 : Cond.fieldLink RX9 9 "ComparatorNetworks$Trial" "happened" "Z" ∈ gtb := gtb1 (i := 107) (by decide +kernel) rfl
theorem gX10_150 : Cond.fieldLink RX10 150 "ComparatorNetworks$Trial" "happened" "Z" ∈ gtb := gtb1 (i := 108) (by decide +kernel) rfl
theorem gX9_15 : Cond.fieldLink RX9 15 "ComparatorNetworks$Trial" "wireCount" "I" ∈ gtb := gtb1 (i := 109) (by decide +kernel) rfl
theorem gX9_19 : Cond.fieldLink RX9 19 "ComparatorNetworks$Trial" "values" "[I" ∈ gtb := gtb1 (i := 110) (by decide +kernel) rfl
theorem gX10_157 : Cond.fieldLink RX10 157 "ComparatorNetworks$Trial" "values" "[I" ∈ gtb := gtb1 (i := 111) (by decide +kernel) rfl
theorem gX9_23 : Cond.fieldLink RX9 23 "ComparatorNetworks$Trial" "origins" "[I" ∈ gtb := gtb1 (i := 112) (by decide +kernel) rfl
theorem gX10_160 : Cond.fieldLink RX10 160 "ComparatorNetworks$Trial" "origins" "[I" ∈ gtb := gtb1 (i := 113) (by decide +kernel) rfl
theorem gX6_11 : Cond.fieldLink RX6 11 "ComparatorNetworks$Shelf" "kind" "I" ∈ gtb := gtb1 (i := 130) (by decide +kernel) rfl
theorem gX10_313 : Cond.fieldLink RX10 313 "ComparatorNetworks$Shelf" "kind" "I" ∈ gtb := gtb1 (i := 131) (by decide +kernel) rfl
theorem gX6_15 : Cond.fieldLink RX6 15 "ComparatorNetworks$Shelf" "a" "I" ∈ gtb := gtb1 (i := 132) (by decide +kernel) rfl
theorem gX6_18 : Cond.fieldLink RX6 18 "ComparatorNetworks$Shelf" "b" "I" ∈ gtb := gtb1 (i := 133) (by decide +kernel) rfl
theorem gX7_11 : Cond.fieldLink RX7 11 "ComparatorNetworks$Sweep" "lanes" "[J" ∈ gtb := gtb1 (i := 147) (by decide +kernel) rfl
theorem gX7_15 : Cond.fieldLink RX7 15 "ComparatorNetworks$Sweep" "wireCount" "I" ∈ gtb := gtb1 (i := 148) (by decide +kernel) rfl
theorem gX4_26 : Cond.fieldLink RX4 26 "ComparatorNetworks$Sweep" "wireCount" "I" ∈ gtb := gtb1 (i := 149) (by decide +kernel) rfl
theorem gX0_19 : Cond.fieldLink RX0 19 "ComparatorNetworks$Sweep" "wireCount" "I" ∈ gtb := gtb1 (i := 150) (by decide +kernel) rfl
theorem gX7_19 : Cond.fieldLink RX7 19 "ComparatorNetworks$Sweep" "words" "I" ∈ gtb := gtb1 (i := 151) (by decide +kernel) rfl
theorem gX4_9 : Cond.fieldLink RX4 9 "ComparatorNetworks$OutputSet" "has" "[Z" ∈ gtb := gtb1 (i := 166) (by decide +kernel) rfl
theorem gX5_57 : Cond.fieldLink RX5 57 "ComparatorNetworks$OutputSet" "has" "[Z" ∈ gtb := gtb1 (i := 167) (by decide +kernel) rfl
theorem gX4_15 : Cond.fieldLink RX4 15 "ComparatorNetworks$OutputSet" "members" "[I" ∈ gtb := gtb1 (i := 168) (by decide +kernel) rfl
theorem gX1_45 : Cond.fieldLink RX1 45 "ComparatorNetworks$OutputSet" "members" "[I" ∈ gtb := gtb1 (i := 169) (by decide +kernel) rfl
theorem gX5_54 : Cond.fieldLink RX5 54 "ComparatorNetworks$OutputSet" "members" "[I" ∈ gtb := gtb1 (i := 170) (by decide +kernel) rfl
theorem gX4_19 : Cond.fieldLink RX4 19 "ComparatorNetworks$OutputSet" "wireCount" "I" ∈ gtb := gtb1 (i := 171) (by decide +kernel) rfl
theorem gX1_31 : Cond.fieldLink RX1 31 "ComparatorNetworks$OutputSet" "wireCount" "I" ∈ gtb := gtb1 (i := 172) (by decide +kernel) rfl
theorem gX5_44 : Cond.fieldLink RX5 44 "ComparatorNetworks$OutputSet" "wireCount" "I" ∈ gtb := gtb1 (i := 173) (by decide +kernel) rfl
theorem gX4_23 : Cond.fieldLink RX4 23 "ComparatorNetworks$OutputSet" "count" "I" ∈ gtb := gtb1 (i := 174) (by decide +kernel) rfl
theorem gX5_53 : Cond.fieldLink RX5 53 "ComparatorNetworks$OutputSet" "count" "I" ∈ gtb := gtb1 (i := 175) (by decide +kernel) rfl
theorem gX1_44 : Cond.fieldLink RX1 44 "ComparatorNetworks$OutputSet" "count" "I" ∈ gtb := gtb1 (i := 176) (by decide +kernel) rfl
theorem gX10_175 : Cond.fieldLink RX10 175 "ComparatorNetworks$OutputSet" "count" "I" ∈ gtb := gtb1 (i := 177) (by decide +kernel) rfl
theorem gX1_9 : Cond.fieldLink RX1 9 "ComparatorNetworks$Extensions" "firstWire" "[I" ∈ gtb := gtb1 (i := 194) (by decide +kernel) rfl
theorem gX10_252 : Cond.fieldLink RX10 252 "ComparatorNetworks$Extensions" "firstWire" "[I" ∈ gtb := gtb1 (i := 195) (by decide +kernel) rfl
theorem gX1_15 : Cond.fieldLink RX1 15 "ComparatorNetworks$Extensions" "secondWire" "[I" ∈ gtb := gtb1 (i := 196) (by decide +kernel) rfl
theorem gX10_255 : Cond.fieldLink RX10 255 "ComparatorNetworks$Extensions" "secondWire" "[I" ∈ gtb := gtb1 (i := 197) (by decide +kernel) rfl
theorem gX1_18 : Cond.fieldLink RX1 18 "ComparatorNetworks$Extensions" "outputsThen" "[I" ∈ gtb := gtb1 (i := 198) (by decide +kernel) rfl
theorem gX1_21 : Cond.fieldLink RX1 21 "ComparatorNetworks$Extensions" "count" "I" ∈ gtb := gtb1 (i := 199) (by decide +kernel) rfl
theorem gX1_25 : Cond.fieldLink RX1 25 "ComparatorNetworks$Extensions" "unsorted" "[I" ∈ gtb := gtb1 (i := 200) (by decide +kernel) rfl
theorem gX1_28 : Cond.fieldLink RX1 28 "ComparatorNetworks$Extensions" "unsortedThen" "[I" ∈ gtb := gtb1 (i := 201) (by decide +kernel) rfl
theorem gX0_9 : Cond.fieldLink RX0 9 "ComparatorNetworks$Chains" "best" "[I" ∈ gtb := gtb1 (i := 221) (by decide +kernel) rfl
theorem gX0_15 : Cond.fieldLink RX0 15 "ComparatorNetworks$Chains" "exchanges" "[J" ∈ gtb := gtb1 (i := 222) (by decide +kernel) rfl
theorem gX5_9 : Cond.fieldLink RX5 9 "ComparatorNetworks$Renaming" "target" "[I" ∈ gtb := gtb1 (i := 234) (by decide +kernel) rfl
theorem gX5_15 : Cond.fieldLink RX5 15 "ComparatorNetworks$Renaming" "source" "[I" ∈ gtb := gtb1 (i := 235) (by decide +kernel) rfl
theorem gX10_11 : Cond.fieldLink RX10 11 "ComparatorNetworks" "networks" "[LComparatorNetworks$Network;" ∈ gtb := gtb2 (i := 1) (by decide +kernel) rfl
theorem gX10_16 : Cond.fieldLink RX10 16 "ComparatorNetworks" "spare" "LComparatorNetworks$Network;" ∈ gtb := gtb2 (i := 2) (by decide +kernel) rfl
theorem gX10_23 : Cond.fieldLink RX10 23 "ComparatorNetworks" "history" "LComparatorNetworks$History;" ∈ gtb := gtb2 (i := 3) (by decide +kernel) rfl
theorem gX10_30 : Cond.fieldLink RX10 30 "ComparatorNetworks" "text" "LComparatorNetworks$Text;" ∈ gtb := gtb2 (i := 4) (by decide +kernel) rfl
theorem gX10_34 : Cond.fieldLink RX10 34 "ComparatorNetworks" "keys" "[I" ∈ gtb := gtb2 (i := 5) (by decide +kernel) rfl
theorem gX10_41 : Cond.fieldLink RX10 41 "ComparatorNetworks" "trial" "LComparatorNetworks$Trial;" ∈ gtb := gtb2 (i := 6) (by decide +kernel) rfl
theorem gX10_47 : Cond.fieldLink RX10 47 "ComparatorNetworks" "shelves" "[LComparatorNetworks$Shelf;" ∈ gtb := gtb2 (i := 7) (by decide +kernel) rfl
theorem gX10_55 : Cond.fieldLink RX10 55 "ComparatorNetworks" "sweep" "LComparatorNetworks$Sweep;" ∈ gtb := gtb2 (i := 8) (by decide +kernel) rfl
theorem gX10_62 : Cond.fieldLink RX10 62 "ComparatorNetworks" "outputs" "LComparatorNetworks$OutputSet;" ∈ gtb := gtb2 (i := 9) (by decide +kernel) rfl
theorem gX10_66 : Cond.fieldLink RX10 66 "ComparatorNetworks" "otherOutputs" "LComparatorNetworks$OutputSet;" ∈ gtb := gtb2 (i := 10) (by decide +kernel) rfl
theorem gX10_72 : Cond.fieldLink RX10 72 "ComparatorNetworks" "extensions" "LComparatorNetworks$Extensions;" ∈ gtb := gtb2 (i := 11) (by decide +kernel) rfl
theorem gX10_79 : Cond.fieldLink RX10 79 "ComparatorNetworks" "chains" "LComparatorNetworks$Chains;" ∈ gtb := gtb2 (i := 12) (by decide +kernel) rfl
theorem gX10_86 : Cond.fieldLink RX10 86 "ComparatorNetworks" "renaming" "LComparatorNetworks$Renaming;" ∈ gtb := gtb2 (i := 13) (by decide +kernel) rfl
theorem lL_13 : Cond.methodLink RL 13 yX10_reset ∈ gtb := gtb2 (i := 41) (by decide +kernel) rfl
theorem lX10_90 : Cond.methodLink RX10 90 yX10_isNetwork ∈ gtb := gtb2 (i := 45) (by decide +kernel) rfl
theorem lX10_94 : Cond.methodLink RX10 94 yX10_isWireCount ∈ gtb := gtb2 (i := 48) (by decide +kernel) rfl
theorem lX10_97 : Cond.methodLink RX10 97 yX10_remember ∈ gtb := gtb2 (i := 51) (by decide +kernel) rfl
theorem lX10_329 : Cond.methodLink RX10 329 yX2_keep ∈ gtb := gtb2 (i := 55) (by decide +kernel) rfl
theorem lX2_29 : Cond.methodLink RX2 29 yX3_takeOver ∈ gtb := gtb2 (i := 59) (by decide +kernel) rfl
theorem lX2_33 : Cond.methodLink RX2 33 yJ9_min_7cf53 ∈ gtb := gtb2 (i := 66) (by decide +kernel) rfl
theorem lX10_105 : Cond.methodLink RX10 105 yX3_restart ∈ gtb := gtb2 (i := 69) (by decide +kernel) rfl
theorem lL_18 : Cond.methodLink RL 18 yX10_wires ∈ gtb := gtb2 (i := 73) (by decide +kernel) rfl
theorem lL_23 : Cond.methodLink RL 23 yX10_size ∈ gtb := gtb2 (i := 77) (by decide +kernel) rfl
theorem lL_27 : Cond.methodLink RL 27 yX10_comparator ∈ gtb := gtb2 (i := 81) (by decide +kernel) rfl
theorem lX10_111 : Cond.methodLink RX10 111 yX10_isPosition ∈ gtb := gtb2 (i := 85) (by decide +kernel) rfl
theorem lX10_326 : Cond.methodLink RX10 326 yX3_hasPosition ∈ gtb := gtb2 (i := 89) (by decide +kernel) rfl
theorem lX10_115 : Cond.methodLink RX10 115 yX3_codeAt ∈ gtb := gtb2 (i := 93) (by decide +kernel) rfl
theorem lX3_34 : Cond.methodLink RX3 34 yX3_hasPosition ∈ gtb := gtb2 (i := 97) (by decide +kernel) rfl
theorem lL_31 : Cond.methodLink RL 31 yX10_add ∈ gtb := gtb2 (i := 98) (by decide +kernel) rfl
theorem lX10_119 : Cond.methodLink RX10 119 yX10_pushInto ∈ gtb := gtb2 (i := 102) (by decide +kernel) rfl
theorem lX10_333 : Cond.methodLink RX10 333 yX3_refusal ∈ gtb := gtb2 (i := 106) (by decide +kernel) rfl
theorem lX3_38 : Cond.methodLink RX3 38 yX3_hasWire ∈ gtb := gtb2 (i := 110) (by decide +kernel) rfl
theorem lX10_337 : Cond.methodLink RX10 337 yX3_pushAt ∈ gtb := gtb2 (i := 114) (by decide +kernel) rfl
theorem lX3_45 : Cond.methodLink RX3 45 yX3_refusal ∈ gtb := gtb2 (i := 118) (by decide +kernel) rfl
theorem lL_36 : Cond.methodLink RL 36 yX10_insert ∈ gtb := gtb2 (i := 119) (by decide +kernel) rfl
theorem lL_41 : Cond.methodLink RL 41 yX10_remove ∈ gtb := gtb2 (i := 123) (by decide +kernel) rfl
theorem lX10_123 : Cond.methodLink RX10 123 yX3_drop ∈ gtb := gtb2 (i := 127) (by decide +kernel) rfl
theorem lL_45 : Cond.methodLink RL 45 yX10_layer ∈ gtb := gtb2 (i := 131) (by decide +kernel) rfl
theorem lX10_126 : Cond.methodLink RX10 126 yX3_levelAt ∈ gtb := gtb2 (i := 135) (by decide +kernel) rfl
theorem lX3_53 : Cond.methodLink RX3 53 yX3_passLayers ∈ gtb := gtb2 (i := 139) (by decide +kernel) rfl
theorem lX3_62 : Cond.methodLink RX3 62 yJ7_fill_53178 ∈ gtb := gtb2 (i := 143) (by decide +kernel) rfl
theorem lX3_57 : Cond.methodLink RX3 57 yJ9_max_7cf53 ∈ gtb := gtb2 (i := 146) (by decide +kernel) rfl
theorem lL_49 : Cond.methodLink RL 49 yX10_depth ∈ gtb := gtb2 (i := 149) (by decide +kernel) rfl
theorem lX10_129 : Cond.methodLink RX10 129 yX3_levels ∈ gtb := gtb2 (i := 153) (by decide +kernel) rfl
theorem lL_53 : Cond.methodLink RL 53 yX10_append ∈ gtb := gtb2 (i := 157) (by decide +kernel) rfl
theorem lX10_133 : Cond.methodLink RX10 133 yX8_put ∈ gtb := gtb2 (i := 161) (by decide +kernel) rfl
theorem lL_57 : Cond.methodLink RL 57 yX10_clearText ∈ gtb := gtb2 (i := 165) (by decide +kernel) rfl
theorem lX10_136 : Cond.methodLink RX10 136 yX8_empty ∈ gtb := gtb2 (i := 169) (by decide +kernel) rfl
theorem lL_62 : Cond.methodLink RL 62 yX10_parse ∈ gtb := gtb2 (i := 173) (by decide +kernel) rfl
theorem lX10_139 : Cond.methodLink RX10 139 yX8_readInto ∈ gtb := gtb2 (i := 177) (by decide +kernel) rfl
theorem lX8_19 : Cond.methodLink RX8 19 yX8_canContinue ∈ gtb := gtb2 (i := 181) (by decide +kernel) rfl
theorem lX8_29 : Cond.methodLink RX8 29 yX3_hasWire ∈ gtb := gtb2 (i := 184) (by decide +kernel) rfl
theorem lX8_23 : Cond.methodLink RX8 23 yX3_push ∈ gtb := gtb2 (i := 185) (by decide +kernel) rfl
theorem lX3_41 : Cond.methodLink RX3 41 yX3_pushAt ∈ gtb := gtb2 (i := 189) (by decide +kernel) rfl
theorem lX10_143 : Cond.methodLink RX10 143 yX10_replaceBySpare ∈ gtb := gtb2 (i := 190) (by decide +kernel) rfl
theorem lX10_231 : Cond.methodLink RX10 231 yX3_takeOver ∈ gtb := gtb2 (i := 194) (by decide +kernel) rfl
theorem lL_66 : Cond.methodLink RL 66 yX10_setKey ∈ gtb := gtb2 (i := 195) (by decide +kernel) rfl
theorem lL_70 : Cond.methodLink RL 70 yX10_run ∈ gtb := gtb2 (i := 199) (by decide +kernel) rfl
theorem lX10_146 : Cond.methodLink RX10 146 yX9_perform ∈ gtb := gtb2 (i := 203) (by decide +kernel) rfl
theorem lX9_38 : Cond.methodLink RX9 38 yX9_swap ∈ gtb := gtb2 (i := 207) (by decide +kernel) rfl
theorem lL_74 : Cond.methodLink RL 74 yX10_result ∈ gtb := gtb2 (i := 210) (by decide +kernel) rfl
theorem lX10_154 : Cond.methodLink RX10 154 yX9_hadWire ∈ gtb := gtb2 (i := 214) (by decide +kernel) rfl
theorem lL_78 : Cond.methodLink RL 78 yX10_origin ∈ gtb := gtb2 (i := 218) (by decide +kernel) rfl
theorem lL_82 : Cond.methodLink RL 82 yX10_isStable ∈ gtb := gtb2 (i := 222) (by decide +kernel) rfl
theorem lX10_163 : Cond.methodLink RX10 163 yX9_keptOrder ∈ gtb := gtb2 (i := 226) (by decide +kernel) rfl
theorem lX10_167 : Cond.methodLink RX10 167 yX10_oneIf ∈ gtb := gtb2 (i := 230) (by decide +kernel) rfl
theorem lL_86 : Cond.methodLink RL 86 yX10_outputCount ∈ gtb := gtb2 (i := 233) (by decide +kernel) rfl
theorem lX10_171 : Cond.methodLink RX10 171 yX10_gatherOutputs ∈ gtb := gtb2 (i := 237) (by decide +kernel) rfl
theorem lX10_183 : Cond.methodLink RX10 183 yX7_passAll ∈ gtb := gtb3 (i := 1) (by decide +kernel) rfl
theorem lX7_34 : Cond.methodLink RX7 34 yX7_start ∈ gtb := gtb3 (i := 5) (by decide +kernel) rfl
theorem lX7_22 : Cond.methodLink RX7 22 yX7_inputLane ∈ gtb := gtb3 (i := 9) (by decide +kernel) rfl
theorem gX7_26 : Cond.fieldLink RX7 26 "ComparatorNetworks$Sweep" "WORD_LANES" "[J" ∈ gtb := gtb3 (i := 12) (by decide +kernel) rfl
theorem lX7_48 : Cond.methodLink RX7 48 yX7_pass ∈ gtb := gtb3 (i := 15) (by decide +kernel) rfl
theorem lX10_340 : Cond.methodLink RX10 340 yX4_gather ∈ gtb := gtb3 (i := 19) (by decide +kernel) rfl
theorem lX4_29 : Cond.methodLink RX4 29 yX7_outputFor ∈ gtb := gtb3 (i := 23) (by decide +kernel) rfl
theorem lX7_62 : Cond.methodLink RX7 62 yX7_valueAt ∈ gtb := gtb3 (i := 27) (by decide +kernel) rfl
theorem lL_90 : Cond.methodLink RL 90 yX10_outputOf ∈ gtb := gtb3 (i := 31) (by decide +kernel) rfl
theorem lX10_176 : Cond.methodLink RX10 176 yX3_carry ∈ gtb := gtb3 (i := 35) (by decide +kernel) rfl
theorem lL_94 : Cond.methodLink RL 94 yX10_isSorter ∈ gtb := gtb3 (i := 42) (by decide +kernel) rfl
theorem lX10_179 : Cond.methodLink RX10 179 yX10_sorts ∈ gtb := gtb3 (i := 46) (by decide +kernel) rfl
theorem lX10_187 : Cond.methodLink RX10 187 yX7_lowestFailure ∈ gtb := gtb3 (i := 50) (by decide +kernel) rfl
theorem lX7_52 : Cond.methodLink RX7 52 yX7_failures ∈ gtb := gtb3 (i := 54) (by decide +kernel) rfl
theorem lX7_56 : Cond.methodLink RX7 56 yJ13_bitCount_95d88 ∈ gtb := gtb3 (i := 58) (by decide +kernel) rfl
theorem lL_98 : Cond.methodLink RL 98 yX10_firstFailure ∈ gtb := gtb3 (i := 64) (by decide +kernel) rfl
theorem lL_102 : Cond.methodLink RL 102 yX10_isSelector ∈ gtb := gtb3 (i := 68) (by decide +kernel) rfl
theorem lX10_190 : Cond.methodLink RX10 190 yX3_hasWire ∈ gtb := gtb3 (i := 72) (by decide +kernel) rfl
theorem lX10_193 : Cond.methodLink RX10 193 yX7_selects ∈ gtb := gtb3 (i := 73) (by decide +kernel) rfl
theorem lX7_66 : Cond.methodLink RX7 66 yJ6_bitCount_0f7a4 ∈ gtb := gtb3 (i := 77) (by decide +kernel) rfl
theorem lL_106 : Cond.methodLink RL 106 yX10_countSorted ∈ gtb := gtb3 (i := 84) (by decide +kernel) rfl
theorem lX10_196 : Cond.methodLink RX10 196 yX0_countWithoutFailure ∈ gtb := gtb3 (i := 88) (by decide +kernel) rfl
theorem lX0_25 : Cond.methodLink RX0 25 yX7_outputFor ∈ gtb := gtb3 (i := 92) (by decide +kernel) rfl
theorem lL_110 : Cond.methodLink RL 110 yX10_firstUnsorted ∈ gtb := gtb3 (i := 96) (by decide +kernel) rfl
theorem lX10_200 : Cond.methodLink RX10 200 yX0_leastWithFailure ∈ gtb := gtb3 (i := 100) (by decide +kernel) rfl
theorem lX0_33 : Cond.methodLink RX0 33 yX0_leastThrough ∈ gtb := gtb3 (i := 104) (by decide +kernel) rfl
theorem lX0_42 : Cond.methodLink RX0 42 yJ6_bitCount_0f7a4 ∈ gtb := gtb3 (i := 107) (by decide +kernel) rfl
theorem lX0_37 : Cond.methodLink RX0 37 yJ9_min_7cf53 ∈ gtb := gtb3 (i := 108) (by decide +kernel) rfl
theorem lL_114 : Cond.methodLink RL 114 yX10_totalExchanges ∈ gtb := gtb3 (i := 109) (by decide +kernel) rfl
theorem lX10_203 : Cond.methodLink RX10 203 yX0_allExchanges ∈ gtb := gtb3 (i := 113) (by decide +kernel) rfl
theorem lX0_61 : Cond.methodLink RX0 61 yX0_noteExchanges ∈ gtb := gtb3 (i := 117) (by decide +kernel) rfl
theorem lX0_50 : Cond.methodLink RX0 50 yX3_exchangesFor ∈ gtb := gtb3 (i := 121) (by decide +kernel) rfl
theorem gX0_65 : Cond.fieldLink RX0 65 "ComparatorNetworks$Chains" "FACTORIALS" "[I" ∈ gtb := gtb3 (i := 125) (by decide +kernel) rfl
theorem lX0_68 : Cond.methodLink RX0 68 yX0_begun ∈ gtb := gtb3 (i := 127) (by decide +kernel) rfl
theorem lX0_56 : Cond.methodLink RX0 56 yJ13_bitCount_95d88 ∈ gtb := gtb3 (i := 132) (by decide +kernel) rfl
theorem lL_119 : Cond.methodLink RL 119 yX10_mostExchanges ∈ gtb := gtb3 (i := 134) (by decide +kernel) rfl
theorem lX10_209 : Cond.methodLink RX10 209 yX0_greatestExchanges ∈ gtb := gtb3 (i := 138) (by decide +kernel) rfl
theorem lX0_71 : Cond.methodLink RX0 71 yJ9_max_7cf53 ∈ gtb := gtb3 (i := 142) (by decide +kernel) rfl
theorem lL_123 : Cond.methodLink RL 123 yX10_isRedundant ∈ gtb := gtb3 (i := 143) (by decide +kernel) rfl
theorem lX10_212 : Cond.methodLink RX10 212 yX7_start ∈ gtb := gtb3 (i := 147) (by decide +kernel) rfl
theorem lX10_221 : Cond.methodLink RX10 221 yX7_pass ∈ gtb := gtb3 (i := 148) (by decide +kernel) rfl
theorem lX10_225 : Cond.methodLink RX10 225 yX7_exchanges ∈ gtb := gtb3 (i := 149) (by decide +kernel) rfl
theorem lL_127 : Cond.methodLink RL 127 yX10_prune ∈ gtb := gtb3 (i := 153) (by decide +kernel) rfl
theorem lX10_228 : Cond.methodLink RX10 228 yX3_push ∈ gtb := gtb3 (i := 157) (by decide +kernel) rfl
theorem lL_131 : Cond.methodLink RL 131 yX10_reduce ∈ gtb := gtb3 (i := 158) (by decide +kernel) rfl
theorem lX10_235 : Cond.methodLink RX10 235 yX10_lastNeedless ∈ gtb := gtb3 (i := 162) (by decide +kernel) rfl
theorem lL_135 : Cond.methodLink RL 135 yX10_standardize ∈ gtb := gtb3 (i := 166) (by decide +kernel) rfl
theorem lX10_238 : Cond.methodLink RX10 238 yX3_turnAll ∈ gtb := gtb3 (i := 170) (by decide +kernel) rfl
theorem lX3_72 : Cond.methodLink RX3 72 yX3_swapWiresBehind ∈ gtb := gtb3 (i := 174) (by decide +kernel) rfl
theorem lX3_75 : Cond.methodLink RX3 75 yX3_swapped ∈ gtb := gtb3 (i := 178) (by decide +kernel) rfl
theorem lL_139 : Cond.methodLink RL 139 yX10_mirror ∈ gtb := gtb3 (i := 181) (by decide +kernel) rfl
theorem lX10_241 : Cond.methodLink RX10 241 yX3_reflect ∈ gtb := gtb3 (i := 185) (by decide +kernel) rfl
theorem lL_143 : Cond.methodLink RL 143 yX10_candidate ∈ gtb := gtb3 (i := 189) (by decide +kernel) rfl
theorem lX10_244 : Cond.methodLink RX10 244 yX1_rankAll ∈ gtb := gtb3 (i := 193) (by decide +kernel) rfl
theorem lX1_36 : Cond.methodLink RX1 36 yX4_countAfter ∈ gtb := gtb3 (i := 197) (by decide +kernel) rfl
theorem lX1_40 : Cond.methodLink RX1 40 yX1_rankOne ∈ gtb := gtb3 (i := 202) (by decide +kernel) rfl
theorem lX10_248 : Cond.methodLink RX10 248 yX1_codeAt ∈ gtb := gtb3 (i := 206) (by decide +kernel) rfl
theorem lX10_249 : Cond.methodLink RX10 249 yX1_outputsAt ∈ gtb := gtb3 (i := 210) (by decide +kernel) rfl
theorem lL_147 : Cond.methodLink RL 147 yX10_grow ∈ gtb := gtb3 (i := 214) (by decide +kernel) rfl
theorem lL_151 : Cond.methodLink RL 151 yX10_missing ∈ gtb := gtb3 (i := 218) (by decide +kernel) rfl
theorem lX10_258 : Cond.methodLink RX10 258 yX1_leastToSort ∈ gtb := gtb3 (i := 222) (by decide +kernel) rfl
theorem lX1_52 : Cond.methodLink RX1 52 yX1_oneSorts ∈ gtb := gtb3 (i := 227) (by decide +kernel) rfl
theorem lX1_59 : Cond.methodLink RX1 59 yX1_pairSorts ∈ gtb := gtb3 (i := 230) (by decide +kernel) rfl
theorem lX1_56 : Cond.methodLink RX1 56 yX1_twoSort ∈ gtb := gtb3 (i := 234) (by decide +kernel) rfl
theorem lX1_67 : Cond.methodLink RX1 67 yX1_keepUnsorted ∈ gtb := gtb3 (i := 238) (by decide +kernel) rfl
theorem lL_155 : Cond.methodLink RL 155 yX10_sameOutputs ∈ gtb := gtb4 (i := 2) (by decide +kernel) rfl
theorem lX10_262 : Cond.methodLink RX10 262 yX4_equalTo ∈ gtb := gtb4 (i := 6) (by decide +kernel) rfl
theorem lL_159 : Cond.methodLink RL 159 yX10_isIsomorphic ∈ gtb := gtb4 (i := 10) (by decide +kernel) rfl
theorem lX10_266 : Cond.methodLink RX10 266 yX5_makes ∈ gtb := gtb4 (i := 14) (by decide +kernel) rfl
theorem lX5_24 : Cond.methodLink RX5 24 yJ7_fill_53178 ∈ gtb := gtb4 (i := 18) (by decide +kernel) rfl
theorem lX5_33 : Cond.methodLink RX5 33 yX5_link ∈ gtb := gtb4 (i := 19) (by decide +kernel) rfl
theorem lL_163 : Cond.methodLink RL 163 yX10_subsumes ∈ gtb := gtb4 (i := 23) (by decide +kernel) rfl
theorem lX10_270 : Cond.methodLink RX10 270 yX5_putsInto ∈ gtb := gtb4 (i := 27) (by decide +kernel) rfl
theorem lX5_40 : Cond.methodLink RX5 40 yX5_search ∈ gtb := gtb4 (i := 31) (by decide +kernel) rfl
theorem lX5_49 : Cond.methodLink RX5 49 yX5_movesInto ∈ gtb := gtb4 (i := 34) (by decide +kernel) rfl
theorem lL_167 : Cond.methodLink RL 167 yX10_build ∈ gtb := gtb4 (i := 37) (by decide +kernel) rfl
theorem lX10_274 : Cond.methodLink RX10 274 yX10_pushInsertion ∈ gtb := gtb4 (i := 41) (by decide +kernel) rfl
theorem lX10_277 : Cond.methodLink RX10 277 yX10_pushBubbles ∈ gtb := gtb4 (i := 44) (by decide +kernel) rfl
theorem lX10_280 : Cond.methodLink RX10 280 yX10_pushTransposition ∈ gtb := gtb4 (i := 47) (by decide +kernel) rfl
theorem lX10_344 : Cond.methodLink RX10 344 yX3_pushNeighbours ∈ gtb := gtb4 (i := 50) (by decide +kernel) rfl
theorem lX3_49 : Cond.methodLink RX3 49 yX3_push ∈ gtb := gtb4 (i := 54) (by decide +kernel) rfl
theorem lX10_283 : Cond.methodLink RX10 283 yX10_pushMergeExchange ∈ gtb := gtb4 (i := 55) (by decide +kernel) rfl
theorem lX10_347 : Cond.methodLink RX10 347 yX10_pushApart ∈ gtb := gtb4 (i := 58) (by decide +kernel) rfl
theorem lL_171 : Cond.methodLink RL 171 yX10_isMerger ∈ gtb := gtb4 (i := 61) (by decide +kernel) rfl
theorem lX10_286 : Cond.methodLink RX10 286 yX10_merges ∈ gtb := gtb4 (i := 65) (by decide +kernel) rfl
theorem lX10_351 : Cond.methodLink RX10 351 yX10_sortedBits ∈ gtb := gtb4 (i := 68) (by decide +kernel) rfl
theorem lX10_354 : Cond.methodLink RX10 354 yX10_isSorted ∈ gtb := gtb4 (i := 71) (by decide +kernel) rfl
theorem lL_175 : Cond.methodLink RL 175 yX10_concatenate ∈ gtb := gtb4 (i := 72) (by decide +kernel) rfl
theorem lX10_289 : Cond.methodLink RX10 289 yX3_pushAll ∈ gtb := gtb4 (i := 76) (by decide +kernel) rfl
theorem lL_179 : Cond.methodLink RL 179 yX10_beside ∈ gtb := gtb4 (i := 80) (by decide +kernel) rfl
theorem lL_183 : Cond.methodLink RL 183 yX10_undo ∈ gtb := gtb4 (i := 84) (by decide +kernel) rfl
theorem lX10_292 : Cond.methodLink RX10 292 yX2_takeBack ∈ gtb := gtb4 (i := 88) (by decide +kernel) rfl
theorem lL_187 : Cond.methodLink RL 187 yX10_place ∈ gtb := gtb4 (i := 92) (by decide +kernel) rfl
theorem lX10_296 : Cond.methodLink RX10 296 yX10_isShelf ∈ gtb := gtb4 (i := 96) (by decide +kernel) rfl
theorem lX10_299 : Cond.methodLink RX10 299 yX6_allows ∈ gtb := gtb4 (i := 99) (by decide +kernel) rfl
theorem lX10_303 : Cond.methodLink RX10 303 yX6_hold ∈ gtb := gtb4 (i := 102) (by decide +kernel) rfl
theorem lX10_307 : Cond.methodLink RX10 307 yX10_countBlocks ∈ gtb := gtb4 (i := 106) (by decide +kernel) rfl
theorem lX10_310 : Cond.methodLink RX10 310 yX6_isTaken ∈ gtb := gtb4 (i := 110) (by decide +kernel) rfl
theorem lL_191 : Cond.methodLink RL 191 yX10_discard ∈ gtb := gtb4 (i := 114) (by decide +kernel) rfl
theorem lX10_316 : Cond.methodLink RX10 316 yX6_release ∈ gtb := gtb4 (i := 118) (by decide +kernel) rfl
theorem lL_195 : Cond.methodLink RL 195 yX10_castBlock ∈ gtb := gtb4 (i := 122) (by decide +kernel) rfl
theorem lX10_319 : Cond.methodLink RX10 319 yX6_isOfKind ∈ gtb := gtb4 (i := 126) (by decide +kernel) rfl
theorem gX6_21 : Cond.fieldLink RX6 21 "ComparatorNetworks$Shelf" "PARENTS" "[I" ∈ gtb := gtb4 (i := 130) (by decide +kernel) rfl
theorem lL_199 : Cond.methodLink RL 199 yX10_blockSize ∈ gtb := gtb4 (i := 132) (by decide +kernel) rfl
theorem lX10_322 : Cond.methodLink RX10 322 yX10_unfold ∈ gtb := gtb4 (i := 136) (by decide +kernel) rfl
theorem lX10_357 : Cond.methodLink RX10 357 yX6_fits ∈ gtb := gtb4 (i := 140) (by decide +kernel) rfl
theorem lX10_360 : Cond.methodLink RX10 360 yX6_pushOnto ∈ gtb := gtb4 (i := 144) (by decide +kernel) rfl
theorem lX6_25 : Cond.methodLink RX6 25 yX3_push ∈ gtb := gtb4 (i := 148) (by decide +kernel) rfl
theorem lX6_34 : Cond.methodLink RX6 34 yX3_pushNeighbours ∈ gtb := gtb4 (i := 149) (by decide +kernel) rfl
theorem lX6_38 : Cond.methodLink RX6 38 yX6_pushRepeated ∈ gtb := gtb4 (i := 150) (by decide +kernel) rfl
theorem lL_203 : Cond.methodLink RL 203 yX10_applyBlock ∈ gtb := gtb4 (i := 154) (by decide +kernel) rfl
theorem lL_12 : Cond.methodLink RL 12 yX11_init ∈ gtb := gtb4 (i := 160) (by decide +kernel) rfl
theorem gX11_9 : Cond.fieldLink RX11 9 "ComparatorNetworksModel" "n" "[I" ∈ gtb := gtb4 (i := 164) (by decide +kernel) rfl
theorem gX11_13 : Cond.fieldLink RX11 13 "ComparatorNetworksModel" "size" "[I" ∈ gtb := gtb4 (i := 165) (by decide +kernel) rfl
theorem gX11_16 : Cond.fieldLink RX11 16 "ComparatorNetworksModel" "from" "[I" ∈ gtb := gtb4 (i := 166) (by decide +kernel) rfl
theorem gX11_19 : Cond.fieldLink RX11 19 "ComparatorNetworksModel" "to" "[I" ∈ gtb := gtb4 (i := 167) (by decide +kernel) rfl
theorem gX11_22 : Cond.fieldLink RX11 22 "ComparatorNetworksModel" "keys" "[I" ∈ gtb := gtb4 (i := 168) (by decide +kernel) rfl
theorem gX11_25 : Cond.fieldLink RX11 25 "ComparatorNetworksModel" "value" "[I" ∈ gtb := gtb4 (i := 169) (by decide +kernel) rfl
theorem gX11_28 : Cond.fieldLink RX11 28 "ComparatorNetworksModel" "origin" "[I" ∈ gtb := gtb4 (i := 170) (by decide +kernel) rfl
theorem gX11_146 : Cond.fieldLink RX11 146 "ComparatorNetworksModel" "runN" "I" ∈ gtb := gtb4 (i := 171) (by decide +kernel) rfl
theorem gX11_31 : Cond.fieldLink RX11 31 "ComparatorNetworksModel" "text" "[I" ∈ gtb := gtb4 (i := 172) (by decide +kernel) rfl
theorem gX11_122 : Cond.fieldLink RX11 122 "ComparatorNetworksModel" "textN" "I" ∈ gtb := gtb4 (i := 173) (by decide +kernel) rfl
theorem gX11_34 : Cond.fieldLink RX11 34 "ComparatorNetworksModel" "kept" "[I" ∈ gtb := gtb4 (i := 174) (by decide +kernel) rfl
theorem gX11_84 : Cond.fieldLink RX11 84 "ComparatorNetworksModel" "changes" "I" ∈ gtb := gtb4 (i := 175) (by decide +kernel) rfl
theorem gX11_37 : Cond.fieldLink RX11 37 "ComparatorNetworksModel" "kind" "[I" ∈ gtb := gtb4 (i := 176) (by decide +kernel) rfl
theorem gX11_40 : Cond.fieldLink RX11 40 "ComparatorNetworksModel" "blockA" "[I" ∈ gtb := gtb4 (i := 177) (by decide +kernel) rfl
theorem gX11_43 : Cond.fieldLink RX11 43 "ComparatorNetworksModel" "blockB" "[I" ∈ gtb := gtb4 (i := 178) (by decide +kernel) rfl
theorem gX11_46 : Cond.fieldLink RX11 46 "ComparatorNetworksModel" "layers" "[I" ∈ gtb := gtb4 (i := 179) (by decide +kernel) rfl
theorem gX11_49 : Cond.fieldLink RX11 49 "ComparatorNetworksModel" "readFrom" "[I" ∈ gtb := gtb4 (i := 180) (by decide +kernel) rfl
theorem gX11_52 : Cond.fieldLink RX11 52 "ComparatorNetworksModel" "readTo" "[I" ∈ gtb := gtb4 (i := 181) (by decide +kernel) rfl
theorem gX11_125 : Cond.fieldLink RX11 125 "ComparatorNetworksModel" "at" "I" ∈ gtb := gtb4 (i := 182) (by decide +kernel) rfl
theorem gX11_136 : Cond.fieldLink RX11 136 "ComparatorNetworksModel" "used" "I" ∈ gtb := gtb4 (i := 183) (by decide +kernel) rfl
theorem gX11_132 : Cond.fieldLink RX11 132 "ComparatorNetworksModel" "isFaulty" "Z" ∈ gtb := gtb4 (i := 184) (by decide +kernel) rfl
theorem gX11_55 : Cond.fieldLink RX11 55 "ComparatorNetworksModel" "out" "[Z" ∈ gtb := gtb4 (i := 185) (by decide +kernel) rfl
theorem gX11_59 : Cond.fieldLink RX11 59 "ComparatorNetworksModel" "other" "[Z" ∈ gtb := gtb4 (i := 186) (by decide +kernel) rfl
theorem gX11_62 : Cond.fieldLink RX11 62 "ComparatorNetworksModel" "perm" "[I" ∈ gtb := gtb4 (i := 187) (by decide +kernel) rfl
theorem gX11_65 : Cond.fieldLink RX11 65 "ComparatorNetworksModel" "carried" "[I" ∈ gtb := gtb4 (i := 188) (by decide +kernel) rfl
theorem gX11_168 : Cond.fieldLink RX11 168 "ComparatorNetworksModel" "sorted" "I" ∈ gtb := gtb4 (i := 189) (by decide +kernel) rfl
theorem gX11_171 : Cond.fieldLink RX11 171 "ComparatorNetworksModel" "firstBad" "I" ∈ gtb := gtb4 (i := 190) (by decide +kernel) rfl
theorem gX11_174 : Cond.fieldLink RX11 174 "ComparatorNetworksModel" "mostAtOnce" "I" ∈ gtb := gtb4 (i := 191) (by decide +kernel) rfl
theorem gX11_177 : Cond.fieldLink RX11 177 "ComparatorNetworksModel" "exchanged" "J" ∈ gtb := gtb4 (i := 192) (by decide +kernel) rfl
theorem gX11_68 : Cond.fieldLink RX11 68 "ComparatorNetworksModel" "listed" "[I" ∈ gtb := gtb4 (i := 193) (by decide +kernel) rfl
theorem gX11_71 : Cond.fieldLink RX11 71 "ComparatorNetworksModel" "begun" "[Z" ∈ gtb := gtb4 (i := 194) (by decide +kernel) rfl
theorem gX11_74 : Cond.fieldLink RX11 74 "ComparatorNetworksModel" "madeFrom" "[I" ∈ gtb := gtb4 (i := 195) (by decide +kernel) rfl
theorem gX11_77 : Cond.fieldLink RX11 77 "ComparatorNetworksModel" "madeTo" "[I" ∈ gtb := gtb4 (i := 196) (by decide +kernel) rfl
theorem gX11_233 : Cond.fieldLink RX11 233 "ComparatorNetworksModel" "made" "I" ∈ gtb := gtb4 (i := 197) (by decide +kernel) rfl
theorem lL_186 : Cond.methodLink RL 186 yX11_undo ∈ gtb := gtb5 (i := 27) (by decide +kernel) rfl
theorem lL_17 : Cond.methodLink RL 17 yX11_reset ∈ gtb := gtb5 (i := 31) (by decide +kernel) rfl
theorem lX11_88 : Cond.methodLink RX11 88 yX11_isNet ∈ gtb := gtb5 (i := 35) (by decide +kernel) rfl
theorem lX11_80 : Cond.methodLink RX11 80 yX11_isIn ∈ gtb := gtb5 (i := 38) (by decide +kernel) rfl
theorem lX11_92 : Cond.methodLink RX11 92 yX11_remembers ∈ gtb := gtb5 (i := 41) (by decide +kernel) rfl
theorem lL_22 : Cond.methodLink RL 22 yX11_wires ∈ gtb := gtb5 (i := 45) (by decide +kernel) rfl
theorem lL_26 : Cond.methodLink RL 26 yX11_size ∈ gtb := gtb5 (i := 49) (by decide +kernel) rfl
theorem lL_30 : Cond.methodLink RL 30 yX11_comparator ∈ gtb := gtb5 (i := 53) (by decide +kernel) rfl
theorem lX11_95 : Cond.methodLink RX11 95 yX11_isPosition ∈ gtb := gtb5 (i := 57) (by decide +kernel) rfl
theorem lL_35 : Cond.methodLink RL 35 yX11_add ∈ gtb := gtb5 (i := 61) (by decide +kernel) rfl
theorem lX11_99 : Cond.methodLink RX11 99 yX11_insert ∈ gtb := gtb5 (i := 65) (by decide +kernel) rfl
theorem lX11_103 : Cond.methodLink RX11 103 yX11_isWire ∈ gtb := gtb5 (i := 69) (by decide +kernel) rfl
theorem lX11_106 : Cond.methodLink RX11 106 yX11_puts ∈ gtb := gtb5 (i := 73) (by decide +kernel) rfl
theorem lL_40 : Cond.methodLink RL 40 yX11_insert ∈ gtb := gtb5 (i := 77) (by decide +kernel) rfl
theorem lL_44 : Cond.methodLink RL 44 yX11_remove ∈ gtb := gtb5 (i := 78) (by decide +kernel) rfl
theorem lX11_110 : Cond.methodLink RX11 110 yX11_comparator ∈ gtb := gtb5 (i := 82) (by decide +kernel) rfl
theorem lX11_114 : Cond.methodLink RX11 114 yX11_takes ∈ gtb := gtb5 (i := 83) (by decide +kernel) rfl
theorem lL_48 : Cond.methodLink RL 48 yX11_layer ∈ gtb := gtb5 (i := 87) (by decide +kernel) rfl
theorem lX11_118 : Cond.methodLink RX11 118 yX11_findsLayers ∈ gtb := gtb5 (i := 91) (by decide +kernel) rfl
theorem lL_52 : Cond.methodLink RL 52 yX11_depth ∈ gtb := gtb5 (i := 95) (by decide +kernel) rfl
theorem lL_56 : Cond.methodLink RL 56 yX11_append ∈ gtb := gtb5 (i := 99) (by decide +kernel) rfl
theorem lL_61 : Cond.methodLink RL 61 yX11_clearText ∈ gtb := gtb5 (i := 103) (by decide +kernel) rfl
theorem lL_65 : Cond.methodLink RL 65 yX11_parse ∈ gtb := gtb5 (i := 107) (by decide +kernel) rfl
theorem lX11_139 : Cond.methodLink RX11 139 yX11_wire ∈ gtb := gtb5 (i := 111) (by decide +kernel) rfl
theorem lX11_128 : Cond.methodLink RX11 128 yX11_here ∈ gtb := gtb5 (i := 115) (by decide +kernel) rfl
theorem lX11_143 : Cond.methodLink RX11 143 yX11_sign ∈ gtb := gtb5 (i := 119) (by decide +kernel) rfl
theorem lL_69 : Cond.methodLink RL 69 yX11_setKey ∈ gtb := gtb5 (i := 123) (by decide +kernel) rfl
theorem lL_73 : Cond.methodLink RL 73 yX11_run ∈ gtb := gtb5 (i := 127) (by decide +kernel) rfl
theorem lL_77 : Cond.methodLink RL 77 yX11_result ∈ gtb := gtb5 (i := 131) (by decide +kernel) rfl
theorem lL_81 : Cond.methodLink RL 81 yX11_origin ∈ gtb := gtb5 (i := 135) (by decide +kernel) rfl
theorem lL_85 : Cond.methodLink RL 85 yX11_isStable ∈ gtb := gtb5 (i := 139) (by decide +kernel) rfl
theorem lL_89 : Cond.methodLink RL 89 yX11_outputCount ∈ gtb := gtb5 (i := 143) (by decide +kernel) rfl
theorem lX11_156 : Cond.methodLink RX11 156 yX11_finds ∈ gtb := gtb5 (i := 147) (by decide +kernel) rfl
theorem lX11_149 : Cond.methodLink RX11 149 yX11_makes ∈ gtb := gtb5 (i := 151) (by decide +kernel) rfl
theorem lL_93 : Cond.methodLink RL 93 yX11_outputOf ∈ gtb := gtb5 (i := 155) (by decide +kernel) rfl
theorem lL_97 : Cond.methodLink RL 97 yX11_isSorter_ ∈ gtb := gtb5 (i := 159) (by decide +kernel) rfl
theorem lX11_160 : Cond.methodLink RX11 160 yX11_isSorter ∈ gtb := gtb5 (i := 163) (by decide +kernel) rfl
theorem lX11_153 : Cond.methodLink RX11 153 yX11_isSorted ∈ gtb := gtb5 (i := 167) (by decide +kernel) rfl
theorem lL_101 : Cond.methodLink RL 101 yX11_firstFailure ∈ gtb := gtb5 (i := 170) (by decide +kernel) rfl
theorem lL_105 : Cond.methodLink RL 105 yX11_isSelector ∈ gtb := gtb5 (i := 174) (by decide +kernel) rfl
theorem lX11_163 : Cond.methodLink RX11 163 yX11_ones ∈ gtb := gtb5 (i := 178) (by decide +kernel) rfl
theorem lL_109 : Cond.methodLink RL 109 yX11_countSorted ∈ gtb := gtb5 (i := 181) (by decide +kernel) rfl
theorem lX11_190 : Cond.methodLink RX11 190 yX11_looks ∈ gtb := gtb5 (i := 185) (by decide +kernel) rfl
theorem lX11_181 : Cond.methodLink RX11 181 yX11_begins ∈ gtb := gtb5 (i := 189) (by decide +kernel) rfl
theorem lX11_184 : Cond.methodLink RX11 184 yX11_carries ∈ gtb := gtb5 (i := 193) (by decide +kernel) rfl
theorem lX11_187 : Cond.methodLink RX11 187 yX11_isNext ∈ gtb := gtb5 (i := 197) (by decide +kernel) rfl
theorem lX11_166 : Cond.methodLink RX11 166 yX11_changes ∈ gtb := gtb5 (i := 201) (by decide +kernel) rfl
theorem lL_113 : Cond.methodLink RL 113 yX11_firstUnsorted ∈ gtb := gtb5 (i := 205) (by decide +kernel) rfl
theorem lL_118 : Cond.methodLink RL 118 yX11_totalExchanges ∈ gtb := gtb5 (i := 209) (by decide +kernel) rfl
theorem lL_122 : Cond.methodLink RL 122 yX11_mostExchanges ∈ gtb := gtb5 (i := 214) (by decide +kernel) rfl
theorem lL_126 : Cond.methodLink RL 126 yX11_isRedundant ∈ gtb := gtb5 (i := 218) (by decide +kernel) rfl
theorem lX11_195 : Cond.methodLink RX11 195 yX11_isIdle ∈ gtb := gtb5 (i := 222) (by decide +kernel) rfl
theorem lL_130 : Cond.methodLink RL 130 yX11_prune ∈ gtb := gtb5 (i := 226) (by decide +kernel) rfl
theorem lL_134 : Cond.methodLink RL 134 yX11_reduce ∈ gtb := gtb5 (i := 230) (by decide +kernel) rfl
theorem lL_138 : Cond.methodLink RL 138 yX11_standardize ∈ gtb := gtb5 (i := 234) (by decide +kernel) rfl
theorem lL_142 : Cond.methodLink RL 142 yX11_mirror ∈ gtb := gtb5 (i := 238) (by decide +kernel) rfl
theorem lL_146 : Cond.methodLink RL 146 yX11_candidate ∈ gtb := gtb6 (i := 2) (by decide +kernel) rfl
theorem lX11_201 : Cond.methodLink RX11 201 yX11_lists ∈ gtb := gtb6 (i := 6) (by decide +kernel) rfl
theorem lX11_198 : Cond.methodLink RX11 198 yX11_counts ∈ gtb := gtb6 (i := 10) (by decide +kernel) rfl
theorem lL_150 : Cond.methodLink RL 150 yX11_grow ∈ gtb := gtb6 (i := 14) (by decide +kernel) rfl
theorem lL_154 : Cond.methodLink RL 154 yX11_missing ∈ gtb := gtb6 (i := 18) (by decide +kernel) rfl
theorem lX11_204 : Cond.methodLink RX11 204 yX11_areSorted ∈ gtb := gtb6 (i := 22) (by decide +kernel) rfl
theorem lX11_208 : Cond.methodLink RX11 208 yX11_isOneEnough ∈ gtb := gtb6 (i := 26) (by decide +kernel) rfl
theorem lL_158 : Cond.methodLink RL 158 yX11_sameOutputs ∈ gtb := gtb6 (i := 30) (by decide +kernel) rfl
theorem lX11_211 : Cond.methodLink RX11 211 yX11_unlike ∈ gtb := gtb6 (i := 34) (by decide +kernel) rfl
theorem lL_162 : Cond.methodLink RL 162 yX11_isIsomorphic ∈ gtb := gtb6 (i := 38) (by decide +kernel) rfl
theorem lL_166 : Cond.methodLink RL 166 yX11_subsumes ∈ gtb := gtb6 (i := 42) (by decide +kernel) rfl
theorem lL_170 : Cond.methodLink RL 170 yX11_build ∈ gtb := gtb6 (i := 46) (by decide +kernel) rfl
theorem lX11_214 : Cond.methodLink RX11 214 yX11_merges ∈ gtb := gtb6 (i := 50) (by decide +kernel) rfl
theorem lX11_217 : Cond.methodLink RX11 217 yX11_appends ∈ gtb := gtb6 (i := 54) (by decide +kernel) rfl
theorem lL_174 : Cond.methodLink RL 174 yX11_isMerger ∈ gtb := gtb6 (i := 58) (by decide +kernel) rfl
theorem lL_178 : Cond.methodLink RL 178 yX11_concatenate ∈ gtb := gtb6 (i := 62) (by decide +kernel) rfl
theorem lX11_221 : Cond.methodLink RX11 221 yX11_collects ∈ gtb := gtb6 (i := 66) (by decide +kernel) rfl
theorem lX11_224 : Cond.methodLink RX11 224 yX11_becomes ∈ gtb := gtb6 (i := 70) (by decide +kernel) rfl
theorem lL_182 : Cond.methodLink RL 182 yX11_beside ∈ gtb := gtb6 (i := 74) (by decide +kernel) rfl
theorem lL_190 : Cond.methodLink RL 190 yX11_place ∈ gtb := gtb6 (i := 78) (by decide +kernel) rfl
theorem lX11_227 : Cond.methodLink RX11 227 yX11_isShelf ∈ gtb := gtb6 (i := 82) (by decide +kernel) rfl
theorem lL_194 : Cond.methodLink RL 194 yX11_discard ∈ gtb := gtb6 (i := 85) (by decide +kernel) rfl
theorem lL_198 : Cond.methodLink RL 198 yX11_castBlock ∈ gtb := gtb6 (i := 89) (by decide +kernel) rfl
theorem lX11_230 : Cond.methodLink RX11 230 yX11_above ∈ gtb := gtb6 (i := 93) (by decide +kernel) rfl
theorem lL_202 : Cond.methodLink RL 202 yX11_blockSize ∈ gtb := gtb6 (i := 96) (by decide +kernel) rfl
theorem lX11_241 : Cond.methodLink RX11 241 yX11_isMade ∈ gtb := gtb6 (i := 100) (by decide +kernel) rfl
theorem lX11_236 : Cond.methodLink RX11 236 yX11_makes_ ∈ gtb := gtb6 (i := 104) (by decide +kernel) rfl
theorem lX11_238 : Cond.methodLink RX11 238 yX11_makesLayer ∈ gtb := gtb6 (i := 108) (by decide +kernel) rfl
theorem lL_206 : Cond.methodLink RL 206 yX11_applyBlock ∈ gtb := gtb6 (i := 112) (by decide +kernel) rfl
/-- the links to private statics of the nest: they hold in every state, but ride as facts -/
def nestW : List Cond := [Cond.methodLinkNest RX3 68 yX10_exchanged RX10, Cond.methodLinkNest RX7 71 yX10_oneIf RX10, Cond.methodLinkNest RX0 29 yX10_isSorted RX10, Cond.methodLinkNest RX4 33 yX10_exchanged RX10, Cond.methodLinkNest RX1 48 yX10_isSorted RX10, Cond.methodLinkNest RX1 63 yX10_exchanged RX10]
theorem nestW_in : ∀ w ∈ nestW, w ∈ lw_tbl := by
  intro w hw
  simp only [nestW, List.mem_cons, List.not_mem_nil, or_false] at hw
  rcases hw with rfl | rfl | rfl | rfl | rfl | rfl
  · exact List.mem_of_getElem? (i := 568) (by decide +kernel)
  · exact List.mem_of_getElem? (i := 612) (by decide +kernel)
  · exact List.mem_of_getElem? (i := 622) (by decide +kernel)
  · exact List.mem_of_getElem? (i := 730) (by decide +kernel)
  · exact List.mem_of_getElem? (i := 755) (by decide +kernel)
  · exact List.mem_of_getElem? (i := 762) (by decide +kernel)
theorem nX3_68 : Cond.methodLinkNest RX3 68 yX10_exchanged RX10 ∈ nestW := List.mem_of_getElem? (i := 0) rfl
theorem nX7_71 : Cond.methodLinkNest RX7 71 yX10_oneIf RX10 ∈ nestW := List.mem_of_getElem? (i := 1) rfl
theorem nX0_29 : Cond.methodLinkNest RX0 29 yX10_isSorted RX10 ∈ nestW := List.mem_of_getElem? (i := 2) rfl
theorem nX4_33 : Cond.methodLinkNest RX4 33 yX10_exchanged RX10 ∈ nestW := List.mem_of_getElem? (i := 3) rfl
theorem nX1_48 : Cond.methodLinkNest RX1 48 yX10_isSorted RX10 ∈ nestW := List.mem_of_getElem? (i := 4) rfl
theorem nX1_63 : Cond.methodLinkNest RX1 63 yX10_exchanged RX10 ∈ nestW := List.mem_of_getElem? (i := 5) rfl
theorem lX3_57m : Cond.methodLink RX3 57 Lib.Math.max.name ∈ gtb := gtb2 (i := 146) (by decide +kernel) rfl
theorem lX0_71m : Cond.methodLink RX0 71 Lib.Math.max.name ∈ gtb := gtb3 (i := 142) (by decide +kernel) rfl
theorem ma_max_s : Cond.static Lib.Math.max.name ∈ gtb := gtb2 (i := 147) (by decide +kernel) rfl
theorem ma_max_c : Cond.code Lib.Math.max.name Lib.Math.max.code 2 (some .int) ∈ gtb := gtb2 (i := 148) (by decide +kernel) rfl
theorem lX2_33m : Cond.methodLink RX2 33 Lib.Math.min.name ∈ gtb := gtb2 (i := 66) (by decide +kernel) rfl
theorem lX0_37m : Cond.methodLink RX0 37 Lib.Math.min.name ∈ gtb := gtb3 (i := 108) (by decide +kernel) rfl
theorem ma_min_s : Cond.static Lib.Math.min.name ∈ gtb := gtb2 (i := 67) (by decide +kernel) rfl
theorem ma_min_c : Cond.code Lib.Math.min.name Lib.Math.min.code 2 (some .int) ∈ gtb := gtb2 (i := 68) (by decide +kernel) rfl
theorem ma_ini : Cond.initialized "java/lang/Math" ∈ gtb := gtb1 (i := 14) (by decide +kernel) rfl
theorem ac_lX3_28 : Cond.methodLink RX3 28 arraycopyName ∈ gtb := gtb2 (i := 63) (by decide +kernel) rfl
theorem ac_n : Cond.native arraycopyName ∈ gtb := gtb2 (i := 65) (by decide +kernel) rfl
theorem ac_s : Cond.static arraycopyName ∈ gtb := gtb2 (i := 64) (by decide +kernel) rfl
theorem ac_i : Cond.initialized "java/lang/System" ∈ gtb := gtb1 (i := 13) (by decide +kernel) rfl
theorem kX7_29 : Cond.constantLong RX7 29 (-1 : Int64) ∈ gtb := gtb3 (i := 14) (by decide +kernel) rfl
theorem kJ13_314 : Cond.constantLong RJ13 314 (6148914691236517205 : Int64) ∈ gtb := gtb3 (i := 61) (by decide +kernel) rfl
theorem kJ13_316 : Cond.constantLong RJ13 316 (3689348814741910323 : Int64) ∈ gtb := gtb3 (i := 62) (by decide +kernel) rfl
theorem kJ13_318 : Cond.constantLong RJ13 318 (1085102592571150095 : Int64) ∈ gtb := gtb3 (i := 63) (by decide +kernel) rfl
theorem kJ6_265 : Cond.constant RJ6 265 (1431655765 : Int32) ∈ gtb := gtb3 (i := 80) (by decide +kernel) rfl
theorem kJ6_266 : Cond.constant RJ6 266 (858993459 : Int32) ∈ gtb := gtb3 (i := 81) (by decide +kernel) rfl
theorem kJ6_267 : Cond.constant RJ6 267 (252645135 : Int32) ∈ gtb := gtb3 (i := 82) (by decide +kernel) rfl
theorem kX0_54 : Cond.constantLong RX0 54 (-1 : Int64) ∈ gtb := gtb3 (i := 131) (by decide +kernel) rfl
theorem kX10_207 : Cond.constantLong RX10 207 (-1 : Int64) ∈ gtb := gtb3 (i := 133) (by decide +kernel) rfl
theorem kX11_193 : Cond.constantLong RX11 193 (-1 : Int64) ∈ gtb := gtb5 (i := 213) (by decide +kernel) rfl
end
section
/-! values, the abstract heap -/
abbrev AV : Type := Int ⊕ (Int ⊕ Int)
abbrev vi (z : Int) : AV := Sum.inl z
abbrev vl (z : Int) : AV := Sum.inr (Sum.inl z)
abbrev vr (a : Int) : AV := Sum.inr (Sum.inr a)
abbrev Hp : Type := Int → Int → Int
def up (h : Hp) (a i v : Int) : Hp := fun x y => if x = a ∧ y = i then v else h x y
def rg (z : Int) : Prop := -2147483648 ≤ z ∧ z < 2147483648
def rgL (z : Int) : Prop := -9223372036854775808 ≤ z ∧ z < 9223372036854775808
def wfv : AV → Prop
  | .inl z => rg z
  | .inr (.inl z) => rgL z
  | .inr (.inr _) => True
def lgS (a j : Int) : Prop := a = 84 ∨ a = 99 ∨ (a = 103 ∧ j = 28)
def wfh (h : Hp) : Prop := ∀ a j, (lgS a j → rgL (h a j)) ∧ (¬ lgS a j → rg (h a j))
def rv (ad : Nat → Nat) : AV → Value
  | .inl z => .int (Int32.ofInt z)
  | .inr (.inl z) => .long (Int64.ofInt z)
  | .inr (.inr a) => .ref (ad a.toNat)
def cat : AV → Nat
  | .inr (.inl _) => 2
  | _ => 1
theorem cat_rv (ad : Nat → Nat) (v : AV) : (rv ad v).category = cat v := by
  rcases v with z | z | z <;> rfl
def csum (l : List AV) : Nat := (l.map cat).sum
theorem csum_rv (ad : Nat → Nat) (l : List AV) : ((l.map (rv ad)).map fun v => v.category).sum = csum l := by
  unfold csum
  rw [List.map_map]
  congr 1
  exact List.map_congr_left (fun v _ => cat_rv ad v)
/-! numbers -/
theorem o32 {z : Int} (h : rg z) : (Int32.ofInt z).toInt = z := by
  obtain ⟨h1, h2⟩ := h
  exact Int32.toInt_ofInt_of_le (by simpa using h1) (by simpa using h2)
theorem o64 {z : Int} (h : rgL z) : (Int64.ofInt z).toInt = z := by
  obtain ⟨h1, h2⟩ := h
  exact Int64.toInt_ofInt_of_le (by simpa using h1) (by simpa using h2)
theorem o32_lt {x y : Int} (hx : rg x) (hy : rg y) : Int32.ofInt x < Int32.ofInt y ↔ x < y := by
  rw [Int32.lt_iff_toInt_lt, o32 hx, o32 hy]
theorem o32_le {x y : Int} (hx : rg x) (hy : rg y) : Int32.ofInt x ≤ Int32.ofInt y ↔ x ≤ y := by
  rw [Int32.le_iff_toInt_le, o32 hx, o32 hy]
theorem o32_eq {x y : Int} (hx : rg x) (hy : rg y) : Int32.ofInt x = Int32.ofInt y ↔ x = y := by
  rw [← Int32.toInt_inj, o32 hx, o32 hy]
theorem o32_0 : (0 : Int32) = Int32.ofInt 0 := by decide
theorem rg0 : rg 0 := by unfold rg; omega
theorem o32_ge {x y : Int} (hx : rg x) (hy : rg y) : Int32.ofInt x ≥ Int32.ofInt y ↔ x ≥ y := o32_le hy hx
theorem o32_gt {x y : Int} (hx : rg x) (hy : rg y) : Int32.ofInt x > Int32.ofInt y ↔ x > y := o32_lt hy hx
theorem o32_clamp {z : Int} (h : rg z) : (Int32.ofInt z).toNatClampNeg = z.toNat := by
  show (Int32.ofInt z).toInt.toNat = z.toNat
  rw [o32 h]
theorem o32_in {z : Int} {n : Nat} (h0 : 0 ≤ z) (h : z < n) (hr : rg z) : vp_in (Int32.ofInt z) n := by
  rw [vp_in_iff, o32 hr]
  exact ⟨h0, h⟩
end
section
/-! the layout of the world: own choice of numbers -/
def shL : List (Nat × Nat) := [(0, 3), (1, 40), (1, 40), (1, 8), (0, 3), (1, 40), (1, 40), (1, 8), (0, 3), (1, 40), (1, 40), (1, 8), (0, 3), (1, 40), (1, 40), (1, 8), (0, 3), (1, 40), (1, 40), (1, 8), (0, 3), (1, 40), (1, 40), (1, 8), (0, 3), (1, 40), (1, 40), (1, 8), (0, 3), (1, 40), (1, 40), (1, 8), (0, 3), (1, 40), (1, 40), (1, 8), (0, 3), (1, 40), (1, 40), (1, 8), (0, 3), (1, 40), (1, 40), (1, 8), (0, 3), (1, 40), (1, 40), (1, 8), (0, 3), (1, 40), (1, 40), (1, 8), (0, 3), (1, 40), (1, 40), (1, 8), (0, 3), (1, 40), (1, 40), (1, 8), (0, 3), (1, 40), (1, 40), (1, 8), (0, 3), (1, 40), (1, 40), (1, 8), (0, 10), (4, 4), (0, 2), (4, 12), (1, 12), (0, 8), (1, 60), (1, 8), (0, 9), (1, 8), (1, 8), (5, 3), (0, 6), (0, 6), (0, 6), (0, 7), (3, 32), (0, 4), (2, 256), (1, 256), (0, 4), (2, 256), (1, 256), (0, 1), (1, 28), (1, 28), (1, 28), (1, 256), (1, 256), (0, 0), (1, 256), (3, 256), (0, 5), (1, 8), (1, 8), (0, 11), (1, 4), (1, 4), (1, 160), (1, 160), (1, 8), (1, 8), (1, 8), (1, 60), (1, 3936), (1, 3), (1, 3), (1, 3), (1, 40), (1, 40), (1, 40), (2, 256), (2, 256), (1, 8), (1, 8), (1, 28), (2, 256), (1, 80), (1, 80)]
def ftL : List (List Nat) := [[2, 2], [2, 2, 2, 0, 2, 2], [2, 2, 0, 0], [0, 0, 2, 2, 2], [2, 2, 0, 0], [2, 2], [0, 0, 0], [2, 0, 0], [2, 0], [0, 0, 2, 2], [2, 2, 2, 2, 2, 2, 2, 2, 2, 2, 2, 2, 2], [2, 2, 2, 2, 2, 2, 2, 0, 2, 0, 2, 0, 2, 2, 2, 2, 2, 2, 0, 0, 0, 2, 2, 2, 2, 0, 0, 0, 1, 2, 2, 2, 2, 0]]
def rfL : List (List Nat) := [[69, 16, 70, 73, 75, 76, 79, 83, 85, 88, 91, 97, 100], [], [71, 72], [], [], [74], [], [], [0, 0, 77, 78], [], [], [], [], [], [], [84], [], [86, 87], [], [], [89, 90], [], [], [92, 93, 94, 0, 95, 96], [], [], [], [], [], [98, 99], [], [], [101, 102], [], [], [104, 105, 106, 107, 108, 109, 110, 0, 111, 0, 112, 0, 113, 114, 115, 116, 117, 118, 0, 0, 0, 119, 120, 121, 122, 0, 0, 0, 0, 123, 124, 125, 126], [], [], [], [], [], [], [], [], [], [], [], [], [], [], [], [], [], [], [], [], [], [], []]
def rf (k j : Nat) : Nat := if k < 68 then k + (j - 1) else if k = 69 then 4 * j else if k = 71 then 20 + 4 * j else if k = 79 then 80 + j else (rfL.getD (k - 68) []).getD j 0
abbrev GG : Type := va_G × (Nat → Nat) × (Nat → ClassId)
def slotv (ad : Nat → Nat) (h : Hp) (k t j : Nat) : Value := match t with
  | 0 => .int (Int32.ofInt (h k j))
  | 1 => .long (Int64.ofInt (h k j))
  | _ => .ref (ad (rf k j))
def fsOf (ad : Nat → Nat) (h : Hp) (k ci : Nat) : List Value := (ftL.getD ci []).mapIdx (fun j t => slotv ad h k t j)
def cellE (G : GG) (h : Hp) (k : Nat) : va_E := match shL[k]? with
  | some (0, ci) => .inr (ci, fsOf G.2.1 h k ci)
  | some (1, n) => .inl (G.2.2 0, n, .inl (fun j => Int32.ofInt (h k j)))
  | some (2, n) => .inl (G.2.2 1, n, .inl (fun j => Int32.ofInt (h k j)))
  | some (3, n) => .inl (G.2.2 2, n, .inr (.inl (fun j => Int64.ofInt (h k j))))
  | some (4, n) => .inl (G.2.2 3, n, .inr (.inr (.inr (.inr (fun j => some (G.2.1 (rf k j)))))))
  | some (_, n) => .inl (G.2.2 4, n, .inr (.inr (.inr (.inr (fun j => some (G.2.1 (rf k j)))))))
  | none => .inr (0, [])
def ws (G : GG) (h : Hp) : va_W := (List.range 127).map (fun k => (G.2.1 k, cellE G h k))
def tys (G : GG) : List (ClassId × FieldType) := [(G.2.2 0, .int), (G.2.2 1, .boolean), (G.2.2 2, .long), (G.2.2 3, .object "ComparatorNetworks$Network"), (G.2.2 4, .object "ComparatorNetworks$Shelf")]
theorem shL_len : shL.length = 127 := by decide +kernel
theorem ws_at (G : GG) (h : Hp) {k : Nat} (hk : k < 127) : (ws G h)[k]? = some (G.2.1 k, cellE G h k) := by
  simp [ws, hk]
theorem ws_of {G : GG} {h : Hp} {k : Nat} {q : Nat × va_E} (hq : (ws G h)[k]? = some q) : k < 127 ∧ q = (G.2.1 k, cellE G h k) := by
  have hk : k < 127 := by
    have := (List.getElem?_eq_some_iff.mp hq).1
    simpa [ws] using this
  rw [ws_at G h hk] at hq
  exact ⟨hk, (Option.some.inj hq).symm⟩
theorem slotv_congr {ad : Nat → Nat} {h h' : Hp} {k : Nat} (e : ∀ j : Nat, h k j = h' k j) (t j : Nat) : slotv ad h k t j = slotv ad h' k t j := by
  unfold slotv
  split
  · rw [e]
  · rw [e]
  · rfl
theorem cellE_congr {G : GG} {h h' : Hp} {k : Nat} (e : ∀ j : Nat, h k j = h' k j) : cellE G h k = cellE G h' k := by
  have e1 : fsOf G.2.1 h k = fsOf G.2.1 h' k := by
    funext ci
    unfold fsOf
    congr 1
    funext j t
    exact slotv_congr e t j
  unfold cellE
  simp only [e1, e]
theorem up_ne {h : Hp} {a i v x y : Int} (hn : x ≠ a) : up h a i v x y = h x y := by
  unfold up
  rw [if_neg (fun q => hn q.1)]
theorem up_ne2 {h : Hp} {a i v x y : Int} (hn : y ≠ i) : up h a i v x y = h x y := by
  unfold up
  rw [if_neg (fun q => hn q.2)]
theorem up_eq {h : Hp} {a i v : Int} : up h a i v a i = v := by
  unfold up
  rw [if_pos ⟨rfl, rfl⟩]
theorem ws_set (G : GG) (h h' : Hp) {k : Nat} {e : va_E} (hk : k < 127) (he : cellE G h' k = e) (ho : ∀ x : Int, x ≠ k → ∀ y, h' x y = h x y) : (ws G h).set k (G.2.1 k, e) = ws G h' := by
  refine List.ext_getElem? fun n => ?_
  rw [List.getElem?_set]
  by_cases hn : n < 127
  · by_cases hnk : k = n
    · subst hnk
      rw [if_pos rfl, if_pos (by simp [ws, hk]), ws_at G h' hk, he]
    · rw [if_neg hnk, ws_at G h hn, ws_at G h' hn, cellE_congr (fun j => (ho n (by omega) j).symm)]
  · rw [if_neg (by omega)]
    simp [ws, hn]
/-- the cell at an abstract address is of a kind: 0 object (n its class), 1 int[], 2 boolean[], 3 long[], 4 Network[], 5 Shelf[] (n the length) -/
def isC (a : Int) (t n : Nat) : Prop := 0 ≤ a ∧ shL[a.toNat]? = some (t, n)
theorem isC.lt {a : Int} {t n : Nat} (h : isC a t n) : a.toNat < 127 := by
  have := (List.getElem?_eq_some_iff.mp h.2).1
  rw [shL_len] at this
  exact this
theorem isC.nn {a : Int} {t n : Nat} (h : isC a t n) : ((a.toNat : Nat) : Int) = a := Int.toNat_of_nonneg h.1
/-- links of fields: class ci, field j, of slot kind t, in the code of class own -/
def FL (own : String) (idx ci j t : Nat) : Prop := ∃ (C : String) (T : u_T) (N : Nat), vwCl[ci]? = some (C, T, N) ∧ (∀ w ∈ u_ws C T N, w ∈ gtb) ∧ j < N ∧ Cond.fieldLink own idx (T j).1 (T j).2.1 (T j).2.2.1 ∈ gtb ∧ (ftL.getD ci [])[j]? = some t
def FP (own : String) (idx ci j t : Nat) (ty : FieldType) : Prop := ∃ (C : String) (T : u_T) (N : Nat) (ty0 : Nat → FieldType), vwCl[ci]? = some (C, T, N) ∧ (∀ w ∈ u_ws C T N, w ∈ gtb) ∧ j < N ∧ Cond.fieldLink own idx (T j).1 (T j).2.1 (T j).2.2.1 ∈ gtb ∧ (ftL.getD ci [])[j]? = some t ∧ (∀ k, k < N → parseFieldDescriptor (T k).2.2.1 = some (ty0 k)) ∧ (∀ a, a < N → ∀ b, b < N → a ≠ b → (T a).2.1 ≠ (T b).2.1) ∧ (T j).2.2.2 = false ∧ ty0 j = ty
theorem FX3_9 : FL RX3 9 3 0 0 := ⟨RX3, TX3, 5, rfl, i_X3, by decide, gX3_9, rfl⟩
theorem PX3_9 : FP RX3 9 3 0 0 .int := ⟨RX3, TX3, 5, tyX3, rfl, i_X3, by decide, gX3_9, rfl, tyX3_ok, nmX3, rfl, rfl⟩
theorem FX9_26 : FL RX9 26 3 0 0 := ⟨RX3, TX3, 5, rfl, i_X3, by decide, gX9_26, rfl⟩
theorem FX10_108 : FL RX10 108 3 0 0 := ⟨RX3, TX3, 5, rfl, i_X3, by decide, gX10_108, rfl⟩
theorem FX7_31 : FL RX7 31 3 0 0 := ⟨RX3, TX3, 5, rfl, i_X3, by decide, gX7_31, rfl⟩
theorem FX0_47 : FL RX0 47 3 0 0 := ⟨RX3, TX3, 5, rfl, i_X3, by decide, gX0_47, rfl⟩
theorem FX6_31 : FL RX6 31 3 0 0 := ⟨RX3, TX3, 5, rfl, i_X3, by decide, gX6_31, rfl⟩
theorem FX3_15 : FL RX3 15 3 1 0 := ⟨RX3, TX3, 5, rfl, i_X3, by decide, gX3_15, rfl⟩
theorem PX3_15 : FP RX3 15 3 1 0 .int := ⟨RX3, TX3, 5, tyX3, rfl, i_X3, by decide, gX3_15, rfl, tyX3_ok, nmX3, rfl, rfl⟩
theorem FX5_18 : FL RX5 18 3 1 0 := ⟨RX3, TX3, 5, rfl, i_X3, by decide, gX5_18, rfl⟩
theorem FX10_101 : FL RX10 101 3 1 0 := ⟨RX3, TX3, 5, rfl, i_X3, by decide, gX10_101, rfl⟩
theorem FX9_29 : FL RX9 29 3 1 0 := ⟨RX3, TX3, 5, rfl, i_X3, by decide, gX9_29, rfl⟩
theorem FX7_38 : FL RX7 38 3 1 0 := ⟨RX3, TX3, 5, rfl, i_X3, by decide, gX7_38, rfl⟩
theorem FX3_18 : FL RX3 18 3 2 2 := ⟨RX3, TX3, 5, rfl, i_X3, by decide, gX3_18, rfl⟩
theorem FX5_30 : FL RX5 30 3 2 2 := ⟨RX3, TX3, 5, rfl, i_X3, by decide, gX5_30, rfl⟩
theorem FX9_32 : FL RX9 32 3 2 2 := ⟨RX3, TX3, 5, rfl, i_X3, by decide, gX9_32, rfl⟩
theorem FX7_41 : FL RX7 41 3 2 2 := ⟨RX3, TX3, 5, rfl, i_X3, by decide, gX7_41, rfl⟩
theorem FX10_215 : FL RX10 215 3 2 2 := ⟨RX3, TX3, 5, rfl, i_X3, by decide, gX10_215, rfl⟩
theorem FX3_22 : FL RX3 22 3 3 2 := ⟨RX3, TX3, 5, rfl, i_X3, by decide, gX3_22, rfl⟩
theorem FX5_37 : FL RX5 37 3 3 2 := ⟨RX3, TX3, 5, rfl, i_X3, by decide, gX5_37, rfl⟩
theorem FX9_35 : FL RX9 35 3 3 2 := ⟨RX3, TX3, 5, rfl, i_X3, by decide, gX9_35, rfl⟩
theorem FX7_45 : FL RX7 45 3 3 2 := ⟨RX3, TX3, 5, rfl, i_X3, by decide, gX7_45, rfl⟩
theorem FX10_218 : FL RX10 218 3 3 2 := ⟨RX3, TX3, 5, rfl, i_X3, by decide, gX10_218, rfl⟩
theorem FX3_25 : FL RX3 25 3 4 2 := ⟨RX3, TX3, 5, rfl, i_X3, by decide, gX3_25, rfl⟩
theorem FX2_11 : FL RX2 11 2 0 2 := ⟨RX2, TX2, 4, rfl, i_X2, by decide, gX2_11, rfl⟩
theorem FX2_17 : FL RX2 17 2 1 2 := ⟨RX2, TX2, 4, rfl, i_X2, by decide, gX2_17, rfl⟩
theorem FX2_21 : FL RX2 21 2 2 0 := ⟨RX2, TX2, 4, rfl, i_X2, by decide, gX2_21, rfl⟩
theorem PX2_21 : FP RX2 21 2 2 0 .int := ⟨RX2, TX2, 4, tyX2, rfl, i_X2, by decide, gX2_21, rfl, tyX2_ok, nmX2, rfl, rfl⟩
theorem FX2_25 : FL RX2 25 2 3 0 := ⟨RX2, TX2, 4, rfl, i_X2, by decide, gX2_25, rfl⟩
theorem PX2_25 : FP RX2 25 2 3 0 .int := ⟨RX2, TX2, 4, tyX2, rfl, i_X2, by decide, gX2_25, rfl, tyX2_ok, nmX2, rfl, rfl⟩
theorem FX8_9 : FL RX8 9 8 0 2 := ⟨RX8, TX8, 2, rfl, i_X8, by decide, gX8_9, rfl⟩
theorem FX8_15 : FL RX8 15 8 1 0 := ⟨RX8, TX8, 2, rfl, i_X8, by decide, gX8_15, rfl⟩
theorem PX8_15 : FP RX8 15 8 1 0 .int := ⟨RX8, TX8, 2, tyX8, rfl, i_X8, by decide, gX8_15, rfl, tyX8_ok, nmX8, rfl, rfl⟩
theorem FX9_9 : FL RX9 9 9 0 0 := ⟨RX9, TX9, 4, rfl, i_X9, by decide, gX9_9, rfl⟩
theorem PX9_9 : FP RX9 9 9 0 0 .boolean := ⟨RX9, TX9, 4, tyX9, rfl, i_X9, by decide, gX9_9, rfl, tyX9_ok, nmX9, rfl, rfl⟩
theorem FX10_150 : FL RX10 150 9 0 0 := ⟨RX9, TX9, 4, rfl, i_X9, by decide, gX10_150, rfl⟩
theorem FX9_15 : FL RX9 15 9 1 0 := ⟨RX9, TX9, 4, rfl, i_X9, by decide, gX9_15, rfl⟩
theorem PX9_15 : FP RX9 15 9 1 0 .int := ⟨RX9, TX9, 4, tyX9, rfl, i_X9, by decide, gX9_15, rfl, tyX9_ok, nmX9, rfl, rfl⟩
theorem FX9_19 : FL RX9 19 9 2 2 := ⟨RX9, TX9, 4, rfl, i_X9, by decide, gX9_19, rfl⟩
theorem FX10_157 : FL RX10 157 9 2 2 := ⟨RX9, TX9, 4, rfl, i_X9, by decide, gX10_157, rfl⟩
theorem FX9_23 : FL RX9 23 9 3 2 := ⟨RX9, TX9, 4, rfl, i_X9, by decide, gX9_23, rfl⟩
theorem FX10_160 : FL RX10 160 9 3 2 := ⟨RX9, TX9, 4, rfl, i_X9, by decide, gX10_160, rfl⟩
theorem FX6_11 : FL RX6 11 6 0 0 := ⟨RX6, TX6, 3, rfl, i_X6, by decide, gX6_11, rfl⟩
theorem PX6_11 : FP RX6 11 6 0 0 .int := ⟨RX6, TX6, 3, tyX6, rfl, i_X6, by decide, gX6_11, rfl, tyX6_ok, nmX6, rfl, rfl⟩
theorem FX10_313 : FL RX10 313 6 0 0 := ⟨RX6, TX6, 3, rfl, i_X6, by decide, gX10_313, rfl⟩
theorem FX6_15 : FL RX6 15 6 1 0 := ⟨RX6, TX6, 3, rfl, i_X6, by decide, gX6_15, rfl⟩
theorem PX6_15 : FP RX6 15 6 1 0 .int := ⟨RX6, TX6, 3, tyX6, rfl, i_X6, by decide, gX6_15, rfl, tyX6_ok, nmX6, rfl, rfl⟩
theorem FX6_18 : FL RX6 18 6 2 0 := ⟨RX6, TX6, 3, rfl, i_X6, by decide, gX6_18, rfl⟩
theorem PX6_18 : FP RX6 18 6 2 0 .int := ⟨RX6, TX6, 3, tyX6, rfl, i_X6, by decide, gX6_18, rfl, tyX6_ok, nmX6, rfl, rfl⟩
theorem FX7_11 : FL RX7 11 7 0 2 := ⟨RX7, TX7, 3, rfl, i_X7, by decide, gX7_11, rfl⟩
theorem FX7_15 : FL RX7 15 7 1 0 := ⟨RX7, TX7, 3, rfl, i_X7, by decide, gX7_15, rfl⟩
theorem PX7_15 : FP RX7 15 7 1 0 .int := ⟨RX7, TX7, 3, tyX7, rfl, i_X7, by decide, gX7_15, rfl, tyX7_ok, nmX7, rfl, rfl⟩
theorem FX4_26 : FL RX4 26 7 1 0 := ⟨RX7, TX7, 3, rfl, i_X7, by decide, gX4_26, rfl⟩
theorem FX0_19 : FL RX0 19 7 1 0 := ⟨RX7, TX7, 3, rfl, i_X7, by decide, gX0_19, rfl⟩
theorem FX7_19 : FL RX7 19 7 2 0 := ⟨RX7, TX7, 3, rfl, i_X7, by decide, gX7_19, rfl⟩
theorem PX7_19 : FP RX7 19 7 2 0 .int := ⟨RX7, TX7, 3, tyX7, rfl, i_X7, by decide, gX7_19, rfl, tyX7_ok, nmX7, rfl, rfl⟩
theorem FX4_9 : FL RX4 9 4 0 2 := ⟨RX4, TX4, 4, rfl, i_X4, by decide, gX4_9, rfl⟩
theorem FX5_57 : FL RX5 57 4 0 2 := ⟨RX4, TX4, 4, rfl, i_X4, by decide, gX5_57, rfl⟩
theorem FX4_15 : FL RX4 15 4 1 2 := ⟨RX4, TX4, 4, rfl, i_X4, by decide, gX4_15, rfl⟩
theorem FX1_45 : FL RX1 45 4 1 2 := ⟨RX4, TX4, 4, rfl, i_X4, by decide, gX1_45, rfl⟩
theorem FX5_54 : FL RX5 54 4 1 2 := ⟨RX4, TX4, 4, rfl, i_X4, by decide, gX5_54, rfl⟩
theorem FX4_19 : FL RX4 19 4 2 0 := ⟨RX4, TX4, 4, rfl, i_X4, by decide, gX4_19, rfl⟩
theorem PX4_19 : FP RX4 19 4 2 0 .int := ⟨RX4, TX4, 4, tyX4, rfl, i_X4, by decide, gX4_19, rfl, tyX4_ok, nmX4, rfl, rfl⟩
theorem FX1_31 : FL RX1 31 4 2 0 := ⟨RX4, TX4, 4, rfl, i_X4, by decide, gX1_31, rfl⟩
theorem FX5_44 : FL RX5 44 4 2 0 := ⟨RX4, TX4, 4, rfl, i_X4, by decide, gX5_44, rfl⟩
theorem FX4_23 : FL RX4 23 4 3 0 := ⟨RX4, TX4, 4, rfl, i_X4, by decide, gX4_23, rfl⟩
theorem PX4_23 : FP RX4 23 4 3 0 .int := ⟨RX4, TX4, 4, tyX4, rfl, i_X4, by decide, gX4_23, rfl, tyX4_ok, nmX4, rfl, rfl⟩
theorem FX5_53 : FL RX5 53 4 3 0 := ⟨RX4, TX4, 4, rfl, i_X4, by decide, gX5_53, rfl⟩
theorem FX1_44 : FL RX1 44 4 3 0 := ⟨RX4, TX4, 4, rfl, i_X4, by decide, gX1_44, rfl⟩
theorem FX10_175 : FL RX10 175 4 3 0 := ⟨RX4, TX4, 4, rfl, i_X4, by decide, gX10_175, rfl⟩
theorem FX1_9 : FL RX1 9 1 0 2 := ⟨RX1, TX1, 6, rfl, i_X1, by decide, gX1_9, rfl⟩
theorem FX10_252 : FL RX10 252 1 0 2 := ⟨RX1, TX1, 6, rfl, i_X1, by decide, gX10_252, rfl⟩
theorem FX1_15 : FL RX1 15 1 1 2 := ⟨RX1, TX1, 6, rfl, i_X1, by decide, gX1_15, rfl⟩
theorem FX10_255 : FL RX10 255 1 1 2 := ⟨RX1, TX1, 6, rfl, i_X1, by decide, gX10_255, rfl⟩
theorem FX1_18 : FL RX1 18 1 2 2 := ⟨RX1, TX1, 6, rfl, i_X1, by decide, gX1_18, rfl⟩
theorem FX1_21 : FL RX1 21 1 3 0 := ⟨RX1, TX1, 6, rfl, i_X1, by decide, gX1_21, rfl⟩
theorem PX1_21 : FP RX1 21 1 3 0 .int := ⟨RX1, TX1, 6, tyX1, rfl, i_X1, by decide, gX1_21, rfl, tyX1_ok, nmX1, rfl, rfl⟩
theorem FX1_25 : FL RX1 25 1 4 2 := ⟨RX1, TX1, 6, rfl, i_X1, by decide, gX1_25, rfl⟩
theorem FX1_28 : FL RX1 28 1 5 2 := ⟨RX1, TX1, 6, rfl, i_X1, by decide, gX1_28, rfl⟩
theorem FX0_9 : FL RX0 9 0 0 2 := ⟨RX0, TX0, 2, rfl, i_X0, by decide, gX0_9, rfl⟩
theorem FX0_15 : FL RX0 15 0 1 2 := ⟨RX0, TX0, 2, rfl, i_X0, by decide, gX0_15, rfl⟩
theorem FX5_9 : FL RX5 9 5 0 2 := ⟨RX5, TX5, 2, rfl, i_X5, by decide, gX5_9, rfl⟩
theorem FX5_15 : FL RX5 15 5 1 2 := ⟨RX5, TX5, 2, rfl, i_X5, by decide, gX5_15, rfl⟩
theorem FX10_11 : FL RX10 11 10 0 2 := ⟨RX10, TX10, 13, rfl, i_X10, by decide, gX10_11, rfl⟩
theorem FX10_16 : FL RX10 16 10 1 2 := ⟨RX10, TX10, 13, rfl, i_X10, by decide, gX10_16, rfl⟩
theorem FX10_23 : FL RX10 23 10 2 2 := ⟨RX10, TX10, 13, rfl, i_X10, by decide, gX10_23, rfl⟩
theorem FX10_30 : FL RX10 30 10 3 2 := ⟨RX10, TX10, 13, rfl, i_X10, by decide, gX10_30, rfl⟩
theorem FX10_34 : FL RX10 34 10 4 2 := ⟨RX10, TX10, 13, rfl, i_X10, by decide, gX10_34, rfl⟩
theorem FX10_41 : FL RX10 41 10 5 2 := ⟨RX10, TX10, 13, rfl, i_X10, by decide, gX10_41, rfl⟩
theorem FX10_47 : FL RX10 47 10 6 2 := ⟨RX10, TX10, 13, rfl, i_X10, by decide, gX10_47, rfl⟩
theorem FX10_55 : FL RX10 55 10 7 2 := ⟨RX10, TX10, 13, rfl, i_X10, by decide, gX10_55, rfl⟩
theorem FX10_62 : FL RX10 62 10 8 2 := ⟨RX10, TX10, 13, rfl, i_X10, by decide, gX10_62, rfl⟩
theorem FX10_66 : FL RX10 66 10 9 2 := ⟨RX10, TX10, 13, rfl, i_X10, by decide, gX10_66, rfl⟩
theorem FX10_72 : FL RX10 72 10 10 2 := ⟨RX10, TX10, 13, rfl, i_X10, by decide, gX10_72, rfl⟩
theorem FX10_79 : FL RX10 79 10 11 2 := ⟨RX10, TX10, 13, rfl, i_X10, by decide, gX10_79, rfl⟩
theorem FX10_86 : FL RX10 86 10 12 2 := ⟨RX10, TX10, 13, rfl, i_X10, by decide, gX10_86, rfl⟩
theorem FX11_9 : FL RX11 9 11 0 2 := ⟨RX11, TX11, 34, rfl, i_X11, by decide, gX11_9, rfl⟩
theorem FX11_13 : FL RX11 13 11 1 2 := ⟨RX11, TX11, 34, rfl, i_X11, by decide, gX11_13, rfl⟩
theorem FX11_16 : FL RX11 16 11 2 2 := ⟨RX11, TX11, 34, rfl, i_X11, by decide, gX11_16, rfl⟩
theorem FX11_19 : FL RX11 19 11 3 2 := ⟨RX11, TX11, 34, rfl, i_X11, by decide, gX11_19, rfl⟩
theorem FX11_22 : FL RX11 22 11 4 2 := ⟨RX11, TX11, 34, rfl, i_X11, by decide, gX11_22, rfl⟩
theorem FX11_25 : FL RX11 25 11 5 2 := ⟨RX11, TX11, 34, rfl, i_X11, by decide, gX11_25, rfl⟩
theorem FX11_28 : FL RX11 28 11 6 2 := ⟨RX11, TX11, 34, rfl, i_X11, by decide, gX11_28, rfl⟩
theorem FX11_146 : FL RX11 146 11 7 0 := ⟨RX11, TX11, 34, rfl, i_X11, by decide, gX11_146, rfl⟩
theorem PX11_146 : FP RX11 146 11 7 0 .int := ⟨RX11, TX11, 34, tyX11, rfl, i_X11, by decide, gX11_146, rfl, tyX11_ok, nmX11, rfl, rfl⟩
theorem FX11_31 : FL RX11 31 11 8 2 := ⟨RX11, TX11, 34, rfl, i_X11, by decide, gX11_31, rfl⟩
theorem FX11_122 : FL RX11 122 11 9 0 := ⟨RX11, TX11, 34, rfl, i_X11, by decide, gX11_122, rfl⟩
theorem PX11_122 : FP RX11 122 11 9 0 .int := ⟨RX11, TX11, 34, tyX11, rfl, i_X11, by decide, gX11_122, rfl, tyX11_ok, nmX11, rfl, rfl⟩
theorem FX11_34 : FL RX11 34 11 10 2 := ⟨RX11, TX11, 34, rfl, i_X11, by decide, gX11_34, rfl⟩
theorem FX11_84 : FL RX11 84 11 11 0 := ⟨RX11, TX11, 34, rfl, i_X11, by decide, gX11_84, rfl⟩
theorem PX11_84 : FP RX11 84 11 11 0 .int := ⟨RX11, TX11, 34, tyX11, rfl, i_X11, by decide, gX11_84, rfl, tyX11_ok, nmX11, rfl, rfl⟩
theorem FX11_37 : FL RX11 37 11 12 2 := ⟨RX11, TX11, 34, rfl, i_X11, by decide, gX11_37, rfl⟩
theorem FX11_40 : FL RX11 40 11 13 2 := ⟨RX11, TX11, 34, rfl, i_X11, by decide, gX11_40, rfl⟩
theorem FX11_43 : FL RX11 43 11 14 2 := ⟨RX11, TX11, 34, rfl, i_X11, by decide, gX11_43, rfl⟩
theorem FX11_46 : FL RX11 46 11 15 2 := ⟨RX11, TX11, 34, rfl, i_X11, by decide, gX11_46, rfl⟩
theorem FX11_49 : FL RX11 49 11 16 2 := ⟨RX11, TX11, 34, rfl, i_X11, by decide, gX11_49, rfl⟩
theorem FX11_52 : FL RX11 52 11 17 2 := ⟨RX11, TX11, 34, rfl, i_X11, by decide, gX11_52, rfl⟩
theorem FX11_125 : FL RX11 125 11 18 0 := ⟨RX11, TX11, 34, rfl, i_X11, by decide, gX11_125, rfl⟩
theorem PX11_125 : FP RX11 125 11 18 0 .int := ⟨RX11, TX11, 34, tyX11, rfl, i_X11, by decide, gX11_125, rfl, tyX11_ok, nmX11, rfl, rfl⟩
theorem FX11_136 : FL RX11 136 11 19 0 := ⟨RX11, TX11, 34, rfl, i_X11, by decide, gX11_136, rfl⟩
theorem PX11_136 : FP RX11 136 11 19 0 .int := ⟨RX11, TX11, 34, tyX11, rfl, i_X11, by decide, gX11_136, rfl, tyX11_ok, nmX11, rfl, rfl⟩
theorem FX11_132 : FL RX11 132 11 20 0 := ⟨RX11, TX11, 34, rfl, i_X11, by decide, gX11_132, rfl⟩
theorem PX11_132 : FP RX11 132 11 20 0 .boolean := ⟨RX11, TX11, 34, tyX11, rfl, i_X11, by decide, gX11_132, rfl, tyX11_ok, nmX11, rfl, rfl⟩
theorem FX11_55 : FL RX11 55 11 21 2 := ⟨RX11, TX11, 34, rfl, i_X11, by decide, gX11_55, rfl⟩
theorem FX11_59 : FL RX11 59 11 22 2 := ⟨RX11, TX11, 34, rfl, i_X11, by decide, gX11_59, rfl⟩
theorem FX11_62 : FL RX11 62 11 23 2 := ⟨RX11, TX11, 34, rfl, i_X11, by decide, gX11_62, rfl⟩
theorem FX11_65 : FL RX11 65 11 24 2 := ⟨RX11, TX11, 34, rfl, i_X11, by decide, gX11_65, rfl⟩
theorem FX11_168 : FL RX11 168 11 25 0 := ⟨RX11, TX11, 34, rfl, i_X11, by decide, gX11_168, rfl⟩
theorem PX11_168 : FP RX11 168 11 25 0 .int := ⟨RX11, TX11, 34, tyX11, rfl, i_X11, by decide, gX11_168, rfl, tyX11_ok, nmX11, rfl, rfl⟩
theorem FX11_171 : FL RX11 171 11 26 0 := ⟨RX11, TX11, 34, rfl, i_X11, by decide, gX11_171, rfl⟩
theorem PX11_171 : FP RX11 171 11 26 0 .int := ⟨RX11, TX11, 34, tyX11, rfl, i_X11, by decide, gX11_171, rfl, tyX11_ok, nmX11, rfl, rfl⟩
theorem FX11_174 : FL RX11 174 11 27 0 := ⟨RX11, TX11, 34, rfl, i_X11, by decide, gX11_174, rfl⟩
theorem PX11_174 : FP RX11 174 11 27 0 .int := ⟨RX11, TX11, 34, tyX11, rfl, i_X11, by decide, gX11_174, rfl, tyX11_ok, nmX11, rfl, rfl⟩
theorem FX11_177 : FL RX11 177 11 28 1 := ⟨RX11, TX11, 34, rfl, i_X11, by decide, gX11_177, rfl⟩
theorem PX11_177 : FP RX11 177 11 28 1 .long := ⟨RX11, TX11, 34, tyX11, rfl, i_X11, by decide, gX11_177, rfl, tyX11_ok, nmX11, rfl, rfl⟩
theorem FX11_68 : FL RX11 68 11 29 2 := ⟨RX11, TX11, 34, rfl, i_X11, by decide, gX11_68, rfl⟩
theorem FX11_71 : FL RX11 71 11 30 2 := ⟨RX11, TX11, 34, rfl, i_X11, by decide, gX11_71, rfl⟩
theorem FX11_74 : FL RX11 74 11 31 2 := ⟨RX11, TX11, 34, rfl, i_X11, by decide, gX11_74, rfl⟩
theorem FX11_77 : FL RX11 77 11 32 2 := ⟨RX11, TX11, 34, rfl, i_X11, by decide, gX11_77, rfl⟩
theorem FX11_233 : FL RX11 233 11 33 0 := ⟨RX11, TX11, 34, rfl, i_X11, by decide, gX11_233, rfl⟩
theorem PX11_233 : FP RX11 233 11 33 0 .int := ⟨RX11, TX11, 34, tyX11, rfl, i_X11, by decide, gX11_233, rfl, tyX11_ok, nmX11, rfl, rfl⟩
end
section
/-! the judgement E: from this frame, over this abstract heap, the method comes to a return with Q -/
def wlv (j : Nat) : Int64 := match j with
  | 0 => -6148914691236517206
  | 1 => -3689348814741910324
  | 2 => -1085102592571150096
  | 3 => -71777214294589696
  | 4 => -281470681808896
  | _ => -4294967296
def fav (j : Nat) : Int := match j with
  | 0 => 1 | 1 => 1 | 2 => 2 | 3 => 6 | 4 => 24 | 5 => 120 | 6 => 720 | 7 => 5040 | _ => 40320
def pav (j : Nat) : Int := match j with
  | 0 => -1 | 1 => 0 | 2 => 1 | 3 => 0 | 4 => 3 | _ => 4
/-- static tables, links to private statics of the nest -/
def Stt (G : GG) (A : Nat → Prop) (U : State) (H : Heap) : Prop :=
  (va_Z "ComparatorNetworks$Sweep" "WORD_LANES" "[J" (.ref (G.2.1 127)) A U H ∧ va_T .long (G.2.1 127) 6 (fun j => .long (wlv j)) A U H) ∧
  (va_Z "ComparatorNetworks$Chains" "FACTORIALS" "[I" (.ref (G.2.1 128)) A U H ∧ va_T .int (G.2.1 128) 9 (fun j => .int (Int32.ofInt (fav j))) A U H) ∧
  (va_Z "ComparatorNetworks$Shelf" "PARENTS" "[I" (.ref (G.2.1 129)) A U H ∧ va_T .int (G.2.1 129) 6 (fun j => .int (Int32.ofInt (pav j))) A U H)
def Nst (U : State) : Prop := ∀ w ∈ nestW, va_Nw w U
theorem nestW_warm {w : Cond} (hw : w ∈ nestW) {s U : State} (hW : s.WarmedH U.vm) (h : va_Nw w s) : va_Nw w U := by
  simp only [nestW, List.mem_cons, List.not_mem_nil, or_false] at hw
  rcases hw with rfl | rfl | rfl | rfl | rfl | rfl <;> exact va_Nw.warmM hW h
theorem nestW_same {w : Cond} (hw : w ∈ nestW) {u U : State} (e : u.vm = U.vm) (h : va_Nw w u) : va_Nw w U := by
  simp only [nestW, List.mem_cons, List.not_mem_nil, or_false] at hw
  rcases hw with rfl | rfl | rfl | rfl | rfl | rfl <;> exact va_Nw.same rfl e h
/-- the law's script, where there is one -/
def Scr (sc : Option (Nat × Nat × (Nat → Int32))) (G : GG) (A : Nat → Prop) (s : State) : Prop :=
  ∀ b L xs, sc = some (b, L, xs) → b = G.2.1 130 ∧ va_X b L xs s s.heap ∧ b < s.heap.size ∧ ¬ A b
def Cx (p : Program) (s : State) (m : MethodId) (args : Array Value) (c : Code) (M : MD) : Prop :=
  p.tables.exec = Jvm.exec ∧ c.code = M.2.1 ∧ c.maxLocals = M.2.2.1 ∧ s.vm.findClass M.1.cls = some m.cls ∧ ∀ w ∈ gtb, w.before args s = true
def Wd (G : GG) (h : Hp) (s : State) (A : Nat → Prop) (H : Heap) (locs : List Loc) : Prop :=
  va_P G.1 vwCl (ws G h) H ∧ va_D A (ws G h) ∧ va_S A s.heap H locs
def Wc (G : GG) (sc : Option (Nat × Nat × (Nat → Int32))) (s : State) (A : Nat → Prop) : Prop :=
  va_K G.1 vwCl (tys G) s ∧ (∀ q : Nat, s.heap.size ≤ q → A q) ∧ Stt G A s s.heap ∧ Nst s ∧ Scr sc G A s
def RetI (M : MD) (pc : Nat) : Option AV → Prop
  | none => decode M.2.1 pc = .ok (.return_, 1) ∧ M.2.2.2.1 = none
  | some (.inl x) => decode M.2.1 pc = .ok (.ireturn, 1) ∧ (M.2.2.2.1 = some .int ∨ M.2.2.2.1 = some .boolean ∧ (x = 0 ∨ x = 1))
  | some (.inr (.inl _)) => decode M.2.1 pc = .ok (.lreturn, 1) ∧ M.2.2.2.1 = some .long
  | some (.inr (.inr _)) => False
def lvr (G : GG) (lv : List (Nat × AV)) : List (Nat × Value) := lv.map (fun q => (q.1, rv G.2.1 q.2))
def Rm (d : Nat) (R : Room) (cells slots : Nat) : Prop := d ≤ R.frames ∧ 64 * d ≤ R.locals ∧ cells ≤ R.cells ∧ slots ≤ R.slots
def E (d : Nat) (M : MD) (pc : Nat) (lv : List (Nat × AV)) (st : List AV) (h : Hp) (Q : Option AV → Hp → Prop) : Prop :=
  wfh h → (∀ q ∈ lv, wfv q.2) → (∀ v ∈ st, wfv v) →
  ∀ (p : Program) (l : Launch) (e : Env) (R : Room) (s : State) (m : MethodId) (args : Array Value) (below : List Frame) (meth : Method) (c : Code) (H : Heap) (locs : List Loc) (cells slots : Nat) (ls : Array Slot) (G : GG) (A : Nat → Prop) (Z : State → Prop),
    Cx p s m args c M → Wc G M.2.2.2.2 s A → Rm d R cells slots → Wd G h s A H locs → lv_has ls M.2.2.1 (lvr G lv) →
    (∀ (r : Option AV) (h' : Hp) (H' : Heap) (locs' : List Loc) (ls' : Array Slot) (pc' : Nat), Q r h' → wfh h' → (∀ v, r = some v → wfv v) → Wd G h' s A H' locs' → RetI M pc' r → W p l e R s m args below meth c H' locs' cells slots Z (F0 m pc' ls' (r.toList.map (rv G.2.1)))) →
    W p l e R s m args below meth c H locs cells slots Z (F0 m pc ls (st.map (rv G.2.1)))
section EL
variable {d : Nat} {M : MD} {pc : Nat} {lv : List (Nat × AV)} {st : List AV} {h : Hp} {Q : Option AV → Hp → Prop}
theorem lvr_at {G : GG} {k i : Nat} {v : AV} (hk : lv[k]? = some (i, v)) : (lvr G lv)[k]? = some (i, rv G.2.1 v) := by
  unfold lvr
  rw [List.getElem?_map, hk]
  rfl
theorem mem_lv {k i : Nat} {v : AV} (hk : lv[k]? = some (i, v)) (hw : ∀ q ∈ lv, wfv q.2) : wfv v := hw (i, v) (List.mem_of_getElem? hk)
theorem wst {v : AV} (h1 : wfv v) (h2 : ∀ v ∈ st, wfv v) : ∀ u ∈ v :: st, wfv u := List.forall_mem_cons.mpr ⟨h1, h2⟩
/-- fewer locals -/
theorem E_sub {lv' : List (Nat × AV)} (ks : List Nat) (hl : ks.filterMap (fun k => lv[k]?) = lv') (k : E d M pc lv' st h Q) : E d M pc lv st h Q := by
  intro w1 w2 w3 p l e R s m args below meth c H locs cells slots ls G A Z C K Rr D L hret
  refine k w1 (fun q hq => ?_) w3 p l e R s m args below meth c H locs cells slots ls G A Z C K Rr D (lv_sub L ks ?_) hret
  · rw [← hl] at hq
    obtain ⟨i, -, hi⟩ := List.mem_filterMap.mp hq
    exact w2 q (List.mem_of_getElem? hi)
  · subst hl
    unfold lv_pick lvr
    rw [List.map_filterMap]
    congr 1
    funext i
    rw [List.getElem?_map]
theorem E_ireturn {x : Int} (hd : decode M.2.1 pc = .ok (.ireturn, 1)) (hb : M.2.2.2.1 = some .int ∨ M.2.2.2.1 = some .boolean ∧ (x = 0 ∨ x = 1)) (hq : Q (some (vi x)) h) : E d M pc lv [vi x] h Q := by
  intro w1 w2 w3 p l e R s m args below meth c H locs cells slots ls G A Z C K Rr D L hret
  exact hret (some (vi x)) h H locs ls pc hq w1 (fun v hv => by cases hv; exact w3 _ List.mem_cons_self) D ⟨hd, hb⟩
theorem E_lreturn {x : Int} (hd : decode M.2.1 pc = .ok (.lreturn, 1)) (hb : M.2.2.2.1 = some .long) (hq : Q (some (vl x)) h) : E d M pc lv [vl x] h Q := by
  intro w1 w2 w3 p l e R s m args below meth c H locs cells slots ls G A Z C K Rr D L hret
  exact hret (some (vl x)) h H locs ls pc hq w1 (fun v hv => by cases hv; exact w3 _ List.mem_cons_self) D ⟨hd, hb⟩
theorem E_return (hd : decode M.2.1 pc = .ok (.return_, 1)) (hb : M.2.2.2.1 = none) (hq : Q none h) : E d M pc lv [] h Q := by
  intro w1 w2 w3 p l e R s m args below meth c H locs cells slots ls G A Z C K Rr D L hret
  exact hret none h H locs ls pc hq w1 (fun v hv => by cases hv) D ⟨hd, hb⟩
theorem E_iconst {n : Int} (hd : decode M.2.1 pc = .ok (.iconst n, 1)) (hn : rg n) (k : E d M (pc + 1) lv (vi n :: st) h Q) : E d M pc lv st h Q := by
  intro w1 w2 w3 p l e R s m args below meth c H locs cells slots ls G A Z C K Rr D L hret
  exact lv_iconst C.1 C.2.1 hd rfl (k w1 w2 (wst hn w3) p l e R s m args below meth c H locs cells slots ls G A Z C K Rr D L hret)
theorem E_bipush {n : Int} (hd : decode M.2.1 pc = .ok (.bipush n, 2)) (hn : -128 ≤ n ∧ n < 128) (k : E d M (pc + 2) lv (vi n :: st) h Q) : E d M pc lv st h Q := by
  intro w1 w2 w3 p l e R s m args below meth c H locs cells slots ls G A Z C K Rr D L hret
  have hr : rg n := by unfold rg; omega
  refine lv_bipush (v := Int32.ofInt n) C.1 C.2.1 hd ?_ (k w1 w2 (wst hr w3) p l e R s m args below meth c H locs cells slots ls G A Z C K Rr D L hret)
  apply Int32.toInt_inj.mp
  rw [Int8.toInt_toInt32, o32 hr]
  exact Int8.toInt_ofInt_of_le (by simpa using hn.1) (by simpa using hn.2)
theorem E_sipush {n : Int} (hd : decode M.2.1 pc = .ok (.sipush n, 3)) (hn : -32768 ≤ n ∧ n < 32768) (k : E d M (pc + 3) lv (vi n :: st) h Q) : E d M pc lv st h Q := by
  intro w1 w2 w3 p l e R s m args below meth c H locs cells slots ls G A Z C K Rr D L hret
  have hr : rg n := by unfold rg; omega
  refine lv_sipush (v := Int32.ofInt n) C.1 C.2.1 hd ?_ (k w1 w2 (wst hr w3) p l e R s m args below meth c H locs cells slots ls G A Z C K Rr D L hret)
  apply Int32.toInt_inj.mp
  rw [Int16.toInt_toInt32, o32 hr]
  exact Int16.toInt_ofInt_of_le (by simpa using hn.1) (by simpa using hn.2)
theorem E_iload_n {kk : Fin 4} {x : Int} (q i : Nat) (hd : decode M.2.1 pc = .ok (.iload_n kk, 1)) (hi : (kk : Nat) = i) (hl : lv[q]? = some (i, vi x)) (k : E d M (pc + 1) lv (vi x :: st) h Q) : E d M pc lv st h Q := by
  intro w1 w2 w3 p l e R s m args below meth c H locs cells slots ls G A Z C K Rr D L hret
  exact lv_iload_n C.1 C.2.1 hd hi (lv_at L q (lvr_at hl)) (k w1 w2 (wst (mem_lv hl w2) w3) p l e R s m args below meth c H locs cells slots ls G A Z C K Rr D L hret)
theorem E_iload {i : Nat} {x : Int} (q : Nat) (hd : decode M.2.1 pc = .ok (.iload i, 2)) (hl : lv[q]? = some (i, vi x)) (k : E d M (pc + 2) lv (vi x :: st) h Q) : E d M pc lv st h Q := by
  intro w1 w2 w3 p l e R s m args below meth c H locs cells slots ls G A Z C K Rr D L hret
  exact lv_iload C.1 C.2.1 hd (lv_at L q (lvr_at hl)) (k w1 w2 (wst (mem_lv hl w2) w3) p l e R s m args below meth c H locs cells slots ls G A Z C K Rr D L hret)
theorem E_lload_n {kk : Fin 4} {x : Int} (q i : Nat) (hd : decode M.2.1 pc = .ok (.lload_n kk, 1)) (hi : (kk : Nat) = i) (hl : lv[q]? = some (i, vl x)) (k : E d M (pc + 1) lv (vl x :: st) h Q) : E d M pc lv st h Q := by
  intro w1 w2 w3 p l e R s m args below meth c H locs cells slots ls G A Z C K Rr D L hret
  exact lv_lload_n C.1 C.2.1 hd hi (lv_at L q (lvr_at hl)) (k w1 w2 (wst (mem_lv hl w2) w3) p l e R s m args below meth c H locs cells slots ls G A Z C K Rr D L hret)
theorem E_lload {i : Nat} {x : Int} (q : Nat) (hd : decode M.2.1 pc = .ok (.lload i, 2)) (hl : lv[q]? = some (i, vl x)) (k : E d M (pc + 2) lv (vl x :: st) h Q) : E d M pc lv st h Q := by
  intro w1 w2 w3 p l e R s m args below meth c H locs cells slots ls G A Z C K Rr D L hret
  exact lv_lload C.1 C.2.1 hd (lv_at L q (lvr_at hl)) (k w1 w2 (wst (mem_lv hl w2) w3) p l e R s m args below meth c H locs cells slots ls G A Z C K Rr D L hret)
theorem E_aload_n {kk : Fin 4} {a : Int} (q i : Nat) (hd : decode M.2.1 pc = .ok (.aload_n kk, 1)) (hi : (kk : Nat) = i) (hl : lv[q]? = some (i, vr a)) (k : E d M (pc + 1) lv (vr a :: st) h Q) : E d M pc lv st h Q := by
  intro w1 w2 w3 p l e R s m args below meth c H locs cells slots ls G A Z C K Rr D L hret
  exact lv_aload_n C.1 C.2.1 hd hi (lv_at L q (lvr_at hl)) (k w1 w2 (wst (mem_lv hl w2) w3) p l e R s m args below meth c H locs cells slots ls G A Z C K Rr D L hret)
theorem E_aload {i : Nat} {a : Int} (q : Nat) (hd : decode M.2.1 pc = .ok (.aload i, 2)) (hl : lv[q]? = some (i, vr a)) (k : E d M (pc + 2) lv (vr a :: st) h Q) : E d M pc lv st h Q := by
  intro w1 w2 w3 p l e R s m args below meth c H locs cells slots ls G A Z C K Rr D L hret
  exact lv_aload C.1 C.2.1 hd (lv_at L q (lvr_at hl)) (k w1 w2 (wst (mem_lv hl w2) w3) p l e R s m args below meth c H locs cells slots ls G A Z C K Rr D L hret)
theorem lvr_store {G : GG} {i : Nat} {v : AV} : lvr G ((i, v) :: lv.filter (fun q => !(q.1 == i) && !(q.1 + 1 == i && cat q.2 == 2))) = (i, rv G.2.1 v) :: (lvr G lv).filter (fun q => !(q.1 == i) && !(q.1 + 1 == i && q.2.category == 2)) := by
  unfold lvr
  rw [List.map_cons, List.filter_map]
  congr 3
  funext q
  simp only [Function.comp, cat_rv]
theorem lvr_store2 {G : GG} {i : Nat} {v : AV} : lvr G ((i, v) :: lv.filter (fun q => !(q.1 == i) && (!(q.1 == i + 1) && !(q.1 + 1 == i && cat q.2 == 2)))) = (i, rv G.2.1 v) :: (lvr G lv).filter (fun q => !(q.1 == i) && (!(q.1 == i + 1) && !(q.1 + 1 == i && q.2.category == 2))) := by
  unfold lvr
  rw [List.map_cons, List.filter_map]
  congr 3
  funext q
  simp only [Function.comp, cat_rv]
theorem wlv_store {lv' : List (Nat × AV)} {i : Nat} {v : AV} {f : Nat × AV → Bool} (hl : (i, v) :: lv.filter f = lv') (hv : wfv v) (hw : ∀ q ∈ lv, wfv q.2) : ∀ q ∈ lv', wfv q.2 := by
  subst hl
  exact List.forall_mem_cons.mpr ⟨hv, fun q hq => hw q (List.mem_filter.mp hq).1⟩
theorem E_istore_n {kk : Fin 4} {i : Nat} {x : Int} {lv' : List (Nat × AV)} (hd : decode M.2.1 pc = .ok (.istore_n kk, 1)) (hi : (kk : Nat) = i) (hn : i < M.2.2.1) (hl : (i, vi x) :: lv.filter (fun q => !(q.1 == i) && !(q.1 + 1 == i && cat q.2 == 2)) = lv') (k : E d M (pc + 1) lv' st h Q) : E d M pc lv (vi x :: st) h Q := by
  intro w1 w2 w3 p l e R s m args below meth c H locs cells slots ls G A Z C K Rr D L hret
  have hx : wfv (vi x) := w3 _ List.mem_cons_self
  refine lv_istore_n (lv' := lvr G lv') C.1 C.2.1 hd hi L hn (by rw [← hl]; exact (lvr_store (G := G) (v := vi x)).symm) (fun ls' L' => ?_)
  exact k w1 (wlv_store hl hx w2) (fun v hv => w3 v (List.mem_cons_of_mem _ hv)) p l e R s m args below meth c H locs cells slots ls' G A Z C K Rr D L' hret
theorem E_istore {i : Nat} {x : Int} {lv' : List (Nat × AV)} (hd : decode M.2.1 pc = .ok (.istore i, 2)) (hn : i < M.2.2.1) (hl : (i, vi x) :: lv.filter (fun q => !(q.1 == i) && !(q.1 + 1 == i && cat q.2 == 2)) = lv') (k : E d M (pc + 2) lv' st h Q) : E d M pc lv (vi x :: st) h Q := by
  intro w1 w2 w3 p l e R s m args below meth c H locs cells slots ls G A Z C K Rr D L hret
  have hx : wfv (vi x) := w3 _ List.mem_cons_self
  refine lv_istore (lv' := lvr G lv') C.1 C.2.1 hd L hn (by rw [← hl]; exact (lvr_store (G := G) (v := vi x)).symm) (fun ls' L' => ?_)
  exact k w1 (wlv_store hl hx w2) (fun v hv => w3 v (List.mem_cons_of_mem _ hv)) p l e R s m args below meth c H locs cells slots ls' G A Z C K Rr D L' hret
theorem E_astore_n {kk : Fin 4} {i : Nat} {x : Int} {lv' : List (Nat × AV)} (hd : decode M.2.1 pc = .ok (.astore_n kk, 1)) (hi : (kk : Nat) = i) (hn : i < M.2.2.1) (hl : (i, vr x) :: lv.filter (fun q => !(q.1 == i) && !(q.1 + 1 == i && cat q.2 == 2)) = lv') (k : E d M (pc + 1) lv' st h Q) : E d M pc lv (vr x :: st) h Q := by
  intro w1 w2 w3 p l e R s m args below meth c H locs cells slots ls G A Z C K Rr D L hret
  have hx : wfv (vr x) := w3 _ List.mem_cons_self
  refine lv_astore_n (lv' := lvr G lv') C.1 C.2.1 hd hi L hn (by rw [← hl]; exact (lvr_store (G := G) (v := vr x)).symm) (fun ls' L' => ?_)
  exact k w1 (wlv_store hl hx w2) (fun v hv => w3 v (List.mem_cons_of_mem _ hv)) p l e R s m args below meth c H locs cells slots ls' G A Z C K Rr D L' hret
theorem E_astore {i : Nat} {x : Int} {lv' : List (Nat × AV)} (hd : decode M.2.1 pc = .ok (.astore i, 2)) (hn : i < M.2.2.1) (hl : (i, vr x) :: lv.filter (fun q => !(q.1 == i) && !(q.1 + 1 == i && cat q.2 == 2)) = lv') (k : E d M (pc + 2) lv' st h Q) : E d M pc lv (vr x :: st) h Q := by
  intro w1 w2 w3 p l e R s m args below meth c H locs cells slots ls G A Z C K Rr D L hret
  have hx : wfv (vr x) := w3 _ List.mem_cons_self
  refine lv_astore (lv' := lvr G lv') C.1 C.2.1 hd L hn (by rw [← hl]; exact (lvr_store (G := G) (v := vr x)).symm) (fun ls' L' => ?_)
  exact k w1 (wlv_store hl hx w2) (fun v hv => w3 v (List.mem_cons_of_mem _ hv)) p l e R s m args below meth c H locs cells slots ls' G A Z C K Rr D L' hret
theorem E_lstore_n {kk : Fin 4} {i : Nat} {x : Int} {lv' : List (Nat × AV)} (hd : decode M.2.1 pc = .ok (.lstore_n kk, 1)) (hi : (kk : Nat) = i) (hn : i + 1 < M.2.2.1) (hl : (i, vl x) :: lv.filter (fun q => !(q.1 == i) && (!(q.1 == i + 1) && !(q.1 + 1 == i && cat q.2 == 2))) = lv') (k : E d M (pc + 1) lv' st h Q) : E d M pc lv (vl x :: st) h Q := by
  intro w1 w2 w3 p l e R s m args below meth c H locs cells slots ls G A Z C K Rr D L hret
  have hx : wfv (vl x) := w3 _ List.mem_cons_self
  refine lv_lstore_n (lv' := lvr G lv') C.1 C.2.1 hd hi L hn (by rw [← hl]; exact (lvr_store2 (G := G) (v := vl x)).symm) (fun ls' L' => ?_)
  exact k w1 (wlv_store hl hx w2) (fun v hv => w3 v (List.mem_cons_of_mem _ hv)) p l e R s m args below meth c H locs cells slots ls' G A Z C K Rr D L' hret
theorem E_lstore {i : Nat} {x : Int} {lv' : List (Nat × AV)} (hd : decode M.2.1 pc = .ok (.lstore i, 2)) (hn : i + 1 < M.2.2.1) (hl : (i, vl x) :: lv.filter (fun q => !(q.1 == i) && (!(q.1 == i + 1) && !(q.1 + 1 == i && cat q.2 == 2))) = lv') (k : E d M (pc + 2) lv' st h Q) : E d M pc lv (vl x :: st) h Q := by
  intro w1 w2 w3 p l e R s m args below meth c H locs cells slots ls G A Z C K Rr D L hret
  have hx : wfv (vl x) := w3 _ List.mem_cons_self
  refine lv_lstore (lv' := lvr G lv') C.1 C.2.1 hd L hn (by rw [← hl]; exact (lvr_store2 (G := G) (v := vl x)).symm) (fun ls' L' => ?_)
  exact k w1 (wlv_store hl hx w2) (fun v hv => w3 v (List.mem_cons_of_mem _ hv)) p l e R s m args below meth c H locs cells slots ls' G A Z C K Rr D L' hret
theorem E_iinc {i : Nat} {n x : Int} {lv' : List (Nat × AV)} (q : Nat) (hd : decode M.2.1 pc = .ok (.iinc i n, 3)) (hq : lv[q]? = some (i, vi x)) (hr : rg (x + n)) (hn : i < M.2.2.1) (hl : (i, vi (x + n)) :: lv.filter (fun q => !(q.1 == i) && !(q.1 + 1 == i && cat q.2 == 2)) = lv') (k : E d M (pc + 3) lv' st h Q) : E d M pc lv st h Q := by
  intro w1 w2 w3 p l e R s m args below meth c H locs cells slots ls G A Z C K Rr D L hret
  refine lv_iinc (v := Int32.ofInt (x + n)) (lv' := lvr G lv') C.1 C.2.1 hd L (lvr_at hq) (Int32.ofInt_add ..).symm hn (by rw [← hl]; exact (lvr_store (G := G) (v := vi (x + n))).symm) (fun ls' L' => ?_)
  exact k w1 (wlv_store hl hr w2) w3 p l e R s m args below meth c H locs cells slots ls' G A Z C K Rr D L' hret
theorem E_iadd {x y : Int} (hd : decode M.2.1 pc = .ok (.iadd, 1)) (hr : rg (x + y)) (k : E d M (pc + 1) lv (vi (x + y) :: st) h Q) : E d M pc lv (vi y :: vi x :: st) h Q := by
  intro w1 w2 w3 p l e R s m args below meth c H locs cells slots ls G A Z C K Rr D L hret
  have k := k w1 w2 (wst hr (fun v hv => w3 v (List.mem_cons_of_mem _ (List.mem_cons_of_mem _ hv)))) p l e R s m args below meth c H locs cells slots ls G A Z C K Rr D L hret
  refine lv_iadd C.1 C.2.1 hd ?_
  rw [← Int32.ofInt_add]
  exact k
theorem E_isub {x y : Int} (hd : decode M.2.1 pc = .ok (.isub, 1)) (hr : rg (x - y)) (k : E d M (pc + 1) lv (vi (x - y) :: st) h Q) : E d M pc lv (vi y :: vi x :: st) h Q := by
  intro w1 w2 w3 p l e R s m args below meth c H locs cells slots ls G A Z C K Rr D L hret
  have k := k w1 w2 (wst hr (fun v hv => w3 v (List.mem_cons_of_mem _ (List.mem_cons_of_mem _ hv)))) p l e R s m args below meth c H locs cells slots ls G A Z C K Rr D L hret
  refine lv_isub C.1 C.2.1 hd ?_
  rw [← Int32.ofInt_sub]
  exact k
theorem E_imul {x y : Int} (hd : decode M.2.1 pc = .ok (.imul, 1)) (hr : rg (x * y)) (k : E d M (pc + 1) lv (vi (x * y) :: st) h Q) : E d M pc lv (vi y :: vi x :: st) h Q := by
  intro w1 w2 w3 p l e R s m args below meth c H locs cells slots ls G A Z C K Rr D L hret
  have k := k w1 w2 (wst hr (fun v hv => w3 v (List.mem_cons_of_mem _ (List.mem_cons_of_mem _ hv)))) p l e R s m args below meth c H locs cells slots ls G A Z C K Rr D L hret
  refine lv_imul C.1 C.2.1 hd ?_
  rw [← Int32.ofInt_mul]
  exact k
theorem rg_toInt (x : Int32) : rg x.toInt := ⟨by have := Int32.le_toInt x; simpa using this, by have := Int32.toInt_lt x; simpa using this⟩
theorem rgL_toInt (x : Int64) : rgL x.toInt := ⟨by have := Int64.le_toInt x; simpa using this, by have := Int64.toInt_lt x; simpa using this⟩
def j_iand (x y : Int) : Int := (Int32.ofInt x &&& Int32.ofInt y).toInt
theorem E_iand {x y : Int} (hd : decode M.2.1 pc = .ok (.iand, 1)) (k : E d M (pc + 1) lv (vi (j_iand x y) :: st) h Q) : E d M pc lv (vi y :: vi x :: st) h Q := by
  intro w1 w2 w3 p l e R s m args below meth c H locs cells slots ls G A Z C K Rr D L hret
  have k := k w1 w2 (wst (rg_toInt _) (fun v hv => w3 v (List.mem_cons_of_mem _ (List.mem_cons_of_mem _ hv)))) p l e R s m args below meth c H locs cells slots ls G A Z C K Rr D L hret
  refine lv_iand C.1 C.2.1 hd ?_
  have e1 : Int32.ofInt (j_iand x y) = (Int32.ofInt x &&& Int32.ofInt y) := Int32.ofInt_toInt _
  rw [← e1]
  exact k
def j_ior (x y : Int) : Int := (Int32.ofInt x ||| Int32.ofInt y).toInt
theorem E_ior {x y : Int} (hd : decode M.2.1 pc = .ok (.ior, 1)) (k : E d M (pc + 1) lv (vi (j_ior x y) :: st) h Q) : E d M pc lv (vi y :: vi x :: st) h Q := by
  intro w1 w2 w3 p l e R s m args below meth c H locs cells slots ls G A Z C K Rr D L hret
  have k := k w1 w2 (wst (rg_toInt _) (fun v hv => w3 v (List.mem_cons_of_mem _ (List.mem_cons_of_mem _ hv)))) p l e R s m args below meth c H locs cells slots ls G A Z C K Rr D L hret
  refine lv_ior C.1 C.2.1 hd ?_
  have e1 : Int32.ofInt (j_ior x y) = (Int32.ofInt x ||| Int32.ofInt y) := Int32.ofInt_toInt _
  rw [← e1]
  exact k
def j_ixor (x y : Int) : Int := (Int32.ofInt x ^^^ Int32.ofInt y).toInt
theorem E_ixor {x y : Int} (hd : decode M.2.1 pc = .ok (.ixor, 1)) (k : E d M (pc + 1) lv (vi (j_ixor x y) :: st) h Q) : E d M pc lv (vi y :: vi x :: st) h Q := by
  intro w1 w2 w3 p l e R s m args below meth c H locs cells slots ls G A Z C K Rr D L hret
  have k := k w1 w2 (wst (rg_toInt _) (fun v hv => w3 v (List.mem_cons_of_mem _ (List.mem_cons_of_mem _ hv)))) p l e R s m args below meth c H locs cells slots ls G A Z C K Rr D L hret
  refine lv_ixor C.1 C.2.1 hd ?_
  have e1 : Int32.ofInt (j_ixor x y) = (Int32.ofInt x ^^^ Int32.ofInt y) := Int32.ofInt_toInt _
  rw [← e1]
  exact k
def j_ishl (x y : Int) : Int := (Int32.ofInt x <<< (Int32.ofInt y &&& 31)).toInt
theorem E_ishl {x y : Int} (hd : decode M.2.1 pc = .ok (.ishl, 1)) (k : E d M (pc + 1) lv (vi (j_ishl x y) :: st) h Q) : E d M pc lv (vi y :: vi x :: st) h Q := by
  intro w1 w2 w3 p l e R s m args below meth c H locs cells slots ls G A Z C K Rr D L hret
  have k := k w1 w2 (wst (rg_toInt _) (fun v hv => w3 v (List.mem_cons_of_mem _ (List.mem_cons_of_mem _ hv)))) p l e R s m args below meth c H locs cells slots ls G A Z C K Rr D L hret
  refine lv_ishl C.1 C.2.1 hd ?_
  have e1 : Int32.ofInt (j_ishl x y) = (Int32.ofInt x <<< (Int32.ofInt y &&& 31)) := Int32.ofInt_toInt _
  rw [← e1]
  exact k
def j_ishr (x y : Int) : Int := (Int32.ofInt x >>> (Int32.ofInt y &&& 31)).toInt
theorem E_ishr {x y : Int} (hd : decode M.2.1 pc = .ok (.ishr, 1)) (k : E d M (pc + 1) lv (vi (j_ishr x y) :: st) h Q) : E d M pc lv (vi y :: vi x :: st) h Q := by
  intro w1 w2 w3 p l e R s m args below meth c H locs cells slots ls G A Z C K Rr D L hret
  have k := k w1 w2 (wst (rg_toInt _) (fun v hv => w3 v (List.mem_cons_of_mem _ (List.mem_cons_of_mem _ hv)))) p l e R s m args below meth c H locs cells slots ls G A Z C K Rr D L hret
  refine lv_ishr C.1 C.2.1 hd ?_
  have e1 : Int32.ofInt (j_ishr x y) = (Int32.ofInt x >>> (Int32.ofInt y &&& 31)) := Int32.ofInt_toInt _
  rw [← e1]
  exact k
def j_iushr (x y : Int) : Int := ((Int32.ofInt x).toUInt32 >>> ((Int32.ofInt y).toUInt32 &&& Int32.toUInt32 31)).toInt32.toInt
theorem E_iushr {x y : Int} (hd : decode M.2.1 pc = .ok (.iushr, 1)) (k : E d M (pc + 1) lv (vi (j_iushr x y) :: st) h Q) : E d M pc lv (vi y :: vi x :: st) h Q := by
  intro w1 w2 w3 p l e R s m args below meth c H locs cells slots ls G A Z C K Rr D L hret
  have k := k w1 w2 (wst (rg_toInt _) (fun v hv => w3 v (List.mem_cons_of_mem _ (List.mem_cons_of_mem _ hv)))) p l e R s m args below meth c H locs cells slots ls G A Z C K Rr D L hret
  refine lv_iushr C.1 C.2.1 hd rfl ?_
  have e1 : Int32.ofInt (j_iushr x y) = ((Int32.ofInt x).toUInt32 >>> ((Int32.ofInt y).toUInt32 &&& Int32.toUInt32 31)).toInt32 := Int32.ofInt_toInt _
  rw [← e1]
  exact k
def j_idiv (x y : Int) : Int := (Int32.ofInt x / Int32.ofInt y).toInt
theorem E_idiv {x y : Int} (hd : decode M.2.1 pc = .ok (.idiv, 1)) (hy : y ≠ 0) (k : E d M (pc + 1) lv (vi (j_idiv x y) :: st) h Q) : E d M pc lv (vi y :: vi x :: st) h Q := by
  intro w1 w2 w3 p l e R s m args below meth c H locs cells slots ls G A Z C K Rr D L hret
  have k := k w1 w2 (wst (rg_toInt _) (fun v hv => w3 v (List.mem_cons_of_mem _ (List.mem_cons_of_mem _ hv)))) p l e R s m args below meth c H locs cells slots ls G A Z C K Rr D L hret
  have hry : rg y := w3 (vi y) List.mem_cons_self
  refine lv_idiv C.1 C.2.1 hd (by rw [o32_0, o32_eq hry rg0]; exact hy) ?_
  have e1 : Int32.ofInt (j_idiv x y) = (Int32.ofInt x / Int32.ofInt y) := Int32.ofInt_toInt _
  rw [← e1]
  exact k
def j_irem (x y : Int) : Int := (Int32.ofInt x - Int32.ofInt x / Int32.ofInt y * Int32.ofInt y).toInt
theorem E_irem {x y : Int} (hd : decode M.2.1 pc = .ok (.irem, 1)) (hy : y ≠ 0) (k : E d M (pc + 1) lv (vi (j_irem x y) :: st) h Q) : E d M pc lv (vi y :: vi x :: st) h Q := by
  intro w1 w2 w3 p l e R s m args below meth c H locs cells slots ls G A Z C K Rr D L hret
  have k := k w1 w2 (wst (rg_toInt _) (fun v hv => w3 v (List.mem_cons_of_mem _ (List.mem_cons_of_mem _ hv)))) p l e R s m args below meth c H locs cells slots ls G A Z C K Rr D L hret
  have hry : rg y := w3 (vi y) List.mem_cons_self
  refine lv_irem C.1 C.2.1 hd (by rw [o32_0, o32_eq hry rg0]; exact hy) ?_
  have e1 : Int32.ofInt (j_irem x y) = (Int32.ofInt x - Int32.ofInt x / Int32.ofInt y * Int32.ofInt y) := Int32.ofInt_toInt _
  rw [← e1]
  exact k
def j_ladd (x y : Int) : Int := (Int64.ofInt x + Int64.ofInt y).toInt
theorem E_ladd {x y : Int} (hd : decode M.2.1 pc = .ok (.ladd, 1)) (k : E d M (pc + 1) lv (vl (j_ladd x y) :: st) h Q) : E d M pc lv (vl y :: vl x :: st) h Q := by
  intro w1 w2 w3 p l e R s m args below meth c H locs cells slots ls G A Z C K Rr D L hret
  have k := k w1 w2 (wst (rgL_toInt _) (fun v hv => w3 v (List.mem_cons_of_mem _ (List.mem_cons_of_mem _ hv)))) p l e R s m args below meth c H locs cells slots ls G A Z C K Rr D L hret
  refine lv_ladd C.1 C.2.1 hd ?_
  have e1 : Int64.ofInt (j_ladd x y) = (Int64.ofInt x + Int64.ofInt y) := Int64.ofInt_toInt _
  rw [← e1]
  exact k
def j_lsub (x y : Int) : Int := (Int64.ofInt x - Int64.ofInt y).toInt
theorem E_lsub {x y : Int} (hd : decode M.2.1 pc = .ok (.lsub, 1)) (k : E d M (pc + 1) lv (vl (j_lsub x y) :: st) h Q) : E d M pc lv (vl y :: vl x :: st) h Q := by
  intro w1 w2 w3 p l e R s m args below meth c H locs cells slots ls G A Z C K Rr D L hret
  have k := k w1 w2 (wst (rgL_toInt _) (fun v hv => w3 v (List.mem_cons_of_mem _ (List.mem_cons_of_mem _ hv)))) p l e R s m args below meth c H locs cells slots ls G A Z C K Rr D L hret
  refine lv_lsub C.1 C.2.1 hd ?_
  have e1 : Int64.ofInt (j_lsub x y) = (Int64.ofInt x - Int64.ofInt y) := Int64.ofInt_toInt _
  rw [← e1]
  exact k
def j_lmul (x y : Int) : Int := (Int64.ofInt x * Int64.ofInt y).toInt
theorem E_lmul {x y : Int} (hd : decode M.2.1 pc = .ok (.lmul, 1)) (k : E d M (pc + 1) lv (vl (j_lmul x y) :: st) h Q) : E d M pc lv (vl y :: vl x :: st) h Q := by
  intro w1 w2 w3 p l e R s m args below meth c H locs cells slots ls G A Z C K Rr D L hret
  have k := k w1 w2 (wst (rgL_toInt _) (fun v hv => w3 v (List.mem_cons_of_mem _ (List.mem_cons_of_mem _ hv)))) p l e R s m args below meth c H locs cells slots ls G A Z C K Rr D L hret
  refine lv_lmul C.1 C.2.1 hd ?_
  have e1 : Int64.ofInt (j_lmul x y) = (Int64.ofInt x * Int64.ofInt y) := Int64.ofInt_toInt _
  rw [← e1]
  exact k
def j_land (x y : Int) : Int := (Int64.ofInt x &&& Int64.ofInt y).toInt
theorem E_land {x y : Int} (hd : decode M.2.1 pc = .ok (.land, 1)) (k : E d M (pc + 1) lv (vl (j_land x y) :: st) h Q) : E d M pc lv (vl y :: vl x :: st) h Q := by
  intro w1 w2 w3 p l e R s m args below meth c H locs cells slots ls G A Z C K Rr D L hret
  have k := k w1 w2 (wst (rgL_toInt _) (fun v hv => w3 v (List.mem_cons_of_mem _ (List.mem_cons_of_mem _ hv)))) p l e R s m args below meth c H locs cells slots ls G A Z C K Rr D L hret
  refine lv_land C.1 C.2.1 hd ?_
  have e1 : Int64.ofInt (j_land x y) = (Int64.ofInt x &&& Int64.ofInt y) := Int64.ofInt_toInt _
  rw [← e1]
  exact k
def j_lor (x y : Int) : Int := (Int64.ofInt x ||| Int64.ofInt y).toInt
theorem E_lor {x y : Int} (hd : decode M.2.1 pc = .ok (.lor, 1)) (k : E d M (pc + 1) lv (vl (j_lor x y) :: st) h Q) : E d M pc lv (vl y :: vl x :: st) h Q := by
  intro w1 w2 w3 p l e R s m args below meth c H locs cells slots ls G A Z C K Rr D L hret
  have k := k w1 w2 (wst (rgL_toInt _) (fun v hv => w3 v (List.mem_cons_of_mem _ (List.mem_cons_of_mem _ hv)))) p l e R s m args below meth c H locs cells slots ls G A Z C K Rr D L hret
  refine lv_lor C.1 C.2.1 hd ?_
  have e1 : Int64.ofInt (j_lor x y) = (Int64.ofInt x ||| Int64.ofInt y) := Int64.ofInt_toInt _
  rw [← e1]
  exact k
def j_lxor (x y : Int) : Int := (Int64.ofInt x ^^^ Int64.ofInt y).toInt
theorem E_lxor {x y : Int} (hd : decode M.2.1 pc = .ok (.lxor, 1)) (k : E d M (pc + 1) lv (vl (j_lxor x y) :: st) h Q) : E d M pc lv (vl y :: vl x :: st) h Q := by
  intro w1 w2 w3 p l e R s m args below meth c H locs cells slots ls G A Z C K Rr D L hret
  have k := k w1 w2 (wst (rgL_toInt _) (fun v hv => w3 v (List.mem_cons_of_mem _ (List.mem_cons_of_mem _ hv)))) p l e R s m args below meth c H locs cells slots ls G A Z C K Rr D L hret
  refine lv_lxor C.1 C.2.1 hd ?_
  have e1 : Int64.ofInt (j_lxor x y) = (Int64.ofInt x ^^^ Int64.ofInt y) := Int64.ofInt_toInt _
  rw [← e1]
  exact k
def j_lushr (x y : Int) : Int := ((Int64.ofInt x).toUInt64 >>> ((Int32.ofInt y).toInt64.toUInt64 &&& Int64.toUInt64 63)).toInt64.toInt
theorem E_lushr {x y : Int} (hd : decode M.2.1 pc = .ok (.lushr, 1)) (k : E d M (pc + 1) lv (vl (j_lushr x y) :: st) h Q) : E d M pc lv (vi y :: vl x :: st) h Q := by
  intro w1 w2 w3 p l e R s m args below meth c H locs cells slots ls G A Z C K Rr D L hret
  have k := k w1 w2 (wst (rgL_toInt _) (fun v hv => w3 v (List.mem_cons_of_mem _ (List.mem_cons_of_mem _ hv)))) p l e R s m args below meth c H locs cells slots ls G A Z C K Rr D L hret
  refine lv_lushr C.1 C.2.1 hd rfl ?_
  have e1 : Int64.ofInt (j_lushr x y) = ((Int64.ofInt x).toUInt64 >>> ((Int32.ofInt y).toInt64.toUInt64 &&& Int64.toUInt64 63)).toInt64 := Int64.ofInt_toInt _
  rw [← e1]
  exact k
def j_lshl (x y : Int) : Int := (Int64.ofInt x <<< ((Int32.ofInt y).toInt64 &&& 63)).toInt
theorem E_lshl {x y : Int} (hd : decode M.2.1 pc = .ok (.lshl, 1)) (k : E d M (pc + 1) lv (vl (j_lshl x y) :: st) h Q) : E d M pc lv (vi y :: vl x :: st) h Q := by
  intro w1 w2 w3 p l e R s m args below meth c H locs cells slots ls G A Z C K Rr D L hret
  have k := k w1 w2 (wst (rgL_toInt _) (fun v hv => w3 v (List.mem_cons_of_mem _ (List.mem_cons_of_mem _ hv)))) p l e R s m args below meth c H locs cells slots ls G A Z C K Rr D L hret
  refine lv_lshl C.1 C.2.1 hd rfl ?_
  have e1 : Int64.ofInt (j_lshl x y) = (Int64.ofInt x <<< ((Int32.ofInt y).toInt64 &&& 63)) := Int64.ofInt_toInt _
  rw [← e1]
  exact k
theorem E_i2l {x : Int} (hd : decode M.2.1 pc = .ok (.i2l, 1)) (k : E d M (pc + 1) lv (vl x :: st) h Q) : E d M pc lv (vi x :: st) h Q := by
  intro w1 w2 w3 p l e R s m args below meth c H locs cells slots ls G A Z C K Rr D L hret
  have hx : rg x := w3 (vi x) List.mem_cons_self
  have hxl : rgL x := ⟨by have := hx.1; omega, by have := hx.2; omega⟩
  refine lv_i2l (v := Int64.ofInt x) C.1 C.2.1 hd ?_ (k w1 w2 (wst hxl (fun v hv => w3 v (List.mem_cons_of_mem _ hv))) p l e R s m args below meth c H locs cells slots ls G A Z C K Rr D L hret)
  apply Int64.toInt_inj.mp
  rw [Int32.toInt_toInt64, o32 hx, o64 hxl]
def j_l2i (x : Int) : Int := (Int64.ofInt x).toInt32.toInt
theorem E_l2i {x : Int} (hd : decode M.2.1 pc = .ok (.l2i, 1)) (k : E d M (pc + 1) lv (vi (j_l2i x) :: st) h Q) : E d M pc lv (vl x :: st) h Q := by
  intro w1 w2 w3 p l e R s m args below meth c H locs cells slots ls G A Z C K Rr D L hret
  exact lv_l2i (v := Int32.ofInt (j_l2i x)) C.1 C.2.1 hd (Int32.ofInt_toInt _).symm (k w1 w2 (wst (rg_toInt _) (fun v hv => w3 v (List.mem_cons_of_mem _ hv))) p l e R s m args below meth c H locs cells slots ls G A Z C K Rr D L hret)
def j_lcmp (x y : Int) : Int := if y < x then 1 else if x = y then 0 else -1
theorem E_lcmp {x y : Int} (hd : decode M.2.1 pc = .ok (.lcmp, 1)) (k : E d M (pc + 1) lv (vi (j_lcmp x y) :: st) h Q) : E d M pc lv (vl y :: vl x :: st) h Q := by
  intro w1 w2 w3 p l e R s m args below meth c H locs cells slots ls G A Z C K Rr D L hret
  have hy : rgL y := w3 (vl y) List.mem_cons_self
  have hx : rgL x := w3 (vl x) (List.mem_cons_of_mem _ List.mem_cons_self)
  have hr : rg (j_lcmp x y) := by unfold j_lcmp rg; split <;> (try split) <;> omega
  have k := k w1 w2 (wst hr (fun v hv => w3 v (List.mem_cons_of_mem _ (List.mem_cons_of_mem _ hv)))) p l e R s m args below meth c H locs cells slots ls G A Z C K Rr D L hret
  refine W.lcmp C.1 C.2.1 hd ?_
  have e1 : Int32.ofInt (j_lcmp x y) = lg_cmp (Int64.ofInt x) (Int64.ofInt y) := by
    unfold j_lcmp lg_cmp
    simp only [Int64.lt_iff_toInt_lt, ← Int64.toInt_inj, o64 hx, o64 hy, gt_iff_lt]
    by_cases c1 : y < x
    · simp [c1]
    · by_cases c2 : x = y
      · simp [c2]
      · simp [c1, c2]
  rw [← e1]
  exact k
theorem E_lconst {n : Fin 2} (hd : decode M.2.1 pc = .ok (.lconst n, 1)) (k : E d M (pc + 1) lv (vl ((n : Nat) : Int) :: st) h Q) : E d M pc lv st h Q := by
  intro w1 w2 w3 p l e R s m args below meth c H locs cells slots ls G A Z C K Rr D L hret
  have hr : rgL ((n : Nat) : Int) := by unfold rgL; omega
  exact lv_lconst (v := Int64.ofInt ((n : Nat) : Int)) C.1 C.2.1 hd rfl (k w1 w2 (wst hr w3) p l e R s m args below meth c H locs cells slots ls G A Z C K Rr D L hret)
theorem E_ldc2 {i : Nat} {v : Int64} {z : Int} (hd : decode M.2.1 pc = .ok (.ldc2_w i, 3)) (hc : Cond.constantLong M.1.cls i v ∈ gtb) (hv : v.toInt = z) (k : E d M (pc + 3) lv (vl z :: st) h Q) : E d M pc lv st h Q := by
  intro w1 w2 w3 p l e R s m args below meth c H locs cells slots ls G A Z C K Rr D L hret
  subst hv
  have k := k w1 w2 (wst (rgL_toInt v) w3) p l e R s m args below meth c H locs cells slots ls G A Z C K Rr D L hret
  refine lv_ldc2 C.1 C.2.1 C.2.2.2.1 (C.2.2.2.2 _ hc) hd ?_
  have e1 : Int64.ofInt v.toInt = v := Int64.ofInt_toInt _
  rw [← e1]
  exact k
theorem E_ldcw {i : Nat} {v : Int32} {z : Int} (hd : decode M.2.1 pc = .ok (.ldc_w i, 3)) (hc : Cond.constant M.1.cls i v ∈ gtb) (hv : v.toInt = z) (k : E d M (pc + 3) lv (vi z :: st) h Q) : E d M pc lv st h Q := by
  intro w1 w2 w3 p l e R s m args below meth c H locs cells slots ls G A Z C K Rr D L hret
  subst hv
  have k := k w1 w2 (wst (rg_toInt v) w3) p l e R s m args below meth c H locs cells slots ls G A Z C K Rr D L hret
  refine lv_ldcw C.1 C.2.1 C.2.2.2.1 (C.2.2.2.2 _ hc) hd ?_
  have e1 : Int32.ofInt v.toInt = v := Int32.ofInt_toInt _
  rw [← e1]
  exact k
theorem E_icmp_eq {x y : Int} {off : Int} (tgt : Nat) (hd : decode M.2.1 pc = .ok (.if_icmp .eq off, 3)) (ht : (pc : Int) + off = (tgt : Int)) (kt : x = y → E d M tgt lv st h Q) (kf : ¬ x = y → E d M (pc + 3) lv st h Q) : E d M pc lv (vi y :: vi x :: st) h Q := by
  intro w1 w2 w3 p l e R s m args below meth c H locs cells slots ls G A Z C K Rr D L hret
  have hy : rg y := w3 (vi y) List.mem_cons_self
  have hx : rg x := w3 (vi x) (List.mem_cons_of_mem _ List.mem_cons_self)
  have cv : (Int32.ofInt x = Int32.ofInt y) ↔ (x = y) := (o32_eq hx hy)
  exact lv_icmp_eq C.1 C.2.1 hd ht (fun q => kt (cv.mp q) w1 w2 (fun v hv => w3 v (List.mem_cons_of_mem _ (List.mem_cons_of_mem _ hv))) p l e R s m args below meth c H locs cells slots ls G A Z C K Rr D L hret) (fun q => kf (fun z => q (cv.mpr z)) w1 w2 (fun v hv => w3 v (List.mem_cons_of_mem _ (List.mem_cons_of_mem _ hv))) p l e R s m args below meth c H locs cells slots ls G A Z C K Rr D L hret)
theorem E_if_eq {x : Int} {off : Int} (tgt : Nat) (hd : decode M.2.1 pc = .ok (.ifCond .eq off, 3)) (ht : (pc : Int) + off = (tgt : Int)) (kt : x = 0 → E d M tgt lv st h Q) (kf : ¬ x = 0 → E d M (pc + 3) lv st h Q) : E d M pc lv (vi x :: st) h Q := by
  intro w1 w2 w3 p l e R s m args below meth c H locs cells slots ls G A Z C K Rr D L hret
  have hx : rg x := w3 (vi x) List.mem_cons_self
  have cv : (Int32.ofInt x = 0) ↔ (x = 0) := (by rw [o32_0]; exact o32_eq hx rg0)
  exact lv_if_eq C.1 C.2.1 hd ht (fun q => kt (cv.mp q) w1 w2 (fun v hv => w3 v (List.mem_cons_of_mem _ hv)) p l e R s m args below meth c H locs cells slots ls G A Z C K Rr D L hret) (fun q => kf (fun z => q (cv.mpr z)) w1 w2 (fun v hv => w3 v (List.mem_cons_of_mem _ hv)) p l e R s m args below meth c H locs cells slots ls G A Z C K Rr D L hret)
theorem E_icmp_ne {x y : Int} {off : Int} (tgt : Nat) (hd : decode M.2.1 pc = .ok (.if_icmp .ne off, 3)) (ht : (pc : Int) + off = (tgt : Int)) (kt : x ≠ y → E d M tgt lv st h Q) (kf : x = y → E d M (pc + 3) lv st h Q) : E d M pc lv (vi y :: vi x :: st) h Q := by
  intro w1 w2 w3 p l e R s m args below meth c H locs cells slots ls G A Z C K Rr D L hret
  have hy : rg y := w3 (vi y) List.mem_cons_self
  have hx : rg x := w3 (vi x) (List.mem_cons_of_mem _ List.mem_cons_self)
  have cv : (Int32.ofInt x ≠ Int32.ofInt y) ↔ (x ≠ y) := (not_congr (o32_eq hx hy))
  exact lv_icmp_ne C.1 C.2.1 hd ht (fun q => kt (cv.mp q) w1 w2 (fun v hv => w3 v (List.mem_cons_of_mem _ (List.mem_cons_of_mem _ hv))) p l e R s m args below meth c H locs cells slots ls G A Z C K Rr D L hret) (fun q => kf ((o32_eq hx hy).mp q) w1 w2 (fun v hv => w3 v (List.mem_cons_of_mem _ (List.mem_cons_of_mem _ hv))) p l e R s m args below meth c H locs cells slots ls G A Z C K Rr D L hret)
theorem E_if_ne {x : Int} {off : Int} (tgt : Nat) (hd : decode M.2.1 pc = .ok (.ifCond .ne off, 3)) (ht : (pc : Int) + off = (tgt : Int)) (kt : x ≠ 0 → E d M tgt lv st h Q) (kf : x = 0 → E d M (pc + 3) lv st h Q) : E d M pc lv (vi x :: st) h Q := by
  intro w1 w2 w3 p l e R s m args below meth c H locs cells slots ls G A Z C K Rr D L hret
  have hx : rg x := w3 (vi x) List.mem_cons_self
  have cv : (Int32.ofInt x ≠ 0) ↔ (x ≠ 0) := (by rw [o32_0]; exact not_congr (o32_eq hx rg0))
  exact lv_if_ne C.1 C.2.1 hd ht (fun q => kt (cv.mp q) w1 w2 (fun v hv => w3 v (List.mem_cons_of_mem _ hv)) p l e R s m args below meth c H locs cells slots ls G A Z C K Rr D L hret) (fun q => kf ((o32_eq hx rg0).mp (by rw [← o32_0]; exact q)) w1 w2 (fun v hv => w3 v (List.mem_cons_of_mem _ hv)) p l e R s m args below meth c H locs cells slots ls G A Z C K Rr D L hret)
theorem E_icmp_lt {x y : Int} {off : Int} (tgt : Nat) (hd : decode M.2.1 pc = .ok (.if_icmp .lt off, 3)) (ht : (pc : Int) + off = (tgt : Int)) (kt : x < y → E d M tgt lv st h Q) (kf : ¬ x < y → E d M (pc + 3) lv st h Q) : E d M pc lv (vi y :: vi x :: st) h Q := by
  intro w1 w2 w3 p l e R s m args below meth c H locs cells slots ls G A Z C K Rr D L hret
  have hy : rg y := w3 (vi y) List.mem_cons_self
  have hx : rg x := w3 (vi x) (List.mem_cons_of_mem _ List.mem_cons_self)
  have cv : (Int32.ofInt x < Int32.ofInt y) ↔ (x < y) := (o32_lt hx hy)
  exact lv_icmp_lt C.1 C.2.1 hd ht (fun q => kt (cv.mp q) w1 w2 (fun v hv => w3 v (List.mem_cons_of_mem _ (List.mem_cons_of_mem _ hv))) p l e R s m args below meth c H locs cells slots ls G A Z C K Rr D L hret) (fun q => kf (fun z => q (cv.mpr z)) w1 w2 (fun v hv => w3 v (List.mem_cons_of_mem _ (List.mem_cons_of_mem _ hv))) p l e R s m args below meth c H locs cells slots ls G A Z C K Rr D L hret)
theorem E_if_lt {x : Int} {off : Int} (tgt : Nat) (hd : decode M.2.1 pc = .ok (.ifCond .lt off, 3)) (ht : (pc : Int) + off = (tgt : Int)) (kt : x < 0 → E d M tgt lv st h Q) (kf : ¬ x < 0 → E d M (pc + 3) lv st h Q) : E d M pc lv (vi x :: st) h Q := by
  intro w1 w2 w3 p l e R s m args below meth c H locs cells slots ls G A Z C K Rr D L hret
  have hx : rg x := w3 (vi x) List.mem_cons_self
  have cv : (Int32.ofInt x < 0) ↔ (x < 0) := (by rw [o32_0]; exact o32_lt hx rg0)
  exact lv_if_lt C.1 C.2.1 hd ht (fun q => kt (cv.mp q) w1 w2 (fun v hv => w3 v (List.mem_cons_of_mem _ hv)) p l e R s m args below meth c H locs cells slots ls G A Z C K Rr D L hret) (fun q => kf (fun z => q (cv.mpr z)) w1 w2 (fun v hv => w3 v (List.mem_cons_of_mem _ hv)) p l e R s m args below meth c H locs cells slots ls G A Z C K Rr D L hret)
theorem E_icmp_ge {x y : Int} {off : Int} (tgt : Nat) (hd : decode M.2.1 pc = .ok (.if_icmp .ge off, 3)) (ht : (pc : Int) + off = (tgt : Int)) (kt : x ≥ y → E d M tgt lv st h Q) (kf : ¬ x ≥ y → E d M (pc + 3) lv st h Q) : E d M pc lv (vi y :: vi x :: st) h Q := by
  intro w1 w2 w3 p l e R s m args below meth c H locs cells slots ls G A Z C K Rr D L hret
  have hy : rg y := w3 (vi y) List.mem_cons_self
  have hx : rg x := w3 (vi x) (List.mem_cons_of_mem _ List.mem_cons_self)
  have cv : (Int32.ofInt x ≥ Int32.ofInt y) ↔ (x ≥ y) := (o32_ge hx hy)
  exact lv_icmp_ge C.1 C.2.1 hd ht (fun q => kt (cv.mp q) w1 w2 (fun v hv => w3 v (List.mem_cons_of_mem _ (List.mem_cons_of_mem _ hv))) p l e R s m args below meth c H locs cells slots ls G A Z C K Rr D L hret) (fun q => kf (fun z => q (cv.mpr z)) w1 w2 (fun v hv => w3 v (List.mem_cons_of_mem _ (List.mem_cons_of_mem _ hv))) p l e R s m args below meth c H locs cells slots ls G A Z C K Rr D L hret)
theorem E_if_ge {x : Int} {off : Int} (tgt : Nat) (hd : decode M.2.1 pc = .ok (.ifCond .ge off, 3)) (ht : (pc : Int) + off = (tgt : Int)) (kt : x ≥ 0 → E d M tgt lv st h Q) (kf : ¬ x ≥ 0 → E d M (pc + 3) lv st h Q) : E d M pc lv (vi x :: st) h Q := by
  intro w1 w2 w3 p l e R s m args below meth c H locs cells slots ls G A Z C K Rr D L hret
  have hx : rg x := w3 (vi x) List.mem_cons_self
  have cv : (Int32.ofInt x ≥ 0) ↔ (x ≥ 0) := (by rw [o32_0]; exact o32_ge hx rg0)
  exact lv_if_ge C.1 C.2.1 hd ht (fun q => kt (cv.mp q) w1 w2 (fun v hv => w3 v (List.mem_cons_of_mem _ hv)) p l e R s m args below meth c H locs cells slots ls G A Z C K Rr D L hret) (fun q => kf (fun z => q (cv.mpr z)) w1 w2 (fun v hv => w3 v (List.mem_cons_of_mem _ hv)) p l e R s m args below meth c H locs cells slots ls G A Z C K Rr D L hret)
theorem E_icmp_gt {x y : Int} {off : Int} (tgt : Nat) (hd : decode M.2.1 pc = .ok (.if_icmp .gt off, 3)) (ht : (pc : Int) + off = (tgt : Int)) (kt : x > y → E d M tgt lv st h Q) (kf : ¬ x > y → E d M (pc + 3) lv st h Q) : E d M pc lv (vi y :: vi x :: st) h Q := by
  intro w1 w2 w3 p l e R s m args below meth c H locs cells slots ls G A Z C K Rr D L hret
  have hy : rg y := w3 (vi y) List.mem_cons_self
  have hx : rg x := w3 (vi x) (List.mem_cons_of_mem _ List.mem_cons_self)
  have cv : (Int32.ofInt x > Int32.ofInt y) ↔ (x > y) := (o32_gt hx hy)
  exact lv_icmp_gt C.1 C.2.1 hd ht (fun q => kt (cv.mp q) w1 w2 (fun v hv => w3 v (List.mem_cons_of_mem _ (List.mem_cons_of_mem _ hv))) p l e R s m args below meth c H locs cells slots ls G A Z C K Rr D L hret) (fun q => kf (fun z => q (cv.mpr z)) w1 w2 (fun v hv => w3 v (List.mem_cons_of_mem _ (List.mem_cons_of_mem _ hv))) p l e R s m args below meth c H locs cells slots ls G A Z C K Rr D L hret)
theorem E_if_gt {x : Int} {off : Int} (tgt : Nat) (hd : decode M.2.1 pc = .ok (.ifCond .gt off, 3)) (ht : (pc : Int) + off = (tgt : Int)) (kt : x > 0 → E d M tgt lv st h Q) (kf : ¬ x > 0 → E d M (pc + 3) lv st h Q) : E d M pc lv (vi x :: st) h Q := by
  intro w1 w2 w3 p l e R s m args below meth c H locs cells slots ls G A Z C K Rr D L hret
  have hx : rg x := w3 (vi x) List.mem_cons_self
  have cv : (Int32.ofInt x > 0) ↔ (x > 0) := (by rw [o32_0]; exact o32_gt hx rg0)
  exact lv_if_gt C.1 C.2.1 hd ht (fun q => kt (cv.mp q) w1 w2 (fun v hv => w3 v (List.mem_cons_of_mem _ hv)) p l e R s m args below meth c H locs cells slots ls G A Z C K Rr D L hret) (fun q => kf (fun z => q (cv.mpr z)) w1 w2 (fun v hv => w3 v (List.mem_cons_of_mem _ hv)) p l e R s m args below meth c H locs cells slots ls G A Z C K Rr D L hret)
theorem E_icmp_le {x y : Int} {off : Int} (tgt : Nat) (hd : decode M.2.1 pc = .ok (.if_icmp .le off, 3)) (ht : (pc : Int) + off = (tgt : Int)) (kt : x ≤ y → E d M tgt lv st h Q) (kf : ¬ x ≤ y → E d M (pc + 3) lv st h Q) : E d M pc lv (vi y :: vi x :: st) h Q := by
  intro w1 w2 w3 p l e R s m args below meth c H locs cells slots ls G A Z C K Rr D L hret
  have hy : rg y := w3 (vi y) List.mem_cons_self
  have hx : rg x := w3 (vi x) (List.mem_cons_of_mem _ List.mem_cons_self)
  have cv : (Int32.ofInt x ≤ Int32.ofInt y) ↔ (x ≤ y) := (o32_le hx hy)
  exact lv_icmp_le C.1 C.2.1 hd ht (fun q => kt (cv.mp q) w1 w2 (fun v hv => w3 v (List.mem_cons_of_mem _ (List.mem_cons_of_mem _ hv))) p l e R s m args below meth c H locs cells slots ls G A Z C K Rr D L hret) (fun q => kf (fun z => q (cv.mpr z)) w1 w2 (fun v hv => w3 v (List.mem_cons_of_mem _ (List.mem_cons_of_mem _ hv))) p l e R s m args below meth c H locs cells slots ls G A Z C K Rr D L hret)
theorem E_if_le {x : Int} {off : Int} (tgt : Nat) (hd : decode M.2.1 pc = .ok (.ifCond .le off, 3)) (ht : (pc : Int) + off = (tgt : Int)) (kt : x ≤ 0 → E d M tgt lv st h Q) (kf : ¬ x ≤ 0 → E d M (pc + 3) lv st h Q) : E d M pc lv (vi x :: st) h Q := by
  intro w1 w2 w3 p l e R s m args below meth c H locs cells slots ls G A Z C K Rr D L hret
  have hx : rg x := w3 (vi x) List.mem_cons_self
  have cv : (Int32.ofInt x ≤ 0) ↔ (x ≤ 0) := (by rw [o32_0]; exact o32_le hx rg0)
  exact lv_if_le C.1 C.2.1 hd ht (fun q => kt (cv.mp q) w1 w2 (fun v hv => w3 v (List.mem_cons_of_mem _ hv)) p l e R s m args below meth c H locs cells slots ls G A Z C K Rr D L hret) (fun q => kf (fun z => q (cv.mpr z)) w1 w2 (fun v hv => w3 v (List.mem_cons_of_mem _ hv)) p l e R s m args below meth c H locs cells slots ls G A Z C K Rr D L hret)
theorem E_goto {off : Int} (tgt : Nat) (hd : decode M.2.1 pc = .ok (.goto off, 3)) (ht : (pc : Int) + off = (tgt : Int)) (k : E d M tgt lv st h Q) : E d M pc lv st h Q := by
  intro w1 w2 w3 p l e R s m args below meth c H locs cells slots ls G A Z C K Rr D L hret
  exact lv_goto C.1 C.2.1 hd ht (k w1 w2 w3 p l e R s m args below meth c H locs cells slots ls G A Z C K Rr D L hret)
theorem E_tableIn {dflt lo hi : Int} {offs : Array Int} {len : Nat} {x off : Int} (tgt : Nat) (hd : decode M.2.1 pc = .ok (.tableswitch dflt lo hi offs, len)) (h1 : ¬ x < lo) (h2 : ¬ hi < x) (ho : offs[(x - lo).toNat]? = some off) (ht : (pc : Int) + off = (tgt : Int)) (k : E d M tgt lv st h Q) : E d M pc lv (vi x :: st) h Q := by
  intro w1 w2 w3 p l e R s m args below meth c H locs cells slots ls G A Z C K Rr D L hret
  have hx : rg x := w3 (vi x) List.mem_cons_self
  exact lv_tableIn C.1 C.2.1 hd (by rw [o32 hx]; exact h1) (by rw [o32 hx]; exact h2) (by rw [o32 hx]; exact ho) ht (k w1 w2 (fun v hv => w3 v (List.mem_cons_of_mem _ hv)) p l e R s m args below meth c H locs cells slots ls G A Z C K Rr D L hret)
theorem E_tableOut {dflt lo hi : Int} {offs : Array Int} {len : Nat} {x : Int} (tgt : Nat) (hd : decode M.2.1 pc = .ok (.tableswitch dflt lo hi offs, len)) (h1 : x < lo ∨ hi < x) (ht : (pc : Int) + dflt = (tgt : Int)) (k : E d M tgt lv st h Q) : E d M pc lv (vi x :: st) h Q := by
  intro w1 w2 w3 p l e R s m args below meth c H locs cells slots ls G A Z C K Rr D L hret
  have hx : rg x := w3 (vi x) List.mem_cons_self
  exact lv_tableOut C.1 C.2.1 hd (by rw [o32 hx]; exact h1) ht (k w1 w2 (fun v hv => w3 v (List.mem_cons_of_mem _ hv)) p l e R s m args below meth c H locs cells slots ls G A Z C K Rr D L hret)
theorem E_dup {v : AV} (hd : decode M.2.1 pc = .ok (.dup, 1)) (hv : cat v = 1) (k : E d M (pc + 1) lv (v :: v :: st) h Q) : E d M pc lv (v :: st) h Q := by
  intro w1 w2 w3 p l e R s m args below meth c H locs cells slots ls G A Z C K Rr D L hret
  exact lv_dup C.1 C.2.1 hd (by rw [cat_rv]; exact hv) (k w1 w2 (wst (w3 v List.mem_cons_self) w3) p l e R s m args below meth c H locs cells slots ls G A Z C K Rr D L hret)
theorem E_pop {v : AV} (hd : decode M.2.1 pc = .ok (.pop, 1)) (hv : cat v = 1) (k : E d M (pc + 1) lv st h Q) : E d M pc lv (v :: st) h Q := by
  intro w1 w2 w3 p l e R s m args below meth c H locs cells slots ls G A Z C K Rr D L hret
  exact lv_pop C.1 C.2.1 hd (by rw [cat_rv]; exact hv) (k w1 w2 (fun v hv => w3 v (List.mem_cons_of_mem _ hv)) p l e R s m args below meth c H locs cells slots ls G A Z C K Rr D L hret)
theorem E_dup2 {v u : AV} (hd : decode M.2.1 pc = .ok (.dup2, 1)) (hv : cat v = 1) (hu : cat u = 1) (k : E d M (pc + 1) lv (v :: u :: v :: u :: st) h Q) : E d M pc lv (v :: u :: st) h Q := by
  intro w1 w2 w3 p l e R s m args below meth c H locs cells slots ls G A Z C K Rr D L hret
  exact lv_dup2_11 C.1 C.2.1 hd (by rw [cat_rv]; exact hv) (by rw [cat_rv]; exact hu) (k w1 w2 (wst (w3 v List.mem_cons_self) (wst (w3 u (List.mem_cons_of_mem _ List.mem_cons_self)) w3)) p l e R s m args below meth c H locs cells slots ls G A Z C K Rr D L hret)
end EL
end
section
theorem up_nat {h : Hp} {a i v : Int} (h0 : 0 ≤ i) (j : Nat) : up h a i v a (j : Int) = if j = i.toNat then v else h a j := by
  unfold up
  by_cases hj : j = i.toNat
  · rw [if_pos hj, if_pos ⟨rfl, by omega⟩]
  · rw [if_neg hj, if_neg (fun q => hj (by omega))]
theorem ne_of_kind {a : Int} {t n x t' n' : Nat} (ha : isC a t n) (hx : shL[x]? = some (t', n')) (ht : t ≠ t') : a ≠ x := by
  intro q
  subst q
  have h2 := ha.2
  rw [Int.toNat_natCast, hx] at h2
  cases h2
  exact ht rfl
theorem sh84 : shL[84]? = some (3, 32) := by decide +kernel
theorem sh99 : shL[99]? = some (3, 256) := by decide +kernel
theorem sh103 : shL[103]? = some (0, 11) := by decide +kernel
theorem lgS_arr {a j : Int} {t n : Nat} (ha : isC a t n) (h3 : t ≠ 3) (h0 : t ≠ 0) : ¬ lgS a j := by
  intro q
  rcases q with q | q | q
  · exact ne_of_kind ha sh84 h3 q
  · exact ne_of_kind ha sh99 h3 q
  · exact ne_of_kind ha sh103 h0 q.1
theorem lgS_fld {a : Int} {ci j t : Nat} (ha : isC a 0 ci) (hf : (ftL.getD ci [])[j]? = some t) (ht : t ≠ 1) : ¬ lgS a j := by
  intro q
  rcases q with q | q | q
  · exact ne_of_kind ha sh84 (by decide) q
  · exact ne_of_kind ha sh99 (by decide) q
  · obtain ⟨q1, q2⟩ := q
    have h2 := ha.2
    rw [q1, show ((103 : Int)).toNat = 103 from rfl, sh103] at h2
    cases h2
    have hj : j = 28 := by omega
    subst hj
    have e1 : (ftL.getD 11 [])[28]? = some 1 := by decide +kernel
    rw [e1] at hf
    cases hf
    exact ht rfl
theorem lgS_long {a j : Int} {n : Nat} (ha : isC a 3 n) : lgS a j := by
  have h1 : ∀ k : Nat, k < 127 → ∀ n : Nat, shL[k]? = some (3, n) → k = 84 ∨ k = 99 := by
    have h2 : ∀ k : Nat, k < 127 → (shL[k]?.map (·.1) = some 3 → k = 84 ∨ k = 99) := by decide +kernel
    intro k hk n hn
    exact h2 k hk (by rw [hn]; rfl)
  rcases h1 _ ha.lt n ha.2 with q | q
  · exact Or.inl (by have := ha.nn; omega)
  · exact Or.inr (Or.inl (by have := ha.nn; omega))
theorem wfh_up {h : Hp} {a i v : Int} (hw : wfh h) (h1 : lgS a i → rgL v) (h2 : ¬ lgS a i → rg v) : wfh (up h a i v) := by
  intro x y
  by_cases hq : x = a ∧ y = i
  · obtain ⟨rfl, rfl⟩ := hq
    rw [up_eq]
    exact ⟨h1, h2⟩
  · have e1 : up h a i v x y = h x y := by unfold up; rw [if_neg hq]
    rw [e1]
    exact hw x y
theorem Wd_up {G : GG} {h h' : Hp} {s : State} {A : Nat → Prop} {H1 : Heap} {locs1 : List Loc} {a : Int} {e : va_E} (h0 : 0 ≤ a) (hl : a.toNat < 127) (he : cellE G h' a.toNat = e) (ho : ∀ x : Int, x ≠ a → ∀ y, h' x y = h x y) (hP : va_P G.1 vwCl ((ws G h).set a.toNat (G.2.1 a.toNat, e)) H1) (hD : va_D A ((ws G h).set a.toNat (G.2.1 a.toNat, e))) (hS : va_S A s.heap H1 locs1) : Wd G h' s A H1 locs1 := by
  have e1 := ws_set G h h' hl he (fun x hx y => ho x (by omega) y)
  rw [e1] at hP hD
  exact ⟨hP, hD, hS⟩
theorem cell_arr {G : GG} {h : Hp} {a : Int} {n : Nat} (ha : isC a 1 n) : (ws G h)[a.toNat]? = some (G.2.1 a.toNat, .inl (G.2.2 0, n, .inl (fun j : Nat => Int32.ofInt (h a j)))) := by
  rw [ws_at G h ha.lt]
  unfold cellE
  rw [ha.2, ha.nn]
  rfl
theorem cell_bool {G : GG} {h : Hp} {a : Int} {n : Nat} (ha : isC a 2 n) : (ws G h)[a.toNat]? = some (G.2.1 a.toNat, .inl (G.2.2 1, n, .inl (fun j : Nat => Int32.ofInt (h a j)))) := by
  rw [ws_at G h ha.lt]
  unfold cellE
  rw [ha.2, ha.nn]
  rfl
theorem cell_long {G : GG} {h : Hp} {a : Int} {n : Nat} (ha : isC a 3 n) : (ws G h)[a.toNat]? = some (G.2.1 a.toNat, .inl (G.2.2 2, n, .inr (.inl (fun j : Nat => Int64.ofInt (h a j))))) := by
  rw [ws_at G h ha.lt]
  unfold cellE
  rw [ha.2, ha.nn]
  rfl
theorem cell_net {G : GG} {h : Hp} {a : Int} {n : Nat} (ha : isC a 4 n) : (ws G h)[a.toNat]? = some (G.2.1 a.toNat, .inl (G.2.2 3, n, .inr (.inr (.inr (.inr (fun j : Nat => some (G.2.1 (rf a.toNat j)))))))) := by
  rw [ws_at G h ha.lt]
  unfold cellE
  rw [ha.2]
  rfl
theorem cell_shf {G : GG} {h : Hp} {a : Int} {n : Nat} (ha : isC a 5 n) : (ws G h)[a.toNat]? = some (G.2.1 a.toNat, .inl (G.2.2 4, n, .inr (.inr (.inr (.inr (fun j : Nat => some (G.2.1 (rf a.toNat j)))))))) := by
  rw [ws_at G h ha.lt]
  unfold cellE
  rw [ha.2]
  rfl
theorem cell_obj {G : GG} {h : Hp} {a : Int} {ci : Nat} (ha : isC a 0 ci) : (ws G h)[a.toNat]? = some (G.2.1 a.toNat, .inr (ci, fsOf G.2.1 h a.toNat ci)) := by
  rw [ws_at G h ha.lt]
  unfold cellE
  rw [ha.2]
  rfl
theorem fs_at {ad : Nat → Nat} {h : Hp} {k ci j t : Nat} (hf : (ftL.getD ci [])[j]? = some t) : (fsOf ad h k ci)[j]? = some (slotv ad h k t j) := by
  unfold fsOf
  rw [List.getElem?_mapIdx, hf]
  rfl
theorem lgS_fldL {a : Int} {ci j : Nat} (ha : isC a 0 ci) (hf : (ftL.getD ci [])[j]? = some 1) : lgS a j := by
  have h1 : ∀ k : Nat, k < 12 → ∀ j : Nat, j < 34 → ((ftL.getD k [])[j]? = some 1 → k = 11 ∧ j = 28) := by decide +kernel
  have h2 : ∀ k : Nat, k < 127 → (shL[k]? = some (0, 11) → k = 103) := by decide +kernel
  have h4 : ci < 12 := by
    rcases Nat.lt_or_ge ci 12 with q | q
    · exact q
    · have e1 : ftL.getD ci [] = [] := by
        rw [List.getD_eq_getElem?_getD, List.getElem?_eq_none (by simpa [ftL] using q)]
        rfl
      rw [e1] at hf
      cases hf
  have h3 : j < 34 := by
    have hj := (List.getElem?_eq_some_iff.mp hf).1
    have h5 : ∀ k : Nat, k < 12 → (ftL.getD k []).length ≤ 34 := by decide +kernel
    have := h5 ci h4
    omega
  obtain ⟨e1, e2⟩ := h1 ci h4 j h3 hf
  subst e1; subst e2
  have e3 := h2 _ ha.lt ha.2
  exact Or.inr (Or.inr ⟨by have := ha.nn; omega, rfl⟩)
theorem cell_put {G : GG} {h : Hp} {a v : Int} {ci j t : Nat} {x : Value} (ha : isC a 0 ci) (hf : (ftL.getD ci [])[j]? = some t) (hx : slotv G.2.1 (up h a j v) a.toNat t j = x) : cellE G (up h a j v) a.toNat = .inr (ci, (fsOf G.2.1 h a.toNat ci).set j x) := by
  unfold cellE
  rw [ha.2]
  simp only []
  congr 2
  refine List.ext_getElem? fun n => ?_
  rw [List.getElem?_set]
  by_cases hn : j = n
  · subst hn
    rw [if_pos rfl, if_pos (List.getElem?_eq_some_iff.mp (fs_at (ad := G.2.1) (h := h) (k := a.toNat) hf)).1, fs_at hf, hx]
  · rw [if_neg hn]
    unfold fsOf
    rw [List.getElem?_mapIdx, List.getElem?_mapIdx]
    congr 1
    funext t'
    unfold slotv
    rw [up_ne2 (by omega)]
section EH
variable {d : Nat} {M : MD} {pc : Nat} {lv : List (Nat × AV)} {st : List AV} {h : Hp} {Q : Option AV → Hp → Prop}
theorem E_iaload {a i : Int} {n : Nat} (hd : decode M.2.1 pc = .ok (.iaload, 1)) (ha : isC a 1 n) (h0 : 0 ≤ i) (hi : i < n) (k : E d M (pc + 1) lv (vi (h a i) :: st) h Q) : E d M pc lv (vi i :: vr a :: st) h Q := by
  intro w1 w2 w3 p l e R s m args below meth c H locs cells slots ls G A Z C K Rr D L hret
  have hr : rg i := w3 (vi i) List.mem_cons_self
  refine va_iald C.1 C.2.1 K.1 D.1 a.toNat 0 (cell_arr ha) rfl (o32_in h0 hi hr) hd ?_
  have e1 : ((i.toNat : Nat) : Int) = i := Int.toNat_of_nonneg h0
  rw [o32_clamp hr, e1]
  exact k w1 w2 (wst ((w1 a i).2 (lgS_arr ha (by decide) (by decide))) (fun v hv => w3 v (List.mem_cons_of_mem _ (List.mem_cons_of_mem _ hv)))) p l e R s m args below meth c H locs cells slots ls G A Z C K Rr D L hret
theorem E_baload {a i : Int} {n : Nat} (hd : decode M.2.1 pc = .ok (.baload, 1)) (ha : isC a 2 n) (h0 : 0 ≤ i) (hi : i < n) (k : E d M (pc + 1) lv (vi (h a i) :: st) h Q) : E d M pc lv (vi i :: vr a :: st) h Q := by
  intro w1 w2 w3 p l e R s m args below meth c H locs cells slots ls G A Z C K Rr D L hret
  have hr : rg i := w3 (vi i) List.mem_cons_self
  refine va_zald C.1 C.2.1 K.1 D.1 a.toNat 1 (cell_bool ha) rfl (o32_in h0 hi hr) hd ?_
  have e1 : ((i.toNat : Nat) : Int) = i := Int.toNat_of_nonneg h0
  rw [o32_clamp hr, e1]
  exact k w1 w2 (wst ((w1 a i).2 (lgS_arr ha (by decide) (by decide))) (fun v hv => w3 v (List.mem_cons_of_mem _ (List.mem_cons_of_mem _ hv)))) p l e R s m args below meth c H locs cells slots ls G A Z C K Rr D L hret
theorem E_laload {a i : Int} {n : Nat} (hd : decode M.2.1 pc = .ok (.laload, 1)) (ha : isC a 3 n) (h0 : 0 ≤ i) (hi : i < n) (k : E d M (pc + 1) lv (vl (h a i) :: st) h Q) : E d M pc lv (vi i :: vr a :: st) h Q := by
  intro w1 w2 w3 p l e R s m args below meth c H locs cells slots ls G A Z C K Rr D L hret
  have hr : rg i := w3 (vi i) List.mem_cons_self
  refine va_lald C.1 C.2.1 K.1 D.1 a.toNat 2 (cell_long ha) rfl (o32_in h0 hi hr) hd ?_
  have e1 : ((i.toNat : Nat) : Int) = i := Int.toNat_of_nonneg h0
  rw [o32_clamp hr, e1]
  exact k w1 w2 (wst ((w1 a i).1 (lgS_long ha)) (fun v hv => w3 v (List.mem_cons_of_mem _ (List.mem_cons_of_mem _ hv)))) p l e R s m args below meth c H locs cells slots ls G A Z C K Rr D L hret
def rfI (a j : Int) : Int := ((rf a.toNat j.toNat : Nat) : Int)
theorem E_aaloadN {a i b : Int} {n : Nat} (hd : decode M.2.1 pc = .ok (.aaload, 1)) (ha : isC a 4 n) (h0 : 0 ≤ i) (hi : i < n) (hb : rfI a i = b) (k : E d M (pc + 1) lv (vr b :: st) h Q) : E d M pc lv (vi i :: vr a :: st) h Q := by
  intro w1 w2 w3 p l e R s m args below meth c H locs cells slots ls G A Z C K Rr D L hret
  have hr : rg i := w3 (vi i) List.mem_cons_self
  have k := k w1 w2 (wst trivial (fun v hv => w3 v (List.mem_cons_of_mem _ (List.mem_cons_of_mem _ hv)))) p l e R s m args below meth c H locs cells slots ls G A Z C K Rr D L hret
  refine va_aldq C.1 C.2.1 K.1 D.1 a.toNat 3 (cell_net ha) rfl (o32_in h0 hi hr) hd ?_
  rw [o32_clamp hr]
  subst hb
  exact k
theorem E_aaloadS {a i b : Int} {n : Nat} (hd : decode M.2.1 pc = .ok (.aaload, 1)) (ha : isC a 5 n) (h0 : 0 ≤ i) (hi : i < n) (hb : rfI a i = b) (k : E d M (pc + 1) lv (vr b :: st) h Q) : E d M pc lv (vi i :: vr a :: st) h Q := by
  intro w1 w2 w3 p l e R s m args below meth c H locs cells slots ls G A Z C K Rr D L hret
  have hr : rg i := w3 (vi i) List.mem_cons_self
  have k := k w1 w2 (wst trivial (fun v hv => w3 v (List.mem_cons_of_mem _ (List.mem_cons_of_mem _ hv)))) p l e R s m args below meth c H locs cells slots ls G A Z C K Rr D L hret
  refine va_aldq C.1 C.2.1 K.1 D.1 a.toNat 4 (cell_shf ha) rfl (o32_in h0 hi hr) hd ?_
  rw [o32_clamp hr]
  subst hb
  exact k
theorem E_iastore {a i v : Int} {n : Nat} (hd : decode M.2.1 pc = .ok (.iastore, 1)) (ha : isC a 1 n) (h0 : 0 ≤ i) (hi : i < n) (k : E d M (pc + 1) lv st (up h a i v) Q) : E d M pc lv (vi v :: vi i :: vr a :: st) h Q := by
  intro w1 w2 w3 p l e R s m args below meth c H locs cells slots ls G A Z C K Rr D L hret
  have hr : rg i := w3 (vi i) (List.mem_cons_of_mem _ List.mem_cons_self)
  have hrv : rg v := w3 (vi v) List.mem_cons_self
  refine va_iast C.1 C.2.1 K.1 D.1 D.2.1 D.2.2 a.toNat 0 (cell_arr ha) rfl (o32_in h0 hi hr) hd (fun H1 locs1 hP hD hS => ?_)
  refine k (wfh_up w1 (fun q => absurd q (lgS_arr ha (by decide) (by decide))) (fun _ => hrv)) w2 (fun v hv => w3 v (List.mem_cons_of_mem _ (List.mem_cons_of_mem _ (List.mem_cons_of_mem _ hv)))) p l e R s m args below meth c H1 locs1 cells slots ls G A Z C K Rr (Wd_up ha.1 ha.lt ?_ (fun x hx y => up_ne hx) hP hD hS) L hret
  unfold cellE
  rw [ha.2, ha.nn, o32_clamp hr]
  show (Sum.inl (G.2.2 0, n, Sum.inl (fun j : Nat => Int32.ofInt (up h a i v a j))) : va_E) = _
  congr 4
  funext j
  rw [up_nat h0]
  unfold upd
  split <;> rfl
theorem E_bastore {a i v : Int} {n : Nat} (hd : decode M.2.1 pc = .ok (.bastore, 1)) (ha : isC a 2 n) (h0 : 0 ≤ i) (hi : i < n) (hv : v = 0 ∨ v = 1) (k : E d M (pc + 1) lv st (up h a i v) Q) : E d M pc lv (vi v :: vi i :: vr a :: st) h Q := by
  intro w1 w2 w3 p l e R s m args below meth c H locs cells slots ls G A Z C K Rr D L hret
  have hr : rg i := w3 (vi i) (List.mem_cons_of_mem _ List.mem_cons_self)
  have hrv : rg v := w3 (vi v) List.mem_cons_self
  have hnar : vp_nar .boolean (Int32.ofInt v) = Int32.ofInt v := by rcases hv with rfl | rfl <;> decide
  refine va_zast C.1 C.2.1 K.1 D.1 D.2.1 D.2.2 a.toNat 1 (cell_bool ha) rfl (o32_in h0 hi hr) hd (fun H1 locs1 hP hD hS => ?_)
  refine k (wfh_up w1 (fun q => absurd q (lgS_arr ha (by decide) (by decide))) (fun _ => hrv)) w2 (fun v hv => w3 v (List.mem_cons_of_mem _ (List.mem_cons_of_mem _ (List.mem_cons_of_mem _ hv)))) p l e R s m args below meth c H1 locs1 cells slots ls G A Z C K Rr (Wd_up ha.1 ha.lt ?_ (fun x hx y => up_ne hx) hP hD hS) L hret
  unfold cellE
  rw [ha.2, ha.nn, o32_clamp hr, hnar]
  show (Sum.inl (G.2.2 1, n, Sum.inl (fun j : Nat => Int32.ofInt (up h a i v a j))) : va_E) = _
  congr 4
  funext j
  rw [up_nat h0]
  unfold upd
  split <;> rfl
theorem E_lastore {a i v : Int} {n : Nat} (hd : decode M.2.1 pc = .ok (.lastore, 1)) (ha : isC a 3 n) (h0 : 0 ≤ i) (hi : i < n) (k : E d M (pc + 1) lv st (up h a i v) Q) : E d M pc lv (vl v :: vi i :: vr a :: st) h Q := by
  intro w1 w2 w3 p l e R s m args below meth c H locs cells slots ls G A Z C K Rr D L hret
  have hr : rg i := w3 (vi i) (List.mem_cons_of_mem _ List.mem_cons_self)
  have hrv : rgL v := w3 (vl v) List.mem_cons_self
  refine va_last C.1 C.2.1 K.1 D.1 D.2.1 D.2.2 a.toNat 2 (cell_long ha) rfl (o32_in h0 hi hr) hd (fun H1 locs1 hP hD hS => ?_)
  refine k (wfh_up w1 (fun _ => hrv) (fun q => absurd (lgS_long ha) q)) w2 (fun v hv => w3 v (List.mem_cons_of_mem _ (List.mem_cons_of_mem _ (List.mem_cons_of_mem _ hv)))) p l e R s m args below meth c H1 locs1 cells slots ls G A Z C K Rr (Wd_up ha.1 ha.lt ?_ (fun x hx y => up_ne hx) hP hD hS) L hret
  unfold cellE
  rw [ha.2, ha.nn, o32_clamp hr]
  show (Sum.inl (G.2.2 2, n, Sum.inr (Sum.inl (fun j : Nat => Int64.ofInt (up h a i v a j)))) : va_E) = _
  congr 5
  funext j
  rw [up_nat h0]
  unfold vp_updL
  split <;> rfl
theorem E_arraylength {a : Int} {n : Nat} (hd : decode M.2.1 pc = .ok (.arraylength, 1)) (ha : isC a 1 n) (hn : n < 2147483648) (k : E d M (pc + 1) lv (vi n :: st) h Q) : E d M pc lv (vr a :: st) h Q := by
  intro w1 w2 w3 p l e R s m args below meth c H locs cells slots ls G A Z C K Rr D L hret
  refine va_alen (v := Int32.ofInt n) C.1 C.2.1 K.1 D.1 a.toNat 0 (cell_arr ha) (ty := .int) rfl rfl hd ?_
  exact k w1 w2 (wst (show rg n from ⟨by omega, by omega⟩) (fun v hv => w3 v (List.mem_cons_of_mem _ hv))) p l e R s m args below meth c H locs cells slots ls G A Z C K Rr D L hret
theorem E_arraylengthN {a : Int} {n : Nat} (hd : decode M.2.1 pc = .ok (.arraylength, 1)) (ha : isC a 4 n) (hn : n < 2147483648) (k : E d M (pc + 1) lv (vi n :: st) h Q) : E d M pc lv (vr a :: st) h Q := by
  intro w1 w2 w3 p l e R s m args below meth c H locs cells slots ls G A Z C K Rr D L hret
  refine va_alen (v := Int32.ofInt n) C.1 C.2.1 K.1 D.1 a.toNat 3 (cell_net ha) (ty := .object "ComparatorNetworks$Network") rfl rfl hd ?_
  exact k w1 w2 (wst (show rg n from ⟨by omega, by omega⟩) (fun v hv => w3 v (List.mem_cons_of_mem _ hv))) p l e R s m args below meth c H locs cells slots ls G A Z C K Rr D L hret
theorem E_getI {a : Int} {ci j idx : Nat} (hd : decode M.2.1 pc = .ok (.getfield idx, 3)) (hf : FL M.1.cls idx ci j 0) (ha : isC a 0 ci) (k : E d M (pc + 3) lv (vi (h a (j : Nat)) :: st) h Q) : E d M pc lv (vr a :: st) h Q := by
  intro w1 w2 w3 p l e R s m args below meth c H locs cells slots ls G A Z C K Rr D L hret
  obtain ⟨C0, T, N, hc, hin, hj, hlk, hft⟩ := hf
  refine va_get (ci := ci) (v := slotv G.2.1 h a.toNat 0 j) (C := C0) (T := T) (N := N) C.1 C.2.1 C.2.2.2.2 hin C.2.2.2.1 K.1 D.1 a.toNat (cell_obj ha) hc j hj (C.2.2.2.2 _ hlk) (fun _ q => q) (fs_at hft) hd ?_
  have e1 : slotv G.2.1 h a.toNat 0 j = rv G.2.1 (vi (h a (j : Nat))) := by unfold slotv rv; simp only [ha.nn]
  rw [e1]
  exact k w1 w2 (wst ((w1 a j).2 (lgS_fld ha hft (by decide))) (fun v hv => w3 v (List.mem_cons_of_mem _ hv))) p l e R s m args below meth c H locs cells slots ls G A Z C K Rr D L hret
theorem E_getL {a : Int} {ci j idx : Nat} (hd : decode M.2.1 pc = .ok (.getfield idx, 3)) (hf : FL M.1.cls idx ci j 1) (ha : isC a 0 ci) (k : E d M (pc + 3) lv (vl (h a (j : Nat)) :: st) h Q) : E d M pc lv (vr a :: st) h Q := by
  intro w1 w2 w3 p l e R s m args below meth c H locs cells slots ls G A Z C K Rr D L hret
  obtain ⟨C0, T, N, hc, hin, hj, hlk, hft⟩ := hf
  refine va_get (ci := ci) (v := slotv G.2.1 h a.toNat 1 j) (C := C0) (T := T) (N := N) C.1 C.2.1 C.2.2.2.2 hin C.2.2.2.1 K.1 D.1 a.toNat (cell_obj ha) hc j hj (C.2.2.2.2 _ hlk) (fun _ q => q) (fs_at hft) hd ?_
  have e1 : slotv G.2.1 h a.toNat 1 j = rv G.2.1 (vl (h a (j : Nat))) := by unfold slotv rv; simp only [ha.nn]
  rw [e1]
  have hlg : lgS a j := lgS_fldL ha hft
  exact k w1 w2 (wst ((w1 a j).1 hlg) (fun v hv => w3 v (List.mem_cons_of_mem _ hv))) p l e R s m args below meth c H locs cells slots ls G A Z C K Rr D L hret
theorem E_getR {a b : Int} {ci j idx : Nat} (hd : decode M.2.1 pc = .ok (.getfield idx, 3)) (hf : FL M.1.cls idx ci j 2) (ha : isC a 0 ci) (hb : rfI a j = b) (k : E d M (pc + 3) lv (vr b :: st) h Q) : E d M pc lv (vr a :: st) h Q := by
  intro w1 w2 w3 p l e R s m args below meth c H locs cells slots ls G A Z C K Rr D L hret
  obtain ⟨C0, T, N, hc, hin, hj, hlk, hft⟩ := hf
  have k := k w1 w2 (wst trivial (fun v hv => w3 v (List.mem_cons_of_mem _ hv))) p l e R s m args below meth c H locs cells slots ls G A Z C K Rr D L hret
  refine va_get (ci := ci) (v := slotv G.2.1 h a.toNat 2 j) (C := C0) (T := T) (N := N) C.1 C.2.1 C.2.2.2.2 hin C.2.2.2.1 K.1 D.1 a.toNat (cell_obj ha) hc j hj (C.2.2.2.2 _ hlk) (fun _ q => q) (fs_at hft) hd ?_
  subst hb
  exact k
theorem E_putI {a v : Int} {ci j idx : Nat} (hd : decode M.2.1 pc = .ok (.putfield idx, 3)) (hf : FP M.1.cls idx ci j 0 .int) (ha : isC a 0 ci) (k : E d M (pc + 3) lv st (up h a j v) Q) : E d M pc lv (vi v :: vr a :: st) h Q := by
  intro w1 w2 w3 p l e R s m args below meth c H locs cells slots ls G A Z C K Rr D L hret
  have hrv : rg v := w3 (vi v) List.mem_cons_self
  obtain ⟨C0, T, N, ty0, hc, hin, hj, hlk, hft, hty, hnm, hfin, htj⟩ := hf
  have hln : j < (fsOf G.2.1 h a.toNat ci).length := (List.getElem?_eq_some_iff.mp (fs_at (ad := G.2.1) (h := h) (k := a.toNat) hft)).1
  refine va_put (ci := ci) (v := .int (Int32.ofInt v)) (ty := .int) (C := C0) (T := T) (N := N) C.1 C.2.1 C.2.2.2.2 hin ty0 hty hnm C.2.2.2.1 K.1 D.1 D.2.1 D.2.2 a.toNat (cell_obj ha) hc j hj (C.2.2.2.2 _ hlk) (fun _ q => q) hfin (by rw [hty j hj, htj]) rfl rfl hln hd (fun H1 locs1 hP hD hS => ?_)
  refine k (wfh_up w1 (fun q => absurd q (lgS_fld ha hft (by decide))) (fun _ => hrv)) w2 (fun v hv => w3 v (List.mem_cons_of_mem _ (List.mem_cons_of_mem _ hv))) p l e R s m args below meth c H1 locs1 cells slots ls G A Z C K Rr (Wd_up ha.1 ha.lt ?_ (fun x hx y => up_ne hx) hP hD hS) L hret
  exact cell_put ha hft (by unfold slotv; simp only [ha.nn, up_eq])
theorem E_putZ {a v : Int} {ci j idx : Nat} (hd : decode M.2.1 pc = .ok (.putfield idx, 3)) (hf : FP M.1.cls idx ci j 0 .boolean) (ha : isC a 0 ci) (hv : v = 0 ∨ v = 1) (k : E d M (pc + 3) lv st (up h a j v) Q) : E d M pc lv (vi v :: vr a :: st) h Q := by
  intro w1 w2 w3 p l e R s m args below meth c H locs cells slots ls G A Z C K Rr D L hret
  have hrv : rg v := w3 (vi v) List.mem_cons_self
  obtain ⟨C0, T, N, ty0, hc, hin, hj, hlk, hft, hty, hnm, hfin, htj⟩ := hf
  have hln : j < (fsOf G.2.1 h a.toNat ci).length := (List.getElem?_eq_some_iff.mp (fs_at (ad := G.2.1) (h := h) (k := a.toNat) hft)).1
  refine va_put (ci := ci) (v := .int (Int32.ofInt v)) (ty := .boolean) (C := C0) (T := T) (N := N) C.1 C.2.1 C.2.2.2.2 hin ty0 hty hnm C.2.2.2.1 K.1 D.1 D.2.1 D.2.2 a.toNat (cell_obj ha) hc j hj (C.2.2.2.2 _ hlk) (fun _ q => q) hfin (by rw [hty j hj, htj]) (by rcases hv with rfl | rfl <;> rfl) (by rcases hv with rfl | rfl <;> rfl) hln hd (fun H1 locs1 hP hD hS => ?_)
  refine k (wfh_up w1 (fun q => absurd q (lgS_fld ha hft (by decide))) (fun _ => hrv)) w2 (fun v hv => w3 v (List.mem_cons_of_mem _ (List.mem_cons_of_mem _ hv))) p l e R s m args below meth c H1 locs1 cells slots ls G A Z C K Rr (Wd_up ha.1 ha.lt ?_ (fun x hx y => up_ne hx) hP hD hS) L hret
  exact cell_put ha hft (by unfold slotv; simp only [ha.nn, up_eq])
theorem E_putL {a v : Int} {ci j idx : Nat} (hd : decode M.2.1 pc = .ok (.putfield idx, 3)) (hf : FP M.1.cls idx ci j 1 .long) (ha : isC a 0 ci) (k : E d M (pc + 3) lv st (up h a j v) Q) : E d M pc lv (vl v :: vr a :: st) h Q := by
  intro w1 w2 w3 p l e R s m args below meth c H locs cells slots ls G A Z C K Rr D L hret
  have hrv : rgL v := w3 (vl v) List.mem_cons_self
  obtain ⟨C0, T, N, ty0, hc, hin, hj, hlk, hft, hty, hnm, hfin, htj⟩ := hf
  have hln : j < (fsOf G.2.1 h a.toNat ci).length := (List.getElem?_eq_some_iff.mp (fs_at (ad := G.2.1) (h := h) (k := a.toNat) hft)).1
  refine va_put (ci := ci) (v := .long (Int64.ofInt v)) (ty := .long) (C := C0) (T := T) (N := N) C.1 C.2.1 C.2.2.2.2 hin ty0 hty hnm C.2.2.2.1 K.1 D.1 D.2.1 D.2.2 a.toNat (cell_obj ha) hc j hj (C.2.2.2.2 _ hlk) (fun _ q => q) hfin (by rw [hty j hj, htj]) rfl rfl hln hd (fun H1 locs1 hP hD hS => ?_)
  refine k (wfh_up w1 (fun _ => hrv) (fun q => absurd (lgS_fldL ha hft) q)) w2 (fun v hv => w3 v (List.mem_cons_of_mem _ (List.mem_cons_of_mem _ hv))) p l e R s m args below meth c H1 locs1 cells slots ls G A Z C K Rr (Wd_up ha.1 ha.lt ?_ (fun x hx y => up_ne hx) hP hD hS) L hret
  exact cell_put ha hft (by unfold slotv; simp only [ha.nn, up_eq])
end EH
end
section
/-! contracts over the abstract heap, calls -/
def AA (G : GG) (sz : Nat) : Nat → Prop := fun q => (∃ k, k < 127 ∧ q = G.2.1 k) ∨ sz ≤ q
def rm (d : Nat) : Room := { frames := d, cells := 0, slots := 0, locals := 64 * d }
def wsM (M : MD) : List Cond := Cond.code M.1 M.2.1 M.2.2.1 M.2.2.2.1 :: gtb
def PcM (G : GG) (sz : Nat) (h : Hp) (av : List AV) : Array Value → State → Prop := va_Pc (av.map (rv G.2.1)) (fun U => U.heap.size = sz ∧ va_P G.1 vwCl (ws G h) U.heap ∧ va_D (AA G sz) (ws G h) ∧ va_K G.1 vwCl (tys G) U ∧ Stt G (AA G sz) U U.heap ∧ Nst U)
def QcM (G : GG) (sz : Nat) (Q : Option AV → Hp → Prop) : Array Value → State → Outcome → State → Prop := fun _ st oc t => (∃ (r : Option AV) (h' : Hp), oc = .returned (r.map (rv G.2.1)) ∧ Q r h' ∧ wfh h' ∧ (∀ v, r = some v → wfv v) ∧ va_P G.1 vwCl (ws G h') t.heap) ∧ va_F (AA G sz) st t
def Ct (d : Nat) (M : MD) (av : List AV) (h : Hp) (Q : Option AV → Hp → Prop) : Prop := wfh h → (∀ v ∈ av, wfv v) → ∀ (l : Launch) (G : GG) (sz : Nat), Met l M.1 (wsM M) (rm d) (PcM G sz h av) (QcM G sz Q) 0 0 (AA G sz)
def CI (d : Nat) (M : MD) (av : List AV) (h : Hp) (Q : Int → Hp → Prop) : Prop := Ct d M av h (fun r h' => ∃ x, r = some (vi x) ∧ Q x h')
def CV (d : Nat) (M : MD) (av : List AV) (h : Hp) (Q : Hp → Prop) : Prop := Ct d M av h (fun r h' => r = none ∧ Q h')
def CL (d : Nat) (M : MD) (av : List AV) (h : Hp) (Q : Int → Hp → Prop) : Prop := Ct d M av h (fun r h' => ∃ x, r = some (vl x) ∧ Q x h')
def qi (Q : Int → Hp → Prop) : Option AV → Hp → Prop := fun r h' => ∃ x, r = some (vi x) ∧ Q x h'
def qv (Q : Hp → Prop) : Option AV → Hp → Prop := fun r h' => r = none ∧ Q h'
def ql (Q : Int → Hp → Prop) : Option AV → Hp → Prop := fun r h' => ∃ x, r = some (vl x) ∧ Q x h'
theorem Ct_mono {d : Nat} {M : MD} {av : List AV} {h : Hp} {Q Q' : Option AV → Hp → Prop} (k : Ct d M av h Q) (hq : ∀ r h', Q r h' → Q' r h') : Ct d M av h Q' := by
  intro w1 w2 l G sz
  refine MetFree.mono (k w1 w2 l G sz) (fun _ _ q => q) (fun _ _ _ _ _ q => q) (fun a st o t _ q => ?_)
  obtain ⟨⟨⟨r, h', e1, e2, e3⟩, e4⟩, e5⟩ := q
  exact ⟨⟨⟨r, h', e1, hq r h' e2, e3⟩, e4⟩, e5⟩
theorem CI_mono {d : Nat} {M : MD} {av : List AV} {h : Hp} {Q Q' : Int → Hp → Prop} (k : CI d M av h Q) (hq : ∀ r h', Q r h' → Q' r h') : CI d M av h Q' := Ct_mono k (fun _ h' ⟨x, e1, e2⟩ => ⟨x, e1, hq x h' e2⟩)
theorem CL_mono {d : Nat} {M : MD} {av : List AV} {h : Hp} {Q Q' : Int → Hp → Prop} (k : CL d M av h Q) (hq : ∀ r h', Q r h' → Q' r h') : CL d M av h Q' := Ct_mono k (fun _ h' ⟨x, e1, e2⟩ => ⟨x, e1, hq x h' e2⟩)
theorem CV_mono {d : Nat} {M : MD} {av : List AV} {h : Hp} {Q Q' : Hp → Prop} (k : CV d M av h Q) (hq : ∀ h', Q h' → Q' h') : CV d M av h Q' := Ct_mono k (fun _ h' ⟨e1, e2⟩ => ⟨e1, hq h' e2⟩)
theorem ws_D {G : GG} {h h' : Hp} {A B : Nat → Prop} (hD : va_D A (ws G h)) (hB : ∀ k, k < 127 → B (G.2.1 k)) : va_D B (ws G h') := by
  refine ⟨fun i j p q hp hq hpq => ?_, fun k q hq => ?_⟩
  · obtain ⟨h1, rfl⟩ := ws_of hp
    obtain ⟨h2, rfl⟩ := ws_of hq
    exact hD.1 i j _ _ (ws_at G h h1) (ws_at G h h2) hpq
  · obtain ⟨h1, rfl⟩ := ws_of hq
    exact hB k h1
theorem ws_A {G : GG} {h : Hp} {A : Nat → Prop} (hD : va_D A (ws G h)) {k : Nat} (hk : k < 127) : A (G.2.1 k) := hD.2 k _ (ws_at G h hk)
theorem AA_sub {G : GG} {h : Hp} {s : State} {A : Nat → Prop} {H : Heap} {locs : List Loc} (D : Wd G h s A H locs) (hA : ∀ q : Nat, s.heap.size ≤ q → A q) : ∀ q, AA G H.size q → A q := by
  intro q hq
  rcases hq with ⟨k, hk, rfl⟩ | hq
  · exact ws_A D.2.1 hk
  · exact hA q (Nat.le_trans D.2.2.1 hq)
theorem Stt_at {G : GG} {A B : Nat → Prop} {s U : State} {H : Heap} {locs : List Loc} (hs : Stt G A s s.heap) (hS : va_S A s.heap H locs) (hW : s.vm.Alike U.vm) (hB : ∀ q, B q → A q) (hU : U.heap = H) : Stt G B U U.heap := by
  have kz : ∀ {C n d : String} {v : Value}, va_Z C n d v A s s.heap → va_Z C n d v B U U.heap := fun hz => by
    rw [hU]
    exact ((hz.kept hS.2.1).moved hW).narrow hB
  have kt : ∀ {ty : FieldType} {t N : Nat} {f : Nat → Value}, va_T ty t N f A s s.heap → va_T ty t N f B U U.heap := fun hz => by
    rw [hU]
    exact ((hz.kept hS.2.1).moved hW).narrow hB
  exact ⟨⟨kz hs.1.1, kt hs.1.2⟩, ⟨kz hs.2.1.1, kt hs.2.1.2⟩, ⟨kz hs.2.2.1, kt hs.2.2.2⟩⟩
theorem PcM_blind {G : GG} {sz : Nat} {h : Hp} {av : List AV} : FrameBlind (PcM G sz h av) := by
  intro a U g mk q
  obtain ⟨q0, q1, q2, q3, q4, q5, q6⟩ := q
  refine ⟨q0, q1, q2, q3, va_K.moved (u := U) (U := U.calling g mk a) (Vm.Alike.refl U.vm) q4, ?_, fun w hw => nestW_same (u := U) (U := U.calling g mk a) hw rfl (q6 w hw)⟩
  have kz : ∀ {C n d : String} {v : Value}, va_Z C n d v (AA G sz) U U.heap → va_Z C n d v (AA G sz) (U.calling g mk a) (U.calling g mk a).heap := fun hz => hz.moved (U := U.calling g mk a) (Vm.Alike.refl U.vm)
  have kt : ∀ {ty : FieldType} {t N : Nat} {f : Nat → Value}, va_T ty t N f (AA G sz) U U.heap → va_T ty t N f (AA G sz) (U.calling g mk a) (U.calling g mk a).heap := fun hz => hz.moved (U := U.calling g mk a) (Vm.Alike.refl U.vm)
  exact ⟨⟨kz q5.1.1, kt q5.1.2⟩, ⟨kz q5.2.1.1, kt q5.2.1.2⟩, ⟨kz q5.2.2.1, kt q5.2.2.2⟩⟩
theorem PcM_at {G : GG} {h : Hp} {s : State} {A : Nat → Prop} {H : Heap} {locs : List Loc} {sc : Option (Nat × Nat × (Nat → Int32))} (K : Wc G sc s A) (D : Wd G h s A H locs) (av : List AV) : ∀ U : State, U.heap = H → s.WarmedH U.vm → PcM G H.size h av (av.map (rv G.2.1)).toArray U := by
  intro U hU hW
  refine ⟨rfl, by rw [hU], by rw [hU]; exact D.1, ws_D D.2.1 (fun k hk => Or.inl ⟨k, hk, rfl⟩), va_K.moved hW.alike K.1, Stt_at K.2.2.1 D.2.2 hW.alike (AA_sub D K.2.1) hU, fun w hw => nestW_warm hw hW (K.2.2.2.1 w hw)⟩
section EC
variable {d : Nat} {M : MD} {pc : Nat} {lv : List (Nat × AV)} {st : List AV} {h : Hp} {Q : Option AV → Hp → Prop}
theorem call_core {p : Program} {l : Launch} {e : Env} {R : Room} {s : State} {m : MethodId} {args : Array Value} {below : List Frame} {meth : Method} {c : Code} {H : Heap} {locs : List Loc} {cells slots : Nat} {Z : State → Prop} {ls : Array Slot} {G : GG} {A : Nat → Prop} {sc : Option (Nat × Nat × (Nat → Int32))} {st0 rest : List Value} {Q' : Option AV → Hp → Prop} {a : Array Value}
    (hr : va_Run p l e R s m args below meth c H locs cells slots 0 0 (F0 m pc ls st0) rest (QcM G H.size Q' a) (AA G H.size)) (K : Wc G sc s A) (D : Wd G h s A H locs)
    (kk : ∀ (r : Option AV) (h' : Hp) (H' : Heap) (locs' : List Loc), Q' r h' → wfh h' → (∀ v, r = some v → wfv v) → Wd G h' s A H' locs' → W p l e R s m args below meth c H' locs' cells slots Z (F0 m (pc + 3) ls (r.toList.map (rv G.2.1) ++ rest))) : W p l e R s m args below meth c H locs cells slots Z (F0 m pc ls st0) := by
  intro T hT X
  obtain ⟨v, st₀, t, T', L, h0, X', hL, e1, e2, ⟨⟨r, h', hv, hq, hw, hv2, hP'⟩, hz, hk⟩, stp⟩ := hr T hT X
  have hsub := AA_sub D K.2.1
  rw [h0] at hz hk
  have D' : Wd G h' s A T'.heap (locs ++ L) := by
    refine ⟨by rw [e1]; exact hP', ws_D D.2.1 (fun k hk => ws_A D.2.1 hk), Nat.le_trans D.2.2.1 (by rw [e1]; exact hz), fun q h1 h2 => ?_, fun q hq => ?_⟩
    · rw [e1, hk q (Nat.lt_of_lt_of_le h1 D.2.2.1) (fun z => h2 (hsub q z))]
      exact D.2.2.2.1 q h1 h2
    · rcases List.mem_append.mp hq with h1 | h1
      · exact D.2.2.2.2 q h1
      · exact hsub _ (hL q h1)
  obtain ⟨t2, a1, b1⟩ := kk r h' T'.heap (locs ++ L) hq hw hv2 D' T' rfl X'
  refine ⟨t2, stp t2 ?_, b1⟩
  cases hv
  cases r with
  | none => exact a1
  | some x => exact a1
theorem wsM_good {M' : MD} {n : Nat} (hm : MFc M' n) : GoodIn gtb (wsM M') := by
  intro w hw
  rcases List.mem_cons.mp hw with rfl | hw
  · exact ⟨hm.1, gtb_good hm.1⟩
  · exact ⟨hw, gtb_good hw⟩
theorem callB_M {M' : MD} {n idx d' : Nat} {p : Program} {R : Room} {s : State} {m : MethodId} {args : Array Value} {c : Code} {cells slots : Nat} (hm : MFc M' n) (hl : Cond.methodLink M.1.cls idx M'.1 ∈ gtb) (hdd : d' < d) (C : Cx p s m args c M) (Rr : Rm d R cells slots) : CallB R s args M.1.cls idx M'.1 M'.2.1 M'.2.2.1 M'.2.2.2.1 (wsM M') (rm d') 0 0 n := by
  refine callB_of n C.2.2.2.2 (wsM_good hm) rfl rfl rfl (C.2.2.2.2 _ hm.2.1.1) (C.2.2.2.2 _ hl) ⟨hm.2.1.2.1, hm.2.1.2.2.1, hm.2.2.1⟩ ⟨?_, ?_⟩
  · have := Rr.1
    show d' + 1 ≤ R.frames
    omega
  · have := Rr.2.1
    have h2 := hm.2.2.2
    show 8 + (M'.2.2.1 + 11) + 64 * d' ≤ R.locals
    omega
theorem wst_r {r : Option AV} (hr : ∀ v, r = some v → wfv v) (hs : ∀ v ∈ st, wfv v) : ∀ v ∈ r.toList ++ st, wfv v := by
  intro v hv
  rcases List.mem_append.mp hv with q | q
  · cases r with
    | none => simp at q
    | some x => simp at q; subst q; exact hr _ rfl
  · exact hs v q
theorem E_invV {M' : MD} {n idx d' ci : Nat} {a : Int} {stk : List AV} (As : List AV) (hd : decode M.2.1 pc = .ok (.invokevirtual idx, 3)) (hm : MFv M' n) (hl : Cond.methodLink M.1.cls idx M'.1 ∈ gtb) (ha : isC a 0 ci) (hci : (vwCl[ci]?).map (fun q => q.1) = some M'.1.cls) (hdd : d' < d) (hn : As.length = n) (hs : stk = As.reverse ++ vr a :: st) (hcs : csum st ≤ 8)
    (k : Ct d' M' (vr a :: As) h (fun r h' => E d M (pc + 3) lv (r.toList ++ st) h' Q)) : E d M pc lv stk h Q := by
  intro w1 w2 w3 p l e R s m args below meth c H locs cells slots ls G A Z C K Rr D L hret
  subst hs
  have w4 : ∀ v ∈ st, wfv v := fun v hv => w3 v (List.mem_append_right _ (List.mem_cons_of_mem _ hv))
  have w5 : ∀ v ∈ vr a :: As, wfv v := fun v hv => by
    rcases List.mem_cons.mp hv with rfl | hv
    · trivial
    · exact w3 v (List.mem_append_left _ (List.mem_reverse.mpr hv))
  obtain ⟨q, hq⟩ : ∃ q, vwCl[ci]? = some q := by
    cases hv : vwCl[ci]? with
    | none => rw [hv] at hci; cases hci
    | some q => exact ⟨q, rfl⟩
  have hqc : q.1 = M'.1.cls := by rw [hq] at hci; exact Option.some.inj hci
  have hM := k w1 w5 l G H.size
  have hrec := va_recv K.1 D.1 hq (cell_obj (G := G) (h := h) ha)
  rw [hqc] at hrec
  refine call_core (rest := st.map (rv G.2.1)) (va_runV (As := As.map (rv G.2.1)) ⟨C.1, C.2.1, C.2.2.1, C.2.2.2.1, C.2.2.2.2⟩ hM ⟨callB_M hm.1 hl hdd C Rr, C.2.2.2.2 _ hm.2.1, C.2.2.2.2 _ hm.2.2⟩ ⟨PcM_blind, hrec, PcM_at K D (vr a :: As)⟩ rfl (by rw [List.length_map]; exact hn) L.1 (by simp [List.map_append, List.map_reverse, rv]) (lv_room (by rw [csum_rv]; exact hcs)) hd ⟨Rr.2.2.1, Rr.2.2.2⟩) K D ?_
  intro r h' H' locs' hQ hw hv D'
  have k2 := hQ hw w2 (wst_r hv w4) p l e R s m args below meth c H' locs' cells slots ls G A Z C K Rr D' L hret
  rw [List.map_append] at k2
  exact k2
theorem E_invS {M' : MD} {n idx d' : Nat} {stk : List AV} (As : List AV) (hd : decode M.2.1 pc = .ok (.invokestatic idx, 3)) (hm : MFs M' n) (hl : Cond.methodLink M.1.cls idx M'.1 ∈ gtb) (hdd : d' < d) (hn : As.length = n) (hs : stk = As.reverse ++ st) (hcs : csum st ≤ 8)
    (k : Ct d' M' As h (fun r h' => E d M (pc + 3) lv (r.toList ++ st) h' Q)) : E d M pc lv stk h Q := by
  intro w1 w2 w3 p l e R s m args below meth c H locs cells slots ls G A Z C K Rr D L hret
  subst hs
  have w4 : ∀ v ∈ st, wfv v := fun v hv => w3 v (List.mem_append_right _ hv)
  have w5 : ∀ v ∈ As, wfv v := fun v hv => w3 v (List.mem_append_left _ (List.mem_reverse.mpr hv))
  have hM := k w1 w5 l G H.size
  refine call_core (rest := st.map (rv G.2.1)) (va_runS (As := As.map (rv G.2.1)) ⟨C.1, C.2.1, C.2.2.1, C.2.2.2.1, C.2.2.2.2⟩ hM ⟨callB_M hm.1 hl hdd C Rr, C.2.2.2.2 _ hm.2⟩ ⟨PcM_blind, PcM_at K D As⟩ rfl (by rw [List.length_map]; exact hn) L.1 (by simp [List.map_append, List.map_reverse]) (lv_room (by rw [csum_rv]; exact hcs)) hd ⟨Rr.2.2.1, Rr.2.2.2⟩) K D ?_
  intro r h' H' locs' hQ hw hv D'
  have k2 := hQ hw w2 (wst_r hv w4) p l e R s m args below meth c H' locs' cells slots ls G A Z C K Rr D' L hret
  rw [List.map_append] at k2
  exact k2
theorem E_invN {M' : MD} {n idx d' : Nat} {stk : List AV} (As : List AV) (hd : decode M.2.1 pc = .ok (.invokestatic idx, 3)) (hm : MFs M' n) (hl : Cond.methodLinkNest M.1.cls idx M'.1 RX10 ∈ nestW) (hdd : d' < d) (hn : As.length = n) (hs : stk = As.reverse ++ st) (hcs : csum st ≤ 8)
    (k : Ct d' M' As h (fun r h' => E d M (pc + 3) lv (r.toList ++ st) h' Q)) : E d M pc lv stk h Q := by
  intro w1 w2 w3 p l e R s m args below meth c H locs cells slots ls G A Z C K Rr D L hret
  subst hs
  have w4 : ∀ v ∈ st, wfv v := fun v hv => w3 v (List.mem_append_right _ hv)
  have w5 : ∀ v ∈ As, wfv v := fun v hv => w3 v (List.mem_append_left _ (List.mem_reverse.mpr hv))
  have hM := k w1 w5 l G H.size
  have hcn : va_CN R s args M.1.cls idx M'.1 RX10 M'.2.1 M'.2.2.1 M'.2.2.2.1 (wsM M') (rm d') 0 0 n := by
    refine va_cnB n C.2.2.2.2 (wsM_good hm.1) rfl rfl rfl (K.2.2.2.1 _ hl) (C.2.2.2.2 _ hm.1.2.1.1) ⟨hm.1.2.1.2.1, hm.1.2.1.2.2.1, hm.1.2.2.1⟩ ⟨?_, ?_⟩
    · have := Rr.1
      show d' + 1 ≤ R.frames
      omega
    · have := Rr.2.1
      have h2 := hm.1.2.2.2
      show 8 + (M'.2.2.1 + 11) + 64 * d' ≤ R.locals
      omega
  refine call_core (rest := st.map (rv G.2.1)) (va_runSN (As := As.map (rv G.2.1)) ⟨C.1, C.2.1, C.2.2.1, C.2.2.2.1, C.2.2.2.2⟩ hM ⟨hcn, C.2.2.2.2 _ hm.2, trivial⟩ ⟨PcM_blind, PcM_at K D As⟩ rfl (by rw [List.length_map]; exact hn) L.1 (by simp [List.map_append, List.map_reverse]) (lv_room (by rw [csum_rv]; exact hcs)) hd ⟨Rr.2.2.1, Rr.2.2.2⟩) K D ?_
  intro r h' H' locs' hQ hw hv D'
  have k2 := hQ hw w2 (wst_r hv w4) p l e R s m args below meth c H' locs' cells slots ls G A Z C K Rr D' L hret
  rw [List.map_append] at k2
  exact k2
end EC
end
section
section ED
variable {d : Nat} {M : MD} {pc : Nat} {lv : List (Nat × AV)} {st : List AV} {h : Hp} {Q : Option AV → Hp → Prop}
theorem E_invVI {M' : MD} {n idx d' ci : Nat} {a : Int} {stk : List AV} (As : List AV) (hd : decode M.2.1 pc = .ok (.invokevirtual idx, 3)) (hm : MFv M' n) (hl : Cond.methodLink M.1.cls idx M'.1 ∈ gtb) (ha : isC a 0 ci) (hci : (vwCl[ci]?).map (fun q => q.1) = some M'.1.cls) (hdd : d' < d) (hn : As.length = n) (hs : stk = As.reverse ++ vr a :: st) (hcs : csum st ≤ 8) (k : CI d' M' (vr a :: As) h (fun x h' => E d M (pc + 3) lv (vi x :: st) h' Q)) : E d M pc lv stk h Q := E_invV As hd hm hl ha hci hdd hn hs hcs (Ct_mono k (fun r h' ⟨x, e1, e2⟩ => by subst e1; exact e2))
theorem E_invVL {M' : MD} {n idx d' ci : Nat} {a : Int} {stk : List AV} (As : List AV) (hd : decode M.2.1 pc = .ok (.invokevirtual idx, 3)) (hm : MFv M' n) (hl : Cond.methodLink M.1.cls idx M'.1 ∈ gtb) (ha : isC a 0 ci) (hci : (vwCl[ci]?).map (fun q => q.1) = some M'.1.cls) (hdd : d' < d) (hn : As.length = n) (hs : stk = As.reverse ++ vr a :: st) (hcs : csum st ≤ 8) (k : CL d' M' (vr a :: As) h (fun x h' => E d M (pc + 3) lv (vl x :: st) h' Q)) : E d M pc lv stk h Q := E_invV As hd hm hl ha hci hdd hn hs hcs (Ct_mono k (fun r h' ⟨x, e1, e2⟩ => by subst e1; exact e2))
theorem E_invVV {M' : MD} {n idx d' ci : Nat} {a : Int} {stk : List AV} (As : List AV) (hd : decode M.2.1 pc = .ok (.invokevirtual idx, 3)) (hm : MFv M' n) (hl : Cond.methodLink M.1.cls idx M'.1 ∈ gtb) (ha : isC a 0 ci) (hci : (vwCl[ci]?).map (fun q => q.1) = some M'.1.cls) (hdd : d' < d) (hn : As.length = n) (hs : stk = As.reverse ++ vr a :: st) (hcs : csum st ≤ 8) (k : CV d' M' (vr a :: As) h (fun h' => E d M (pc + 3) lv st h' Q)) : E d M pc lv stk h Q := E_invV As hd hm hl ha hci hdd hn hs hcs (Ct_mono k (fun r h' ⟨e1, e2⟩ => by subst e1; exact e2))
theorem E_invSI {M' : MD} {n idx d' : Nat} {stk : List AV} (As : List AV) (hd : decode M.2.1 pc = .ok (.invokestatic idx, 3)) (hm : MFs M' n) (hl : Cond.methodLink M.1.cls idx M'.1 ∈ gtb) (hdd : d' < d) (hn : As.length = n) (hs : stk = As.reverse ++ st) (hcs : csum st ≤ 8) (k : CI d' M' As h (fun x h' => E d M (pc + 3) lv (vi x :: st) h' Q)) : E d M pc lv stk h Q := E_invS As hd hm hl hdd hn hs hcs (Ct_mono k (fun r h' ⟨x, e1, e2⟩ => by subst e1; exact e2))
theorem E_invSL {M' : MD} {n idx d' : Nat} {stk : List AV} (As : List AV) (hd : decode M.2.1 pc = .ok (.invokestatic idx, 3)) (hm : MFs M' n) (hl : Cond.methodLink M.1.cls idx M'.1 ∈ gtb) (hdd : d' < d) (hn : As.length = n) (hs : stk = As.reverse ++ st) (hcs : csum st ≤ 8) (k : CL d' M' As h (fun x h' => E d M (pc + 3) lv (vl x :: st) h' Q)) : E d M pc lv stk h Q := E_invS As hd hm hl hdd hn hs hcs (Ct_mono k (fun r h' ⟨x, e1, e2⟩ => by subst e1; exact e2))
theorem E_invSV {M' : MD} {n idx d' : Nat} {stk : List AV} (As : List AV) (hd : decode M.2.1 pc = .ok (.invokestatic idx, 3)) (hm : MFs M' n) (hl : Cond.methodLink M.1.cls idx M'.1 ∈ gtb) (hdd : d' < d) (hn : As.length = n) (hs : stk = As.reverse ++ st) (hcs : csum st ≤ 8) (k : CV d' M' As h (fun h' => E d M (pc + 3) lv st h' Q)) : E d M pc lv stk h Q := E_invS As hd hm hl hdd hn hs hcs (Ct_mono k (fun r h' ⟨e1, e2⟩ => by subst e1; exact e2))
theorem E_invNI {M' : MD} {n idx d' : Nat} {stk : List AV} (As : List AV) (hd : decode M.2.1 pc = .ok (.invokestatic idx, 3)) (hm : MFs M' n) (hl : Cond.methodLinkNest M.1.cls idx M'.1 RX10 ∈ nestW) (hdd : d' < d) (hn : As.length = n) (hs : stk = As.reverse ++ st) (hcs : csum st ≤ 8) (k : CI d' M' As h (fun x h' => E d M (pc + 3) lv (vi x :: st) h' Q)) : E d M pc lv stk h Q := E_invN As hd hm hl hdd hn hs hcs (Ct_mono k (fun r h' ⟨x, e1, e2⟩ => by subst e1; exact e2))
theorem E_invNL {M' : MD} {n idx d' : Nat} {stk : List AV} (As : List AV) (hd : decode M.2.1 pc = .ok (.invokestatic idx, 3)) (hm : MFs M' n) (hl : Cond.methodLinkNest M.1.cls idx M'.1 RX10 ∈ nestW) (hdd : d' < d) (hn : As.length = n) (hs : stk = As.reverse ++ st) (hcs : csum st ≤ 8) (k : CL d' M' As h (fun x h' => E d M (pc + 3) lv (vl x :: st) h' Q)) : E d M pc lv stk h Q := E_invN As hd hm hl hdd hn hs hcs (Ct_mono k (fun r h' ⟨x, e1, e2⟩ => by subst e1; exact e2))
theorem E_invNV {M' : MD} {n idx d' : Nat} {stk : List AV} (As : List AV) (hd : decode M.2.1 pc = .ok (.invokestatic idx, 3)) (hm : MFs M' n) (hl : Cond.methodLinkNest M.1.cls idx M'.1 RX10 ∈ nestW) (hdd : d' < d) (hn : As.length = n) (hs : stk = As.reverse ++ st) (hcs : csum st ≤ 8) (k : CV d' M' As h (fun h' => E d M (pc + 3) lv st h' Q)) : E d M pc lv stk h Q := E_invN As hd hm hl hdd hn hs hcs (Ct_mono k (fun r h' ⟨e1, e2⟩ => by subst e1; exact e2))
theorem E_mmax {x y : Int} {idx : Nat} (hd : decode M.2.1 pc = .ok (.invokestatic idx, 3)) (hl : Cond.methodLink M.1.cls idx Lib.Math.max.name ∈ gtb) (hdd : 0 < d) (hcs : csum st ≤ 8) (k : E d M (pc + 3) lv (vi (if x < y then y else x) :: st) h Q) : E d M pc lv (vi y :: vi x :: st) h Q := by
  intro w1 w2 w3 p l e R s m args below meth c H locs cells slots ls G A Z C K Rr D L hret
  have hy : rg y := w3 (vi y) List.mem_cons_self
  have hx : rg x := w3 (vi x) (List.mem_cons_of_mem _ List.mem_cons_self)
  have hr : rg (if x < y then y else x) := by split <;> assumption
  have k := k w1 w2 (wst hr (fun v hv => w3 v (List.mem_cons_of_mem _ (List.mem_cons_of_mem _ hv)))) p l e R s m args below meth c H locs cells slots ls G A Z C K Rr D L hret
  refine va_mmax C.1 C.2.1 (by rw [C.2.2.1]; exact L.1.symm) C.2.2.2.1 (C.2.2.2.2 _ hl) (C.2.2.2.2 _ ma_max_s) (C.2.2.2.2 _ ma_ini) (C.2.2.2.2 _ ma_max_c) (by have := Rr.1; omega) (by have := Rr.2.1; rw [csum_rv]; omega) Rr.2.2.1 Rr.2.2.2 hd ?_
  have e1 : (if Int32.ofInt x < Int32.ofInt y then Int32.ofInt y else Int32.ofInt x) = Int32.ofInt (if x < y then y else x) := by
    simp only [o32_lt hx hy]
    split <;> rfl
  first | (rw [e1]; exact k) | (simp only [gt_iff_lt] at e1; rw [e1]; exact k)
theorem E_mmin {x y : Int} {idx : Nat} (hd : decode M.2.1 pc = .ok (.invokestatic idx, 3)) (hl : Cond.methodLink M.1.cls idx Lib.Math.min.name ∈ gtb) (hdd : 0 < d) (hcs : csum st ≤ 8) (k : E d M (pc + 3) lv (vi (if x > y then y else x) :: st) h Q) : E d M pc lv (vi y :: vi x :: st) h Q := by
  intro w1 w2 w3 p l e R s m args below meth c H locs cells slots ls G A Z C K Rr D L hret
  have hy : rg y := w3 (vi y) List.mem_cons_self
  have hx : rg x := w3 (vi x) (List.mem_cons_of_mem _ List.mem_cons_self)
  have hr : rg (if x > y then y else x) := by split <;> assumption
  have k := k w1 w2 (wst hr (fun v hv => w3 v (List.mem_cons_of_mem _ (List.mem_cons_of_mem _ hv)))) p l e R s m args below meth c H locs cells slots ls G A Z C K Rr D L hret
  refine va_mmin C.1 C.2.1 (by rw [C.2.2.1]; exact L.1.symm) C.2.2.2.1 (C.2.2.2.2 _ hl) (C.2.2.2.2 _ ma_min_s) (C.2.2.2.2 _ ma_ini) (C.2.2.2.2 _ ma_min_c) (by have := Rr.1; omega) (by have := Rr.2.1; rw [csum_rv]; omega) Rr.2.2.1 Rr.2.2.2 hd ?_
  have e1 : (if Int32.ofInt x > Int32.ofInt y then Int32.ofInt y else Int32.ofInt x) = Int32.ofInt (if x > y then y else x) := by
    simp only [o32_gt hx hy]
    split <;> rfl
  first | (rw [e1]; exact k) | (simp only [gt_iff_lt] at e1; rw [e1]; exact k)
/-- System.arraycopy of int arrays, from the beginning -/
def cpy (h : Hp) (a b n : Int) : Hp := fun x y => if x = b ∧ 0 ≤ y ∧ y < n then h a y else h x y
theorem E_copy {a b nn : Int} {n n' idx : Nat} (hd : decode M.2.1 pc = .ok (.invokestatic idx, 3)) (hl : Cond.methodLink M.1.cls idx arraycopyName ∈ gtb) (hdd : 2 < d) (hcs : csum st ≤ 8) (ha : isC a 1 n) (hb : isC b 1 n') (h0 : 0 ≤ nn) (h1 : nn ≤ n) (h2 : nn ≤ n') (k : E d M (pc + 3) lv st (cpy h a b nn) Q) : E d M pc lv (vi nn :: vi 0 :: vr b :: vi 0 :: vr a :: st) h Q := by
  intro w1 w2 w3 p l e R s m args below meth c H locs cells slots ls G A Z C K Rr D L hret
  have hr : rg nn := w3 (vi nn) List.mem_cons_self
  have w4 : ∀ v ∈ st, wfv v := fun v hv => w3 v (List.mem_cons_of_mem _ (List.mem_cons_of_mem _ (List.mem_cons_of_mem _ (List.mem_cons_of_mem _ (List.mem_cons_of_mem _ hv)))))
  have e0 : (Int32.ofInt 0).toNatClampNeg = 0 := by decide
  have en : (Int32.ofInt nn).toNatClampNeg = nn.toNat := o32_clamp hr
  have hng : ¬ Int32.ofInt nn < 0 := by rw [o32_0, o32_lt hr rg0]; omega
  have e9 : nativeFrameWords "java/lang/System" "arraycopy" 5 ≤ 100 := by decide
  have hloc : ((st.map (rv G.2.1)).map fun v => v.category).sum + (nativeFrameWords "java/lang/System" "arraycopy" 5 + 11) ≤ R.locals := by
    have := Rr.2.1
    rw [csum_rv]
    omega
  have hz : ¬ Int32.ofInt 0 < 0 := by decide
  refine va_copyi (R := R) (rest := st.map (rv G.2.1)) (sp := Int32.ofInt 0) (dp := Int32.ofInt 0) (n := Int32.ofInt nn) C.1 C.2.1 (by rw [C.2.2.1]; exact L.1.symm) C.2.2.2.1 (C.2.2.2.2 _ hl) (C.2.2.2.2 _ ac_n) (C.2.2.2.2 _ ac_s) (C.2.2.2.2 _ ac_i) K.1 D.1 D.2.1 D.2.2 a.toNat b.toNat 0 0 (cell_arr ha) (cell_arr hb) (ty := .int) rfl rfl rfl hz hz hng (by rw [e0, en]; omega) (by rw [e0, en]; omega) (fun i hi => rfl) (by have := Rr.1; omega) hloc hd (fun H1 locs1 hP hD hS => ?_)
  refine k ?_ w2 w4 p l e R s m args below meth c H1 locs1 cells slots ls G A Z C K Rr (Wd_up hb.1 hb.lt ?_ (fun x hx y => ?_) hP hD hS) L hret
  · intro x y
    unfold cpy
    by_cases hq : x = b ∧ 0 ≤ y ∧ y < nn
    · rw [if_pos hq]
      refine ⟨fun q => absurd q ?_, fun _ => (w1 a y).2 (lgS_arr ha (by decide) (by decide))⟩
      rw [hq.1]
      exact lgS_arr hb (by decide) (by decide)
    · rw [if_neg hq]
      exact w1 x y
  · unfold cellE
    rw [hb.2, hb.nn, e0, en]
    show (Sum.inl (G.2.2 0, n', Sum.inl (fun j : Nat => Int32.ofInt (cpy h a b nn b j))) : va_E) = _
    congr 4
    funext j
    unfold cpy va_cpy
    by_cases hj : j < nn.toNat
    · rw [if_pos ⟨rfl, by omega, by omega⟩, if_pos ⟨Nat.zero_le _, by omega⟩]
      simp
    · rw [if_neg (fun q => hj (by omega)), if_neg (fun q => hj (by omega))]
  · unfold cpy
    rw [if_neg (fun q => hx q.1)]
theorem E_getsW {idx : Nat} (hd : decode M.2.1 pc = .ok (.getstatic idx, 3)) (hl : Cond.fieldLink M.1.cls idx "ComparatorNetworks$Sweep" "WORD_LANES" "[J" ∈ gtb) (k : E d M (pc + 3) lv (vr 127 :: st) h Q) : E d M pc lv st h Q := by
  intro w1 w2 w3 p l e R s m args below meth c H locs cells slots ls G A Z C K Rr D L hret
  exact va_gets C.1 C.2.1 K.2.2.1.1.1 D.2.2 C.2.2.2.1 (C.2.2.2.2 _ hl) (fun _ q => q) hd (k w1 w2 (wst trivial w3) p l e R s m args below meth c H locs cells slots ls G A Z C K Rr D L hret)
theorem E_tabW {i : Int} (hd : decode M.2.1 pc = .ok (.laload, 1)) (h0 : 0 ≤ i) (hi : i < 6) (k : E d M (pc + 1) lv (vl (wlv i.toNat).toInt :: st) h Q) : E d M pc lv (vi i :: vr 127 :: st) h Q := by
  intro w1 w2 w3 p l e R s m args below meth c H locs cells slots ls G A Z C K Rr D L hret
  have hr : rg i := w3 (vi i) List.mem_cons_self
  have k := k w1 w2 (wst (rgL_toInt _) (fun v hv => w3 v (List.mem_cons_of_mem _ (List.mem_cons_of_mem _ hv)))) p l e R s m args below meth c H locs cells slots ls G A Z C K Rr D L hret
  refine va_tl C.1 C.2.1 K.2.2.1.1.2 D.2.2 (o32_in h0 hi hr) (v := .long (Int64.ofInt (wlv i.toNat).toInt)) (by rw [o32_clamp hr, Int64.ofInt_toInt]) hd ?_
  exact k
theorem E_getsF {idx : Nat} (hd : decode M.2.1 pc = .ok (.getstatic idx, 3)) (hl : Cond.fieldLink M.1.cls idx "ComparatorNetworks$Chains" "FACTORIALS" "[I" ∈ gtb) (k : E d M (pc + 3) lv (vr 128 :: st) h Q) : E d M pc lv st h Q := by
  intro w1 w2 w3 p l e R s m args below meth c H locs cells slots ls G A Z C K Rr D L hret
  exact va_gets C.1 C.2.1 K.2.2.1.2.1.1 D.2.2 C.2.2.2.1 (C.2.2.2.2 _ hl) (fun _ q => q) hd (k w1 w2 (wst trivial w3) p l e R s m args below meth c H locs cells slots ls G A Z C K Rr D L hret)
theorem E_tabF {i : Int} (hd : decode M.2.1 pc = .ok (.iaload, 1)) (h0 : 0 ≤ i) (hi : i < 9) (k : E d M (pc + 1) lv (vi (fav i.toNat) :: st) h Q) : E d M pc lv (vi i :: vr 128 :: st) h Q := by
  intro w1 w2 w3 p l e R s m args below meth c H locs cells slots ls G A Z C K Rr D L hret
  have hr : rg i := w3 (vi i) List.mem_cons_self
  have hrv : rg (fav i.toNat) := by unfold fav rg; split <;> omega
  have k := k w1 w2 (wst hrv (fun v hv => w3 v (List.mem_cons_of_mem _ (List.mem_cons_of_mem _ hv)))) p l e R s m args below meth c H locs cells slots ls G A Z C K Rr D L hret
  refine va_ti C.1 C.2.1 K.2.2.1.2.1.2 D.2.2 (o32_in h0 hi hr) (v := .int (Int32.ofInt (fav i.toNat))) (by rw [o32_clamp hr]) hd ?_
  exact k
theorem E_getsP {idx : Nat} (hd : decode M.2.1 pc = .ok (.getstatic idx, 3)) (hl : Cond.fieldLink M.1.cls idx "ComparatorNetworks$Shelf" "PARENTS" "[I" ∈ gtb) (k : E d M (pc + 3) lv (vr 129 :: st) h Q) : E d M pc lv st h Q := by
  intro w1 w2 w3 p l e R s m args below meth c H locs cells slots ls G A Z C K Rr D L hret
  exact va_gets C.1 C.2.1 K.2.2.1.2.2.1 D.2.2 C.2.2.2.1 (C.2.2.2.2 _ hl) (fun _ q => q) hd (k w1 w2 (wst trivial w3) p l e R s m args below meth c H locs cells slots ls G A Z C K Rr D L hret)
theorem E_tabP {i : Int} (hd : decode M.2.1 pc = .ok (.iaload, 1)) (h0 : 0 ≤ i) (hi : i < 6) (k : E d M (pc + 1) lv (vi (pav i.toNat) :: st) h Q) : E d M pc lv (vi i :: vr 129 :: st) h Q := by
  intro w1 w2 w3 p l e R s m args below meth c H locs cells slots ls G A Z C K Rr D L hret
  have hr : rg i := w3 (vi i) List.mem_cons_self
  have hrv : rg (pav i.toNat) := by unfold pav rg; split <;> omega
  have k := k w1 w2 (wst hrv (fun v hv => w3 v (List.mem_cons_of_mem _ (List.mem_cons_of_mem _ hv)))) p l e R s m args below meth c H locs cells slots ls G A Z C K Rr D L hret
  refine va_ti C.1 C.2.1 K.2.2.1.2.2.2 D.2.2 (o32_in h0 hi hr) (v := .int (Int32.ofInt (pav i.toNat))) (by rw [o32_clamp hr]) hd ?_
  exact k
/-- the law's script -/
theorem E_sld {i : Int} {b L0 : Nat} {xs : Nat → Int32} (hd : decode M.2.1 pc = .ok (.iaload, 1)) (hsc : M.2.2.2.2 = some (b, L0, xs)) (h0 : 0 ≤ i) (hi : i < L0) (k : E d M (pc + 1) lv (vi (xs i.toNat).toInt :: st) h Q) : E d M pc lv (vi i :: vr 130 :: st) h Q := by
  intro w1 w2 w3 p l e R s m args below meth c H locs cells slots ls G A Z C K Rr D L hret
  have hr : rg i := w3 (vi i) List.mem_cons_self
  obtain ⟨e1, e2, e3, e4⟩ := K.2.2.2.2 b L0 xs hsc
  have k := k w1 w2 (wst (rg_toInt _) (fun v hv => w3 v (List.mem_cons_of_mem _ (List.mem_cons_of_mem _ hv)))) p l e R s m args below meth c H locs cells slots ls G A Z C K Rr D L hret
  have e5 : rv G.2.1 (vr 130) = .ref b := by rw [e1]; rfl
  show W p l e R s m args below meth c H locs cells slots Z (F0 m pc ls (.int (Int32.ofInt i) :: rv G.2.1 (vr 130) :: st.map (rv G.2.1)))
  rw [e5]
  refine va_sld C.1 C.2.1 e2 e3 e4 D.2.2 (o32_in h0 hi hr) hd ?_
  rw [o32_clamp hr]
  have e6 : Int32.ofInt (xs i.toNat).toInt = xs i.toNat := Int32.ofInt_toInt _
  rw [← e6]
  exact k
theorem E_slen {b L0 : Nat} {xs : Nat → Int32} (hd : decode M.2.1 pc = .ok (.arraylength, 1)) (hsc : M.2.2.2.2 = some (b, L0, xs)) (hL : L0 < 2147483648) (k : E d M (pc + 1) lv (vi L0 :: st) h Q) : E d M pc lv (vr 130 :: st) h Q := by
  intro w1 w2 w3 p l e R s m args below meth c H locs cells slots ls G A Z C K Rr D L hret
  obtain ⟨e1, e2, e3, e4⟩ := K.2.2.2.2 b L0 xs hsc
  have k := k w1 w2 (wst (show rg L0 from ⟨by omega, by omega⟩) (fun v hv => w3 v (List.mem_cons_of_mem _ hv))) p l e R s m args below meth c H locs cells slots ls G A Z C K Rr D L hret
  have e5 : rv G.2.1 (vr 130) = .ref b := by rw [e1]; rfl
  show W p l e R s m args below meth c H locs cells slots Z (F0 m pc ls (rv G.2.1 (vr 130) :: st.map (rv G.2.1)))
  rw [e5]
  exact va_slen C.1 C.2.1 e2 e3 e4 D.2.2 hd k
/-- a method's contract out of its body -/
def lvA : Nat → List AV → List (Nat × AV)
  | _, [] => []
  | i, v :: vs => (i, v) :: lvA (if cat v = 2 then i + 2 else i + 1) vs
theorem lvA_args {G : GG} : ∀ (av : List AV) (i : Nat), lvr G (lvA i av) = lv_args i (av.map (rv G.2.1))
  | [], _ => rfl
  | v :: vs, i => by
    show (i, rv G.2.1 v) :: lvr G (lvA (if cat v = 2 then i + 2 else i + 1) vs) = _
    rw [lvA_args vs]
    show _ = (i, rv G.2.1 v) :: lv_args (if (rv G.2.1 v).category = 2 then i + 2 else i + 1) (vs.map (rv G.2.1))
    rw [cat_rv]
theorem lg_sl_len {G : GG} : ∀ av : List AV, (lg_sl (av.map (rv G.2.1))).length = csum av
  | [] => rfl
  | v :: vs => by
    have ih := lg_sl_len (G := G) vs
    have e1 : csum (v :: vs) = cat v + csum vs := by simp [csum]
    rw [e1, ← ih]
    rcases v with z | z | z
    · show _ = 1 + _; simp [lg_sl, rv, Value.category]; omega
    · show _ = 2 + _; simp [lg_sl, rv, Value.category]; omega
    · show _ = 1 + _; simp [lg_sl, rv, Value.category]; omega
theorem lvA_wf : ∀ (av : List AV) (i : Nat), (∀ v ∈ av, wfv v) → ∀ q ∈ lvA i av, wfv q.2
  | [], _, _, q, hq => by cases hq
  | v :: vs, i, hw, q, hq => by
    rcases List.mem_cons.mp hq with rfl | hq
    · exact hw _ List.mem_cons_self
    · exact lvA_wf vs _ (fun u hu => hw u (List.mem_cons_of_mem _ hu)) q hq
theorem Ct_of_E {n : Nat} {av : List AV} (hm : MFc M n) (hsc : M.2.2.2.2 = none) (hlen : csum av ≤ M.2.2.1) (k : E d M 0 (lvA 0 av) [] h Q) : Ct d M av h Q := by
  intro w1 w2 l G sz
  refine Met.ofW (cc := M.2.1) (maxL := M.2.2.1) (ret := M.2.2.2.1) hm.2.1.2.2.2 rfl ?_
  intro p e s m args below meth c s₁ B hml hv
  obtain ⟨rfl, hsz, hP, hD, hK, hS, hN⟩ := hv
  subst hsz
  have hts := atoms_spec (ws := wsM M) B.pre
  have hown : s.vm.findClass M.1.cls = some m.cls := findClass_of_methodNamed B.named
  have hlk := B.notSynchronized
  have hl := lv_entry (av.map (rv G.2.1)) (n := M.2.2.1) (by rw [lg_sl_len]; exact hlen)
  rw [lg_entry_eq]
  rw [← lvA_args] at hl
  refine k w1 (lvA_wf av 0 w2) (fun _ q => by cases q) p l e (rm d) s m _ below meth c s.heap [] 0 0 _ G (AA G s.heap.size) _ ⟨B.exec, B.bytes, hml, hown, fun w hw => hts w (List.mem_cons_of_mem _ hw)⟩ ⟨hK, fun q hq => Or.inr hq, hS, hN, by rw [hsc]; intro _ _ _ q; cases q⟩ ⟨Nat.le_refl _, Nat.le_refl _, Nat.le_refl _, Nat.le_refl _⟩ ⟨hP, hD, va_S.rf⟩ hl ?_
  intro r h' H' locs' ls' pc' hq hw hv D' hr
  have hr0 := B.returns
  match r, hq, hv, hr with
  | none, hq, hv, hr => exact W.vret B.exec B.bytes (by rw [hr0]; exact hr.2) (fun t ht hW => ⟨⟨none, h', rfl, hq, hw, hv, by rw [ht]; exact D'.1⟩, D'.2.2.F ht⟩) D'.2.2.2.2 hr.1
  | some (.inl x), hq, hv, hr =>
    rcases hr.2 with h1 | h1
    · exact W.iret B.exec B.bytes (by rw [hr0]; exact h1) (fun t ht hW => ⟨⟨some (vi x), h', rfl, hq, hw, hv, by rw [ht]; exact D'.1⟩, D'.2.2.F ht⟩) D'.2.2.2.2 hr.1
    · exact W.zret (ty := .boolean) B.exec B.bytes (by rw [hr0]; exact h1.1) (by rcases h1.2 with rfl | rfl <;> rfl) (fun t ht hW => ⟨⟨some (vi x), h', rfl, hq, hw, hv, by rw [ht]; exact D'.1⟩, D'.2.2.F ht⟩) D'.2.2.2.2 hr.1
  | some (.inr (.inl x)), hq, hv, hr => exact W.lret B.exec B.bytes (by rw [hr0]; exact hr.2) (fun t ht hW => ⟨⟨some (vl x), h', rfl, hq, hw, hv, by rw [ht]; exact D'.1⟩, D'.2.2.F ht⟩) D'.2.2.2.2 hr.1
  | some (.inr (.inr x)), hq, hv, hr => exact absurd hr (fun z => z)
theorem CI_of_E {n : Nat} {av : List AV} {Q : Int → Hp → Prop} (hm : MFc M n) (hsc : M.2.2.2.2 = none) (hlen : csum av ≤ M.2.2.1) (k : E d M 0 (lvA 0 av) [] h (qi Q)) : CI d M av h Q := Ct_of_E hm hsc hlen k
theorem CL_of_E {n : Nat} {av : List AV} {Q : Int → Hp → Prop} (hm : MFc M n) (hsc : M.2.2.2.2 = none) (hlen : csum av ≤ M.2.2.1) (k : E d M 0 (lvA 0 av) [] h (ql Q)) : CL d M av h Q := Ct_of_E hm hsc hlen k
theorem CV_of_E {n : Nat} {av : List AV} {Q : Hp → Prop} (hm : MFc M n) (hsc : M.2.2.2.2 = none) (hlen : csum av ≤ M.2.2.1) (k : E d M 0 (lvA 0 av) [] h (qv Q)) : CV d M av h Q := Ct_of_E hm hsc hlen k
theorem E_retI {x : Int} {Q : Int → Hp → Prop} (hd : decode M.2.1 pc = .ok (.ireturn, 1)) (hb : M.2.2.2.1 = some .int) (hq : Q x h) : E d M pc lv [vi x] h (qi Q) := E_ireturn hd (Or.inl hb) ⟨x, rfl, hq⟩
theorem E_retZ {x : Int} {Q : Int → Hp → Prop} (hd : decode M.2.1 pc = .ok (.ireturn, 1)) (hb : M.2.2.2.1 = some .boolean) (hx : x = 0 ∨ x = 1) (hq : Q x h) : E d M pc lv [vi x] h (qi Q) := E_ireturn hd (Or.inr ⟨hb, hx⟩) ⟨x, rfl, hq⟩
theorem E_retL {x : Int} {Q : Int → Hp → Prop} (hd : decode M.2.1 pc = .ok (.lreturn, 1)) (hb : M.2.2.2.1 = some .long) (hq : Q x h) : E d M pc lv [vl x] h (ql Q) := E_lreturn hd hb ⟨x, rfl, hq⟩
theorem E_retV {Q : Hp → Prop} (hd : decode M.2.1 pc = .ok (.return_, 1)) (hb : M.2.2.2.1 = none) (hq : Q h) : E d M pc lv [] h (qv Q) := E_return hd hb ⟨rfl, hq⟩
end ED
end
