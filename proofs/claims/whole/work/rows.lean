section
-- ===== PART A: goes FIRST, ahead of the names: the tables' words, and 'selects' of the private methods out of them =====
/-- a private method of a class that the tables say can be made, by its rows of tables_1 -/
def lw_okq (q : MethodName × Nat) : Prop := (q.1.cls ≠ "java/lang/invoke/MethodHandle" ∧ q.1.cls ≠ "java/lang/invoke/VarHandle") ∧ Cond.instantiable q.1.cls q.2 ∈ tables_1 ∧ Cond.privateMethod q.1 ∈ tables_1 ∧ Cond.instanceMethod q.1 ∈ tables_1
theorem lw_p0 : lw_okq (⟨"PluginHall$Reader", "reads", "(I)Z"⟩, 6) := ⟨⟨by decide +kernel, by decide +kernel⟩, List.mem_of_getElem? (i := 171) (by decide +kernel), List.mem_of_getElem? (i := 429) (by decide +kernel), List.mem_of_getElem? (i := 430) (by decide +kernel)⟩
theorem lw_p1 : lw_okq (⟨"PluginHall$Reader", "readsBetween", "(I)Z"⟩, 6) := ⟨⟨by decide +kernel, by decide +kernel⟩, List.mem_of_getElem? (i := 171) (by decide +kernel), List.mem_of_getElem? (i := 433) (by decide +kernel), List.mem_of_getElem? (i := 434) (by decide +kernel)⟩
theorem lw_p2 : lw_okq (⟨"PluginHall$Reader", "goTo", "(I)Z"⟩, 6) := ⟨⟨by decide +kernel, by decide +kernel⟩, List.mem_of_getElem? (i := 171) (by decide +kernel), List.mem_of_getElem? (i := 441) (by decide +kernel), List.mem_of_getElem? (i := 442) (by decide +kernel)⟩
theorem lw_p3 : lw_okq (⟨"PluginHall$Reader", "readsOpened", "(I)Z"⟩, 6) := ⟨⟨by decide +kernel, by decide +kernel⟩, List.mem_of_getElem? (i := 171) (by decide +kernel), List.mem_of_getElem? (i := 448) (by decide +kernel), List.mem_of_getElem? (i := 449) (by decide +kernel)⟩
theorem lw_p4 : lw_okq (⟨"PluginHall$Reader", "beginWord", "(I)Z"⟩, 6) := ⟨⟨by decide +kernel, by decide +kernel⟩, List.mem_of_getElem? (i := 171) (by decide +kernel), List.mem_of_getElem? (i := 452) (by decide +kernel), List.mem_of_getElem? (i := 453) (by decide +kernel)⟩
theorem lw_p5 : lw_okq (⟨"PluginHall$Reader", "readsTagName", "(I)Z"⟩, 6) := ⟨⟨by decide +kernel, by decide +kernel⟩, List.mem_of_getElem? (i := 171) (by decide +kernel), List.mem_of_getElem? (i := 466) (by decide +kernel), List.mem_of_getElem? (i := 467) (by decide +kernel)⟩
theorem lw_p6 : lw_okq (⟨"PluginHall$Reader", "readsTagEnd", "(I)Z"⟩, 6) := ⟨⟨by decide +kernel, by decide +kernel⟩, List.mem_of_getElem? (i := 171) (by decide +kernel), List.mem_of_getElem? (i := 470) (by decide +kernel), List.mem_of_getElem? (i := 471) (by decide +kernel)⟩
theorem lw_p7 : lw_okq (⟨"PluginHall$Reader", "appendToWord", "(I)Z"⟩, 6) := ⟨⟨by decide +kernel, by decide +kernel⟩, List.mem_of_getElem? (i := 171) (by decide +kernel), List.mem_of_getElem? (i := 474) (by decide +kernel), List.mem_of_getElem? (i := 475) (by decide +kernel)⟩
theorem lw_p8 : lw_okq (⟨"PluginHall$Reader", "readsTagSpaces", "(I)Z"⟩, 6) := ⟨⟨by decide +kernel, by decide +kernel⟩, List.mem_of_getElem? (i := 171) (by decide +kernel), List.mem_of_getElem? (i := 478) (by decide +kernel), List.mem_of_getElem? (i := 479) (by decide +kernel)⟩
theorem lw_p9 : lw_okq (⟨"PluginHall$Reader", "readsAttributeName", "(I)Z"⟩, 6) := ⟨⟨by decide +kernel, by decide +kernel⟩, List.mem_of_getElem? (i := 171) (by decide +kernel), List.mem_of_getElem? (i := 486) (by decide +kernel), List.mem_of_getElem? (i := 487) (by decide +kernel)⟩
theorem lw_p10 : lw_okq (⟨"PluginHall$Reader", "readsValue", "(I)Z"⟩, 6) := ⟨⟨by decide +kernel, by decide +kernel⟩, List.mem_of_getElem? (i := 171) (by decide +kernel), List.mem_of_getElem? (i := 499) (by decide +kernel), List.mem_of_getElem? (i := 500) (by decide +kernel)⟩
theorem lw_p11 : lw_okq (⟨"PluginHall$Reader", "close", "()Z"⟩, 6) := ⟨⟨by decide +kernel, by decide +kernel⟩, List.mem_of_getElem? (i := 171) (by decide +kernel), List.mem_of_getElem? (i := 509) (by decide +kernel), List.mem_of_getElem? (i := 510) (by decide +kernel)⟩
theorem lw_p12 : lw_okq (⟨"PluginHall$Reader", "readsClosingName", "(I)Z"⟩, 6) := ⟨⟨by decide +kernel, by decide +kernel⟩, List.mem_of_getElem? (i := 171) (by decide +kernel), List.mem_of_getElem? (i := 517) (by decide +kernel), List.mem_of_getElem? (i := 518) (by decide +kernel)⟩
theorem lw_p13 : lw_okq (⟨"PluginHall$Reader", "readsClosingEnd", "(I)Z"⟩, 6) := ⟨⟨by decide +kernel, by decide +kernel⟩, List.mem_of_getElem? (i := 171) (by decide +kernel), List.mem_of_getElem? (i := 521) (by decide +kernel), List.mem_of_getElem? (i := 522) (by decide +kernel)⟩
theorem lw_p14 : lw_okq (⟨"PluginHall", "refresh", "()I"⟩, 5) := ⟨⟨by decide +kernel, by decide +kernel⟩, List.mem_of_getElem? (i := 15) (by decide +kernel), List.mem_of_getElem? (i := 538) (by decide +kernel), List.mem_of_getElem? (i := 539) (by decide +kernel)⟩
theorem lw_p15 : lw_okq (⟨"PluginHall$Shelf", "markPoints", "()V"⟩, 4) := ⟨⟨by decide +kernel, by decide +kernel⟩, List.mem_of_getElem? (i := 276) (by decide +kernel), List.mem_of_getElem? (i := 546) (by decide +kernel), List.mem_of_getElem? (i := 547) (by decide +kernel)⟩
def lw_privs_1 : List (MethodName × Nat) := [(⟨"PluginHall$Reader", "reads", "(I)Z"⟩, 6), (⟨"PluginHall$Reader", "readsBetween", "(I)Z"⟩, 6), (⟨"PluginHall$Reader", "goTo", "(I)Z"⟩, 6), (⟨"PluginHall$Reader", "readsOpened", "(I)Z"⟩, 6), (⟨"PluginHall$Reader", "beginWord", "(I)Z"⟩, 6), (⟨"PluginHall$Reader", "readsTagName", "(I)Z"⟩, 6), (⟨"PluginHall$Reader", "readsTagEnd", "(I)Z"⟩, 6), (⟨"PluginHall$Reader", "appendToWord", "(I)Z"⟩, 6), (⟨"PluginHall$Reader", "readsTagSpaces", "(I)Z"⟩, 6), (⟨"PluginHall$Reader", "readsAttributeName", "(I)Z"⟩, 6), (⟨"PluginHall$Reader", "readsValue", "(I)Z"⟩, 6), (⟨"PluginHall$Reader", "close", "()Z"⟩, 6), (⟨"PluginHall$Reader", "readsClosingName", "(I)Z"⟩, 6), (⟨"PluginHall$Reader", "readsClosingEnd", "(I)Z"⟩, 6), (⟨"PluginHall", "refresh", "()I"⟩, 5), (⟨"PluginHall$Shelf", "markPoints", "()V"⟩, 4)]
theorem lw_r1 : ∀ q ∈ lw_privs_1, lw_okq q := List.forall_mem_cons.mpr ⟨lw_p0, List.forall_mem_cons.mpr ⟨lw_p1, List.forall_mem_cons.mpr ⟨lw_p2, List.forall_mem_cons.mpr ⟨lw_p3, List.forall_mem_cons.mpr ⟨lw_p4, List.forall_mem_cons.mpr ⟨lw_p5, List.forall_mem_cons.mpr ⟨lw_p6, List.forall_mem_cons.mpr ⟨lw_p7, List.forall_mem_cons.mpr ⟨lw_p8, List.forall_mem_cons.mpr ⟨lw_p9, List.forall_mem_cons.mpr ⟨lw_p10, List.forall_mem_cons.mpr ⟨lw_p11, List.forall_mem_cons.mpr ⟨lw_p12, List.forall_mem_cons.mpr ⟨lw_p13, List.forall_mem_cons.mpr ⟨lw_p14, List.forall_mem_cons.mpr ⟨lw_p15, fun _ h => absurd h List.not_mem_nil⟩⟩⟩⟩⟩⟩⟩⟩⟩⟩⟩⟩⟩⟩⟩⟩
theorem lw_p16 : lw_okq (⟨"PluginHall$Shelf", "isResolvedOutermost", "(IJ)Z"⟩, 4) := ⟨⟨by decide +kernel, by decide +kernel⟩, List.mem_of_getElem? (i := 276) (by decide +kernel), List.mem_of_getElem? (i := 562) (by decide +kernel), List.mem_of_getElem? (i := 563) (by decide +kernel)⟩
theorem lw_p17 : lw_okq (⟨"PluginHall$Shelf", "fitsItsPoint", "(I)Z"⟩, 4) := ⟨⟨by decide +kernel, by decide +kernel⟩, List.mem_of_getElem? (i := 276) (by decide +kernel), List.mem_of_getElem? (i := 571) (by decide +kernel), List.mem_of_getElem? (i := 572) (by decide +kernel)⟩
theorem lw_p18 : lw_okq (⟨"PluginHall$Shelf", "hasItems", "(I)Z"⟩, 4) := ⟨⟨by decide +kernel, by decide +kernel⟩, List.mem_of_getElem? (i := 276) (by decide +kernel), List.mem_of_getElem? (i := 575) (by decide +kernel), List.mem_of_getElem? (i := 576) (by decide +kernel)⟩
theorem lw_p19 : lw_okq (⟨"PluginHall$Shelf", "fitsAnItem", "(LPluginHall$Element;I)Z"⟩, 4) := ⟨⟨by decide +kernel, by decide +kernel⟩, List.mem_of_getElem? (i := 276) (by decide +kernel), List.mem_of_getElem? (i := 586) (by decide +kernel), List.mem_of_getElem? (i := 587) (by decide +kernel)⟩
theorem lw_p20 : lw_okq (⟨"PluginHall$Shelf", "tell", "(LPluginHall$History;)I"⟩, 4) := ⟨⟨by decide +kernel, by decide +kernel⟩, List.mem_of_getElem? (i := 276) (by decide +kernel), List.mem_of_getElem? (i := 592) (by decide +kernel), List.mem_of_getElem? (i := 593) (by decide +kernel)⟩
theorem lw_p21 : lw_okq (⟨"PluginHall$House", "classIn", "(IJ)I"⟩, 3) := ⟨⟨by decide +kernel, by decide +kernel⟩, List.mem_of_getElem? (i := 88) (by decide +kernel), List.mem_of_getElem? (i := 701) (by decide +kernel), List.mem_of_getElem? (i := 702) (by decide +kernel)⟩
theorem lw_p22 : lw_okq (⟨"PluginHall$House", "wakesFor", "(II)Z"⟩, 3) := ⟨⟨by decide +kernel, by decide +kernel⟩, List.mem_of_getElem? (i := 88) (by decide +kernel), List.mem_of_getElem? (i := 709) (by decide +kernel), List.mem_of_getElem? (i := 710) (by decide +kernel)⟩
theorem lw_p23 : lw_okq (⟨"PluginHall$House", "wakes", "(II)Z"⟩, 3) := ⟨⟨by decide +kernel, by decide +kernel⟩, List.mem_of_getElem? (i := 88) (by decide +kernel), List.mem_of_getElem? (i := 720) (by decide +kernel), List.mem_of_getElem? (i := 721) (by decide +kernel)⟩
theorem lw_p24 : lw_okq (⟨"PluginHall$House", "starterDoesWell", "(II)Z"⟩, 3) := ⟨⟨by decide +kernel, by decide +kernel⟩, List.mem_of_getElem? (i := 88) (by decide +kernel), List.mem_of_getElem? (i := 724) (by decide +kernel), List.mem_of_getElem? (i := 725) (by decide +kernel)⟩
theorem lw_p25 : lw_okq (⟨"PluginHall$House", "nextToStop", "()I"⟩, 3) := ⟨⟨by decide +kernel, by decide +kernel⟩, List.mem_of_getElem? (i := 88) (by decide +kernel), List.mem_of_getElem? (i := 759) (by decide +kernel), List.mem_of_getElem? (i := 760) (by decide +kernel)⟩
theorem lw_p26 : lw_okq (⟨"PluginHall$House", "isNeededByOthers", "(I)Z"⟩, 3) := ⟨⟨by decide +kernel, by decide +kernel⟩, List.mem_of_getElem? (i := 88) (by decide +kernel), List.mem_of_getElem? (i := 763) (by decide +kernel), List.mem_of_getElem? (i := 764) (by decide +kernel)⟩
theorem lw_p27 : lw_okq (⟨"PluginHallModel", "read", "(I)I"⟩, 42) := ⟨⟨by decide +kernel, by decide +kernel⟩, List.mem_of_getElem? (i := 795) (by decide +kernel), List.mem_of_getElem? (i := 965) (by decide +kernel), List.mem_of_getElem? (i := 966) (by decide +kernel)⟩
theorem lw_p28 : lw_okq (⟨"PluginHallModel", "go", "(II)Z"⟩, 42) := ⟨⟨by decide +kernel, by decide +kernel⟩, List.mem_of_getElem? (i := 795) (by decide +kernel), List.mem_of_getElem? (i := 969) (by decide +kernel), List.mem_of_getElem? (i := 970) (by decide +kernel)⟩
theorem lw_p29 : lw_okq (⟨"PluginHallModel", "begin", "(II)Z"⟩, 42) := ⟨⟨by decide +kernel, by decide +kernel⟩, List.mem_of_getElem? (i := 795) (by decide +kernel), List.mem_of_getElem? (i := 973) (by decide +kernel), List.mem_of_getElem? (i := 974) (by decide +kernel)⟩
theorem lw_p30 : lw_okq (⟨"PluginHallModel", "tag", "(IZ)Z"⟩, 42) := ⟨⟨by decide +kernel, by decide +kernel⟩, List.mem_of_getElem? (i := 795) (by decide +kernel), List.mem_of_getElem? (i := 977) (by decide +kernel), List.mem_of_getElem? (i := 978) (by decide +kernel)⟩
theorem lw_p31 : lw_okq (⟨"PluginHallModel", "attributeBegins", "(I)Z"⟩, 42) := ⟨⟨by decide +kernel, by decide +kernel⟩, List.mem_of_getElem? (i := 795) (by decide +kernel), List.mem_of_getElem? (i := 981) (by decide +kernel), List.mem_of_getElem? (i := 982) (by decide +kernel)⟩
def lw_privs_2 : List (MethodName × Nat) := [(⟨"PluginHall$Shelf", "isResolvedOutermost", "(IJ)Z"⟩, 4), (⟨"PluginHall$Shelf", "fitsItsPoint", "(I)Z"⟩, 4), (⟨"PluginHall$Shelf", "hasItems", "(I)Z"⟩, 4), (⟨"PluginHall$Shelf", "fitsAnItem", "(LPluginHall$Element;I)Z"⟩, 4), (⟨"PluginHall$Shelf", "tell", "(LPluginHall$History;)I"⟩, 4), (⟨"PluginHall$House", "classIn", "(IJ)I"⟩, 3), (⟨"PluginHall$House", "wakesFor", "(II)Z"⟩, 3), (⟨"PluginHall$House", "wakes", "(II)Z"⟩, 3), (⟨"PluginHall$House", "starterDoesWell", "(II)Z"⟩, 3), (⟨"PluginHall$House", "nextToStop", "()I"⟩, 3), (⟨"PluginHall$House", "isNeededByOthers", "(I)Z"⟩, 3), (⟨"PluginHallModel", "read", "(I)I"⟩, 42), (⟨"PluginHallModel", "go", "(II)Z"⟩, 42), (⟨"PluginHallModel", "begin", "(II)Z"⟩, 42), (⟨"PluginHallModel", "tag", "(IZ)Z"⟩, 42), (⟨"PluginHallModel", "attributeBegins", "(I)Z"⟩, 42)]
theorem lw_r2 : ∀ q ∈ lw_privs_2, lw_okq q := List.forall_mem_cons.mpr ⟨lw_p16, List.forall_mem_cons.mpr ⟨lw_p17, List.forall_mem_cons.mpr ⟨lw_p18, List.forall_mem_cons.mpr ⟨lw_p19, List.forall_mem_cons.mpr ⟨lw_p20, List.forall_mem_cons.mpr ⟨lw_p21, List.forall_mem_cons.mpr ⟨lw_p22, List.forall_mem_cons.mpr ⟨lw_p23, List.forall_mem_cons.mpr ⟨lw_p24, List.forall_mem_cons.mpr ⟨lw_p25, List.forall_mem_cons.mpr ⟨lw_p26, List.forall_mem_cons.mpr ⟨lw_p27, List.forall_mem_cons.mpr ⟨lw_p28, List.forall_mem_cons.mpr ⟨lw_p29, List.forall_mem_cons.mpr ⟨lw_p30, List.forall_mem_cons.mpr ⟨lw_p31, fun _ h => absurd h List.not_mem_nil⟩⟩⟩⟩⟩⟩⟩⟩⟩⟩⟩⟩⟩⟩⟩⟩
theorem lw_p32 : lw_okq (⟨"PluginHallModel", "attributeGoes", "(IZ)Z"⟩, 42) := ⟨⟨by decide +kernel, by decide +kernel⟩, List.mem_of_getElem? (i := 795) (by decide +kernel), List.mem_of_getElem? (i := 985) (by decide +kernel), List.mem_of_getElem? (i := 986) (by decide +kernel)⟩
theorem lw_p33 : lw_okq (⟨"PluginHallModel", "isTaken", "(IJ)Z"⟩, 42) := ⟨⟨by decide +kernel, by decide +kernel⟩, List.mem_of_getElem? (i := 795) (by decide +kernel), List.mem_of_getElem? (i := 989) (by decide +kernel), List.mem_of_getElem? (i := 990) (by decide +kernel)⟩
theorem lw_p34 : lw_okq (⟨"PluginHallModel", "change", "()I"⟩, 42) := ⟨⟨by decide +kernel, by decide +kernel⟩, List.mem_of_getElem? (i := 795) (by decide +kernel), List.mem_of_getElem? (i := 994) (by decide +kernel), List.mem_of_getElem? (i := 995) (by decide +kernel)⟩
theorem lw_p35 : lw_okq (⟨"PluginHallModel", "resolve", "()V"⟩, 42) := ⟨⟨by decide +kernel, by decide +kernel⟩, List.mem_of_getElem? (i := 795) (by decide +kernel), List.mem_of_getElem? (i := 998) (by decide +kernel), List.mem_of_getElem? (i := 999) (by decide +kernel)⟩
theorem lw_p36 : lw_okq (⟨"PluginHallModel", "unmet", "(I)I"⟩, 42) := ⟨⟨by decide +kernel, by decide +kernel⟩, List.mem_of_getElem? (i := 795) (by decide +kernel), List.mem_of_getElem? (i := 1002) (by decide +kernel), List.mem_of_getElem? (i := 1003) (by decide +kernel)⟩
theorem lw_p37 : lw_okq (⟨"PluginHallModel", "isMet", "(II)Z"⟩, 42) := ⟨⟨by decide +kernel, by decide +kernel⟩, List.mem_of_getElem? (i := 795) (by decide +kernel), List.mem_of_getElem? (i := 1006) (by decide +kernel), List.mem_of_getElem? (i := 1007) (by decide +kernel)⟩
theorem lw_p38 : lw_okq (⟨"PluginHallModel", "isExtension", "(I)Z"⟩, 42) := ⟨⟨by decide +kernel, by decide +kernel⟩, List.mem_of_getElem? (i := 795) (by decide +kernel), List.mem_of_getElem? (i := 1010) (by decide +kernel), List.mem_of_getElem? (i := 1011) (by decide +kernel)⟩
theorem lw_p39 : lw_okq (⟨"PluginHallModel", "isTop", "(IJ)Z"⟩, 42) := ⟨⟨by decide +kernel, by decide +kernel⟩, List.mem_of_getElem? (i := 795) (by decide +kernel), List.mem_of_getElem? (i := 1015) (by decide +kernel), List.mem_of_getElem? (i := 1016) (by decide +kernel)⟩
theorem lw_p40 : lw_okq (⟨"PluginHallModel", "isElement", "(I)Z"⟩, 42) := ⟨⟨by decide +kernel, by decide +kernel⟩, List.mem_of_getElem? (i := 795) (by decide +kernel), List.mem_of_getElem? (i := 1019) (by decide +kernel), List.mem_of_getElem? (i := 1020) (by decide +kernel)⟩
theorem lw_p41 : lw_okq (⟨"PluginHallModel", "valueOf", "(IJ)J"⟩, 42) := ⟨⟨by decide +kernel, by decide +kernel⟩, List.mem_of_getElem? (i := 795) (by decide +kernel), List.mem_of_getElem? (i := 1024) (by decide +kernel), List.mem_of_getElem? (i := 1025) (by decide +kernel)⟩
theorem lw_p42 : lw_okq (⟨"PluginHallModel", "pointOf", "(J)I"⟩, 42) := ⟨⟨by decide +kernel, by decide +kernel⟩, List.mem_of_getElem? (i := 795) (by decide +kernel), List.mem_of_getElem? (i := 1029) (by decide +kernel), List.mem_of_getElem? (i := 1030) (by decide +kernel)⟩
theorem lw_p43 : lw_okq (⟨"PluginHallModel", "isItem", "(II)Z"⟩, 42) := ⟨⟨by decide +kernel, by decide +kernel⟩, List.mem_of_getElem? (i := 795) (by decide +kernel), List.mem_of_getElem? (i := 1034) (by decide +kernel), List.mem_of_getElem? (i := 1035) (by decide +kernel)⟩
theorem lw_p44 : lw_okq (⟨"PluginHallModel", "suits", "(II)Z"⟩, 42) := ⟨⟨by decide +kernel, by decide +kernel⟩, List.mem_of_getElem? (i := 795) (by decide +kernel), List.mem_of_getElem? (i := 1040) (by decide +kernel), List.mem_of_getElem? (i := 1041) (by decide +kernel)⟩
theorem lw_p45 : lw_okq (⟨"PluginHallModel", "tell", "(I)V"⟩, 42) := ⟨⟨by decide +kernel, by decide +kernel⟩, List.mem_of_getElem? (i := 795) (by decide +kernel), List.mem_of_getElem? (i := 1045) (by decide +kernel), List.mem_of_getElem? (i := 1046) (by decide +kernel)⟩
theorem lw_p46 : lw_okq (⟨"PluginHallModel", "stop", "(I)V"⟩, 42) := ⟨⟨by decide +kernel, by decide +kernel⟩, List.mem_of_getElem? (i := 795) (by decide +kernel), List.mem_of_getElem? (i := 1053) (by decide +kernel), List.mem_of_getElem? (i := 1054) (by decide +kernel)⟩
theorem lw_p47 : lw_okq (⟨"PluginHallModel", "nextToStop", "()I"⟩, 42) := ⟨⟨by decide +kernel, by decide +kernel⟩, List.mem_of_getElem? (i := 795) (by decide +kernel), List.mem_of_getElem? (i := 1061) (by decide +kernel), List.mem_of_getElem? (i := 1062) (by decide +kernel)⟩
def lw_privs_3 : List (MethodName × Nat) := [(⟨"PluginHallModel", "attributeGoes", "(IZ)Z"⟩, 42), (⟨"PluginHallModel", "isTaken", "(IJ)Z"⟩, 42), (⟨"PluginHallModel", "change", "()I"⟩, 42), (⟨"PluginHallModel", "resolve", "()V"⟩, 42), (⟨"PluginHallModel", "unmet", "(I)I"⟩, 42), (⟨"PluginHallModel", "isMet", "(II)Z"⟩, 42), (⟨"PluginHallModel", "isExtension", "(I)Z"⟩, 42), (⟨"PluginHallModel", "isTop", "(IJ)Z"⟩, 42), (⟨"PluginHallModel", "isElement", "(I)Z"⟩, 42), (⟨"PluginHallModel", "valueOf", "(IJ)J"⟩, 42), (⟨"PluginHallModel", "pointOf", "(J)I"⟩, 42), (⟨"PluginHallModel", "isItem", "(II)Z"⟩, 42), (⟨"PluginHallModel", "suits", "(II)Z"⟩, 42), (⟨"PluginHallModel", "tell", "(I)V"⟩, 42), (⟨"PluginHallModel", "stop", "(I)V"⟩, 42), (⟨"PluginHallModel", "nextToStop", "()I"⟩, 42)]
theorem lw_r3 : ∀ q ∈ lw_privs_3, lw_okq q := List.forall_mem_cons.mpr ⟨lw_p32, List.forall_mem_cons.mpr ⟨lw_p33, List.forall_mem_cons.mpr ⟨lw_p34, List.forall_mem_cons.mpr ⟨lw_p35, List.forall_mem_cons.mpr ⟨lw_p36, List.forall_mem_cons.mpr ⟨lw_p37, List.forall_mem_cons.mpr ⟨lw_p38, List.forall_mem_cons.mpr ⟨lw_p39, List.forall_mem_cons.mpr ⟨lw_p40, List.forall_mem_cons.mpr ⟨lw_p41, List.forall_mem_cons.mpr ⟨lw_p42, List.forall_mem_cons.mpr ⟨lw_p43, List.forall_mem_cons.mpr ⟨lw_p44, List.forall_mem_cons.mpr ⟨lw_p45, List.forall_mem_cons.mpr ⟨lw_p46, List.forall_mem_cons.mpr ⟨lw_p47, fun _ h => absurd h List.not_mem_nil⟩⟩⟩⟩⟩⟩⟩⟩⟩⟩⟩⟩⟩⟩⟩⟩
theorem lw_p48 : lw_okq (⟨"PluginHallModel", "topOf", "(I)I"⟩, 42) := ⟨⟨by decide +kernel, by decide +kernel⟩, List.mem_of_getElem? (i := 795) (by decide +kernel), List.mem_of_getElem? (i := 1069) (by decide +kernel), List.mem_of_getElem? (i := 1070) (by decide +kernel)⟩
theorem lw_p49 : lw_okq (⟨"PluginHallModel", "lookFor", "(IJ)I"⟩, 42) := ⟨⟨by decide +kernel, by decide +kernel⟩, List.mem_of_getElem? (i := 795) (by decide +kernel), List.mem_of_getElem? (i := 1073) (by decide +kernel), List.mem_of_getElem? (i := 1074) (by decide +kernel)⟩
theorem lw_p50 : lw_okq (⟨"PluginHallModel", "wake", "(I)Z"⟩, 42) := ⟨⟨by decide +kernel, by decide +kernel⟩, List.mem_of_getElem? (i := 795) (by decide +kernel), List.mem_of_getElem? (i := 1077) (by decide +kernel), List.mem_of_getElem? (i := 1078) (by decide +kernel)⟩
theorem lw_p51 : lw_okq (⟨"PluginHallModel", "children", "(I)I"⟩, 42) := ⟨⟨by decide +kernel, by decide +kernel⟩, List.mem_of_getElem? (i := 795) (by decide +kernel), List.mem_of_getElem? (i := 1097) (by decide +kernel), List.mem_of_getElem? (i := 1098) (by decide +kernel)⟩
def lw_privs_4 : List (MethodName × Nat) := [(⟨"PluginHallModel", "topOf", "(I)I"⟩, 42), (⟨"PluginHallModel", "lookFor", "(IJ)I"⟩, 42), (⟨"PluginHallModel", "wake", "(I)Z"⟩, 42), (⟨"PluginHallModel", "children", "(I)I"⟩, 42)]
theorem lw_r4 : ∀ q ∈ lw_privs_4, lw_okq q := List.forall_mem_cons.mpr ⟨lw_p48, List.forall_mem_cons.mpr ⟨lw_p49, List.forall_mem_cons.mpr ⟨lw_p50, List.forall_mem_cons.mpr ⟨lw_p51, fun _ h => absurd h List.not_mem_nil⟩⟩⟩⟩
def lw_privs : List (MethodName × Nat) := lw_privs_1 ++ (lw_privs_2 ++ (lw_privs_3 ++ (lw_privs_4)))
def lw_tbl : List Cond := k2_sels lw_privs ++ tables_1
theorem lw_privs_ok : ∀ q ∈ lw_privs, lw_okq q := by
  show ∀ q ∈ lw_privs_1 ++ (lw_privs_2 ++ (lw_privs_3 ++ (lw_privs_4))), lw_okq q
  exact List.forall_mem_append.mpr ⟨lw_r1, List.forall_mem_append.mpr ⟨lw_r2, List.forall_mem_append.mpr ⟨lw_r3, lw_r4⟩⟩⟩
end
section
/-! TABLES OF THE ABSTRACT MACHINE: written by wip/whole/gen.py out of the listing and the tables of the Statement -/
def mx_ix {α : Type} (l : List (List α)) (i : Nat) (d : α) : α := (((l[i / 16]?).getD [])[i % 16]?).getD d
def mx_GT : List Cond := lw_tbl.filter goodWord
theorem mx_GT_ok : ∀ w ∈ mx_GT, (w.onTables && w.keeps) = true ∨ ∃ ty, w = .arrayClass ty := fun w hw => good_of_word (List.mem_filter.mp hw).2
theorem mx_g1 {w : Cond} (i : Nat) (h : tables_1_1[i]? = some w) (hg : goodWord w = true) : w ∈ mx_GT := by
  have h := List.mem_of_getElem? h
  exact List.mem_filter.mpr ⟨List.mem_append_right _ (List.mem_append_left _ h), hg⟩
theorem mx_g2 {w : Cond} (i : Nat) (h : tables_1_2[i]? = some w) (hg : goodWord w = true) : w ∈ mx_GT := by
  have h := List.mem_of_getElem? h
  exact List.mem_filter.mpr ⟨List.mem_append_right _ (List.mem_append_right _ (List.mem_append_left _ h)), hg⟩
theorem mx_g3 {w : Cond} (i : Nat) (h : tables_1_3[i]? = some w) (hg : goodWord w = true) : w ∈ mx_GT := by
  have h := List.mem_of_getElem? h
  exact List.mem_filter.mpr ⟨List.mem_append_right _ (List.mem_append_right _ (List.mem_append_right _ (List.mem_append_left _ h))), hg⟩
theorem mx_g4 {w : Cond} (i : Nat) (h : tables_1_4[i]? = some w) (hg : goodWord w = true) : w ∈ mx_GT := by
  have h := List.mem_of_getElem? h
  exact List.mem_filter.mpr ⟨List.mem_append_right _ (List.mem_append_right _ (List.mem_append_right _ (List.mem_append_right _ (List.mem_append_left _ h)))), hg⟩
theorem mx_g5 {w : Cond} (i : Nat) (h : tables_1_5[i]? = some w) (hg : goodWord w = true) : w ∈ mx_GT := by
  have h := List.mem_of_getElem? h
  exact List.mem_filter.mpr ⟨List.mem_append_right _ (List.mem_append_right _ (List.mem_append_right _ (List.mem_append_right _ (List.mem_append_right _ (h))))), hg⟩
theorem mx_g0 {y : MethodName} {n : Nat} (i : Nat) (h : lw_privs[i]? = some (y, n)) : Cond.selects y.cls y y ∈ mx_GT := List.mem_filter.mpr ⟨List.mem_append_left _ (List.mem_map.mpr ⟨(y, n), List.mem_of_getElem? h, rfl⟩), rfl⟩
theorem mx_t1 {w : Cond} (i : Nat) (h : tables_1_1[i]? = some w) : w ∈ lw_tbl := by
  have h := List.mem_of_getElem? h
  exact List.mem_append_right _ (List.mem_append_left _ h)
theorem mx_t2 {w : Cond} (i : Nat) (h : tables_1_2[i]? = some w) : w ∈ lw_tbl := by
  have h := List.mem_of_getElem? h
  exact List.mem_append_right _ (List.mem_append_right _ (List.mem_append_left _ h))
theorem mx_t3 {w : Cond} (i : Nat) (h : tables_1_3[i]? = some w) : w ∈ lw_tbl := by
  have h := List.mem_of_getElem? h
  exact List.mem_append_right _ (List.mem_append_right _ (List.mem_append_right _ (List.mem_append_left _ h)))
theorem mx_t4 {w : Cond} (i : Nat) (h : tables_1_4[i]? = some w) : w ∈ lw_tbl := by
  have h := List.mem_of_getElem? h
  exact List.mem_append_right _ (List.mem_append_right _ (List.mem_append_right _ (List.mem_append_right _ (List.mem_append_left _ h))))
theorem mx_t5 {w : Cond} (i : Nat) (h : tables_1_5[i]? = some w) : w ∈ lw_tbl := by
  have h := List.mem_of_getElem? h
  exact List.mem_append_right _ (List.mem_append_right _ (List.mem_append_right _ (List.mem_append_right _ (List.mem_append_right _ (h)))))
theorem mx_fc {α : Type} {P : α → Prop} {a : α} {l : List α} (h : P a) (t : ∀ x ∈ l, P x) : ∀ x ∈ a :: l, P x := fun x hx => (List.mem_cons.mp hx).elim (fun e => e ▸ h) (t x)
theorem mx_f0 {α : Type} {P : α → Prop} : ∀ x ∈ ([] : List α), P x := fun _ h => absurd h List.not_mem_nil
theorem mx_lk {α : Type} {l : List (Nat × α)} {k : Nat} {v : α} (h : l.lookup k = some v) : (k, v) ∈ l := by
  induction l with
  | nil => cases h
  | cons a l ih =>
    obtain ⟨a1, a2⟩ := a
    rw [List.lookup_cons] at h
    by_cases e : k = a1
    · subst e
      simp at h
      subst h
      exact List.mem_cons_self
    · have e2 : (k == a1) = false := by simp [e]
      rw [e2] at h
      exact List.mem_cons_of_mem _ (ih h)
def mx_F0 : u_T := fun k => match k with
  | 0 => ("PluginHall", "draft", "LPluginHall$Draft;", true)
  | 1 => ("PluginHall", "house", "LPluginHall$House;", true)
  | 2 => ("PluginHall", "shelf", "LPluginHall$Shelf;", true)
  | 3 => ("PluginHall", "made", "LPluginHall$Made;", true)
  | _ => ("PluginHall", "events", "LPluginHall$History;", true)
def mx_F1 : u_T := fun k => match k with
  | 0 => ("PluginHall$Draft", "letters", "[B", true)
  | 1 => ("PluginHall$Draft", "wiring", "LPluginHall$Wiring;", true)
  | _ => ("PluginHall$Draft", "length", "I", false)
def mx_F2 : u_T := fun k => match k with
  | 0 => ("PluginHall$Wiring", "needed", "[I", true)
  | 1 => ("PluginHall$Wiring", "low", "[I", true)
  | 2 => ("PluginHall$Wiring", "high", "[I", true)
  | 3 => ("PluginHall$Wiring", "words", "[J", true)
  | 4 => ("PluginHall$Wiring", "kinds", "[I", true)
  | 5 => ("PluginHall$Wiring", "needs", "I", false)
  | 6 => ("PluginHall$Wiring", "classes", "I", false)
  | 7 => ("PluginHall$Wiring", "starterKind", "I", false)
  | _ => ("PluginHall$Wiring", "starterWord", "J", false)
def mx_F3 : u_T := fun k => match k with
  | 0 => ("PluginHall$Element", "names", "[J", true)
  | 1 => ("PluginHall$Element", "values", "[J", true)
  | 2 => ("PluginHall$Element", "attributes", "I", false)
  | 3 => ("PluginHall$Element", "number", "I", false)
  | 4 => ("PluginHall$Element", "parent", "I", false)
  | 5 => ("PluginHall$Element", "outermost", "I", false)
  | 6 => ("PluginHall$Element", "depth", "I", false)
  | _ => ("PluginHall$Element", "name", "J", false)
def mx_F4 : u_T := fun k => match k with
  | 0 => ("PluginHall$Tree", "rows", "[LPluginHall$Element;", true)
  | 1 => ("PluginHall$Tree", "nothing", "LPluginHall$Element;", true)
  | _ => ("PluginHall$Tree", "size", "I", false)
def mx_F5 : u_T := fun k => match k with
  | 0 => ("PluginHall$Reader", "tree", "LPluginHall$Tree;", true)
  | 1 => ("PluginHall$Reader", "here", "LPluginHall$Element;", false)
  | 2 => ("PluginHall$Reader", "state", "I", false)
  | 3 => ("PluginHall$Reader", "word", "J", false)
  | 4 => ("PluginHall$Reader", "wordLength", "I", false)
  | _ => ("PluginHall$Reader", "attributeName", "J", false)
def mx_F6 : u_T := fun k => match k with
  | 0 => ("PluginHall$Plugin", "wiring", "LPluginHall$Wiring;", true)
  | 1 => ("PluginHall$Plugin", "tree", "LPluginHall$Tree;", true)
  | 2 => ("PluginHall$Plugin", "reader", "LPluginHall$Reader;", true)
  | 3 => ("PluginHall$Plugin", "installed", "Z", false)
  | 4 => ("PluginHall$Plugin", "resolved", "Z", false)
  | 5 => ("PluginHall$Plugin", "starting", "Z", false)
  | 6 => ("PluginHall$Plugin", "active", "Z", false)
  | 7 => ("PluginHall$Plugin", "version", "I", false)
  | 8 => ("PluginHall$Plugin", "starts", "I", false)
  | 9 => ("PluginHall$Plugin", "faultPlace", "I", false)
  | _ => ("PluginHall$Plugin", "faultLine", "I", false)
def mx_F7 : u_T := fun k => match k with
  | 0 => ("PluginHall$House", "row", "[LPluginHall$Plugin;", true)
  | 1 => ("PluginHall$House", "nothing", "LPluginHall$Element;", true)
  | _ => ("PluginHall$House", "stops", "LPluginHall$History;", true)
def mx_F8 : u_T := fun k => match k with
  | 0 => ("PluginHall$Shelf", "house", "LPluginHall$House;", true)
  | 1 => ("PluginHall$Shelf", "isPoint", "[Z", true)
  | 2 => ("PluginHall$Shelf", "isExtension", "[Z", true)
  | _ => ("PluginHall$Shelf", "wasExtension", "[Z", true)
def mx_F9 : u_T := fun k => match k with
  | 0 => ("PluginHall$Made", "sources", "[I", true)
  | 1 => ("PluginHall$Made", "outermost", "[I", true)
  | 2 => ("PluginHall$Made", "owners", "[I", true)
  | 3 => ("PluginHall$Made", "dropped", "[Z", true)
  | _ => ("PluginHall$Made", "total", "I", false)
def mx_F10 : u_T := fun k => match k with
  | 0 => ("PluginHall$History", "latest", "[I", true)
  | 1 => ("PluginHall$History", "next", "I", false)
  | _ => ("PluginHall$History", "total", "I", false)
def mx_F11 : u_T := fun k => match k with
  | 0 => ("PluginHallModel", "text", "[I", true)
  | 1 => ("PluginHallModel", "needs", "[I", true)
  | 2 => ("PluginHallModel", "needOf", "[I", true)
  | 3 => ("PluginHallModel", "low", "[I", true)
  | 4 => ("PluginHallModel", "high", "[I", true)
  | 5 => ("PluginHallModel", "classes", "[I", true)
  | 6 => ("PluginHallModel", "kindOf", "[I", true)
  | 7 => ("PluginHallModel", "starter", "[I", true)
  | 8 => ("PluginHallModel", "classWord", "[J", true)
  | 9 => ("PluginHallModel", "asks", "[J", true)
  | 10 => ("PluginHallModel", "length", "I", false)
  | 11 => ("PluginHallModel", "mode", "I", false)
  | 12 => ("PluginHallModel", "inside", "I", false)
  | 13 => ("PluginHallModel", "last", "I", false)
  | 14 => ("PluginHallModel", "letters", "I", false)
  | 15 => ("PluginHallModel", "installed", "[Z", true)
  | 16 => ("PluginHallModel", "resolved", "[Z", true)
  | 17 => ("PluginHallModel", "active", "[Z", true)
  | 18 => ("PluginHallModel", "starting", "[Z", true)
  | 19 => ("PluginHallModel", "version", "[I", true)
  | 20 => ("PluginHallModel", "fault", "[I", true)
  | 21 => ("PluginHallModel", "line", "[I", true)
  | 22 => ("PluginHallModel", "starts", "[I", true)
  | 23 => ("PluginHallModel", "elements", "[I", true)
  | 24 => ("PluginHallModel", "chain", "[I", true)
  | 25 => ("PluginHallModel", "names", "[J", true)
  | 26 => ("PluginHallModel", "attributeName", "[J", true)
  | 27 => ("PluginHallModel", "value", "[J", true)
  | 28 => ("PluginHallModel", "parent", "[I", true)
  | 29 => ("PluginHallModel", "depth", "[I", true)
  | 30 => ("PluginHallModel", "attributes", "[I", true)
  | 31 => ("PluginHallModel", "isExt", "[Z", true)
  | 32 => ("PluginHallModel", "was", "[Z", true)
  | 33 => ("PluginHallModel", "objectOf", "[I", true)
  | 34 => ("PluginHallModel", "objectPlugin", "[I", true)
  | 35 => ("PluginHallModel", "objectTop", "[I", true)
  | 36 => ("PluginHallModel", "events", "[I", true)
  | 37 => ("PluginHallModel", "stops", "[I", true)
  | 38 => ("PluginHallModel", "dropped", "[Z", true)
  | 39 => ("PluginHallModel", "objects", "I", false)
  | 40 => ("PluginHallModel", "eventCount", "I", false)
  | _ => ("PluginHallModel", "stopCount", "I", false)
def mx_cls : List vw_C := [("PluginHall", mx_F0, 5), ("PluginHall$Draft", mx_F1, 3), ("PluginHall$Wiring", mx_F2, 9), ("PluginHall$Element", mx_F3, 8), ("PluginHall$Tree", mx_F4, 3), ("PluginHall$Reader", mx_F5, 6), ("PluginHall$Plugin", mx_F6, 11), ("PluginHall$House", mx_F7, 3), ("PluginHall$Shelf", mx_F8, 4), ("PluginHall$Made", mx_F9, 5), ("PluginHall$History", mx_F10, 3), ("PluginHallModel", mx_F11, 42)]
def mx_ftT : List (List FieldType) := [[(.object "PluginHall$Draft"), (.object "PluginHall$House"), (.object "PluginHall$Shelf"), (.object "PluginHall$Made"), (.object "PluginHall$History")],
  [(.array .byte), (.object "PluginHall$Wiring"), .int],
  [(.array .int), (.array .int), (.array .int), (.array .long), (.array .int), .int, .int, .int, .long],
  [(.array .long), (.array .long), .int, .int, .int, .int, .int, .long],
  [(.array (.object "PluginHall$Element")), (.object "PluginHall$Element"), .int],
  [(.object "PluginHall$Tree"), (.object "PluginHall$Element"), .int, .long, .int, .long],
  [(.object "PluginHall$Wiring"), (.object "PluginHall$Tree"), (.object "PluginHall$Reader"), .boolean, .boolean, .boolean, .boolean, .int, .int, .int, .int],
  [(.array (.object "PluginHall$Plugin")), (.object "PluginHall$Element"), (.object "PluginHall$History")],
  [(.object "PluginHall$House"), (.array .boolean), (.array .boolean), (.array .boolean)],
  [(.array .int), (.array .int), (.array .int), (.array .boolean), .int],
  [(.array .int), .int, .int],
  [(.array .int), (.array .int), (.array .int), (.array .int), (.array .int), (.array .int), (.array .int), (.array .int), (.array .long), (.array .long), .int, .int, .int, .int, .int, (.array .boolean), (.array .boolean), (.array .boolean), (.array .boolean), (.array .int), (.array .int), (.array .int), (.array .int), (.array .int), (.array .int), (.array .long), (.array .long), (.array .long), (.array .int), (.array .int), (.array .int), (.array .boolean), (.array .boolean), (.array .int), (.array .int), (.array .int), (.array .int), (.array .int), (.array .boolean), .int, .int, .int]]
def mx_fty (ci k : Nat) : FieldType := (((mx_ftT[ci]?).getD [])[k]?).getD .int
def mx_fiT : List (List Bool) := [[true, true, true, true, true], [true, true, false], [true, true, true, true, true, false, false, false, false], [true, true, false, false, false, false, false, false], [true, true, false], [true, false, false, false, false, false], [true, true, true, false, false, false, false, false, false, false, false], [true, true, true], [true, true, true, true], [true, true, true, true, false], [true, false, false], [true, true, true, true, true, true, true, true, true, true, false, false, false, false, false, true, true, true, true, true, true, true, true, true, true, true, true, true, true, true, true, true, true, true, true, true, true, true, true, false, false, false]]
def mx_fin (ci k : Nat) : Bool := (((mx_fiT[ci]?).getD [])[k]?).getD true
def mx_fn (ci : Nat) : Nat := match mx_cls[ci]? with | some q => q.2.2 | none => 0
def mx_crg (ci : Nat) : Nat := bif Nat.beq ci 11 then 1 else 0
def mx_own (o : Nat) : String := ((["PluginHall", "PluginHall$Draft", "PluginHall$Wiring", "PluginHall$Element", "PluginHall$Tree", "PluginHall$Reader", "PluginHall$Plugin", "PluginHall$House", "PluginHall$Shelf", "PluginHall$Made", "PluginHall$History", "PluginHallModel", "PluginHallLaw", "java/lang/Math"] : List String)[o]?).getD ""
def mx_knT : List FieldType := [.byte, .int, .int, .int, .long, .int, .long, .long, (.object "PluginHall$Element"), (.object "PluginHall$Plugin"), .boolean, .boolean, .boolean, .int, .int, .int, .boolean, .int, .int, .int, .int, .int, .int, .int, .int, .int, .long, .long, .boolean, .boolean, .boolean, .boolean, .int, .int, .int, .int, .int, .int, .long, .long, .long, .int, .int, .int, .boolean, .boolean, .int, .int, .int, .int, .int, .boolean]
def mx_knd (t : Nat) : Nat ⊕ FieldType := bif Nat.blt t 63 then Sum.inl t else bif Nat.beq t 63 then Sum.inr .int else (match mx_knT[t - 64]? with | some ty => Sum.inr ty | none => Sum.inl t)
theorem mx_knd_scr : mx_knd 63 = Sum.inr .int := rfl
def mx_stT : List (Nat × Nat × Nat) := [(29008, 0, 64), (33006, 0, 65), (33013, 0, 66), (33020, 0, 67), (33027, 0, 68), (33034, 0, 69), (41006, 0, 70), (41013, 0, 71), (47012, 0, 72), (77018, 0, 73), (96013, 0, 74), (96022, 0, 75), (96031, 0, 76), (109007, 0, 77), (109015, 0, 78), (109023, 0, 79), (109031, 0, 80), (113006, 0, 81), (116008, 1, 82), (116016, 1, 83), (116024, 1, 84), (116032, 1, 85), (116040, 1, 86), (116048, 1, 87), (116056, 1, 88), (116064, 1, 89), (116072, 1, 90), (116080, 1, 91), (116088, 1, 92), (116096, 1, 93), (116104, 1, 94), (116112, 1, 95), (116120, 1, 96), (116128, 1, 97), (116136, 1, 98), (116144, 1, 99), (116152, 1, 100), (116160, 1, 101), (116169, 1, 102), (116178, 1, 103), (116187, 1, 104), (116196, 1, 105), (116205, 1, 106), (116214, 1, 107), (116223, 1, 108), (116232, 1, 109), (116240, 1, 110), (116248, 1, 111), (116256, 1, 112), (116264, 1, 113), (116272, 1, 114), (116280, 1, 115)]
def mx_site (mid pc : Nat) : Option (Nat × Nat) := mx_stT.lookup (mid * 1000 + pc)
def mx_aty : List FieldType := [.byte, .int, .long, (.object "PluginHall$Element"), (.object "PluginHall$Plugin"), .boolean]
def mx_ao : List String := ["PluginHall$Plugin", "PluginHall$Element"]
def mx_gty : FieldType → Bool | .float => false | .double => false | _ => true
theorem mx_knd_ok {t : Nat} {ty : FieldType} (h : mx_knd t = Sum.inr ty) : ty ∈ mx_aty := by
  unfold mx_knd at h
  cases h1 : Nat.blt t 63 with
  | true => rw [h1] at h; cases h
  | false =>
    rw [h1] at h
    cases h2 : Nat.beq t 63 with
    | true => rw [h2] at h; cases h; decide
    | false =>
      rw [h2] at h
      simp only [cond_false] at h
      split at h
      · rename_i ty2 hq
        cases h
        have hm := List.mem_of_getElem? hq
        have ha : mx_knT.all (fun x => decide (x ∈ mx_aty)) = true := by decide +kernel
        exact of_decide_eq_true (List.all_eq_true.mp ha _ hm)
      · cases h
theorem mx_gty_ok {ty : FieldType} (h : ty ∈ mx_aty) : mx_gty ty = true := by
  have ha : mx_aty.all mx_gty = true := by decide
  exact List.all_eq_true.mp ha _ h
theorem mx_aty_ok {at_ : Jvm.ClassFile.ArrayType} (h : newarray.typeOf at_ ∈ mx_aty) : Cond.arrayClass (newarray.typeOf at_) ∈ mx_GT := by
  cases at_
  · exact (mx_g2 56 rfl rfl)
  · exact absurd h (by decide)
  · exact absurd h (by decide)
  · exact absurd h (by decide)
  · exact (mx_g1 69 rfl rfl)
  · exact absurd h (by decide)
  · exact (mx_g1 70 rfl rfl)
  · exact (mx_g1 71 rfl rfl)
set_option maxRecDepth 20000 in
theorem mx_co0 : (∀ w ∈ u_ws "PluginHall" mx_F0 5, w ∈ mx_GT) ∧ (∀ a, a < 5 → ∀ b, b < 5 → a ≠ b → (mx_F0 a).2.1 ≠ (mx_F0 b).2.1) ∧ (∀ k, k < 5 → parseFieldDescriptor (mx_F0 k).2.2.1 = some (mx_fty 0 k)) ∧ (∀ k, k < 5 → (mx_F0 k).2.2.2 = mx_fin 0 k ∧ (mx_F0 k).1 = "PluginHall" ∧ mx_gty (mx_fty 0 k) = true) ∧ mx_own 0 = "PluginHall" ∧ mx_knd 0 = Sum.inl 0 ∧ mx_fn 0 = 5 :=
  ⟨mx_fc (mx_g2 90 rfl rfl) (mx_fc (mx_g2 92 rfl rfl) (mx_fc (mx_g2 94 rfl rfl) (mx_fc (mx_g2 96 rfl rfl) (mx_fc (mx_g2 98 rfl rfl) (mx_f0))))), by decide +kernel, by decide +kernel, by decide +kernel, rfl, rfl, rfl⟩
set_option maxRecDepth 20000 in
theorem mx_co1 : (∀ w ∈ u_ws "PluginHall$Draft" mx_F1 3, w ∈ mx_GT) ∧ (∀ a, a < 3 → ∀ b, b < 3 → a ≠ b → (mx_F1 a).2.1 ≠ (mx_F1 b).2.1) ∧ (∀ k, k < 3 → parseFieldDescriptor (mx_F1 k).2.2.1 = some (mx_fty 1 k)) ∧ (∀ k, k < 3 → (mx_F1 k).2.2.2 = mx_fin 1 k ∧ (mx_F1 k).1 = "PluginHall$Draft" ∧ mx_gty (mx_fty 1 k) = true) ∧ mx_own 1 = "PluginHall$Draft" ∧ mx_knd 1 = Sum.inl 1 ∧ mx_fn 1 = 3 :=
  ⟨mx_fc (mx_g1 80 rfl rfl) (mx_fc (mx_g1 82 rfl rfl) (mx_fc (mx_g1 84 rfl rfl) (mx_f0))), by decide +kernel, by decide +kernel, by decide +kernel, rfl, rfl, rfl⟩
set_option maxRecDepth 20000 in
theorem mx_co2 : (∀ w ∈ u_ws "PluginHall$Wiring" mx_F2 9, w ∈ mx_GT) ∧ (∀ a, a < 9 → ∀ b, b < 9 → a ≠ b → (mx_F2 a).2.1 ≠ (mx_F2 b).2.1) ∧ (∀ k, k < 9 → parseFieldDescriptor (mx_F2 k).2.2.1 = some (mx_fty 2 k)) ∧ (∀ k, k < 9 → (mx_F2 k).2.2.2 = mx_fin 2 k ∧ (mx_F2 k).1 = "PluginHall$Wiring" ∧ mx_gty (mx_fty 2 k) = true) ∧ mx_own 2 = "PluginHall$Wiring" ∧ mx_knd 2 = Sum.inl 2 ∧ mx_fn 2 = 9 :=
  ⟨mx_fc (mx_g1 50 rfl rfl) (mx_fc (mx_g1 52 rfl rfl) (mx_fc (mx_g1 54 rfl rfl) (mx_fc (mx_g1 56 rfl rfl) (mx_fc (mx_g1 58 rfl rfl) (mx_fc (mx_g1 60 rfl rfl) (mx_fc (mx_g1 62 rfl rfl) (mx_fc (mx_g1 64 rfl rfl) (mx_fc (mx_g1 66 rfl rfl) (mx_f0))))))))), by decide +kernel, by decide +kernel, by decide +kernel, rfl, rfl, rfl⟩
set_option maxRecDepth 20000 in
theorem mx_co3 : (∀ w ∈ u_ws "PluginHall$Element" mx_F3 8, w ∈ mx_GT) ∧ (∀ a, a < 8 → ∀ b, b < 8 → a ≠ b → (mx_F3 a).2.1 ≠ (mx_F3 b).2.1) ∧ (∀ k, k < 8 → parseFieldDescriptor (mx_F3 k).2.2.1 = some (mx_fty 3 k)) ∧ (∀ k, k < 8 → (mx_F3 k).2.2.2 = mx_fin 3 k ∧ (mx_F3 k).1 = "PluginHall$Element" ∧ mx_gty (mx_fty 3 k) = true) ∧ mx_own 3 = "PluginHall$Element" ∧ mx_knd 3 = Sum.inl 3 ∧ mx_fn 3 = 8 :=
  ⟨mx_fc (mx_g1 122 rfl rfl) (mx_fc (mx_g1 124 rfl rfl) (mx_fc (mx_g1 126 rfl rfl) (mx_fc (mx_g1 128 rfl rfl) (mx_fc (mx_g1 130 rfl rfl) (mx_fc (mx_g1 132 rfl rfl) (mx_fc (mx_g1 134 rfl rfl) (mx_fc (mx_g1 136 rfl rfl) (mx_f0)))))))), by decide +kernel, by decide +kernel, by decide +kernel, rfl, rfl, rfl⟩
set_option maxRecDepth 20000 in
theorem mx_co4 : (∀ w ∈ u_ws "PluginHall$Tree" mx_F4 3, w ∈ mx_GT) ∧ (∀ a, a < 3 → ∀ b, b < 3 → a ≠ b → (mx_F4 a).2.1 ≠ (mx_F4 b).2.1) ∧ (∀ k, k < 3 → parseFieldDescriptor (mx_F4 k).2.2.1 = some (mx_fty 4 k)) ∧ (∀ k, k < 3 → (mx_F4 k).2.2.2 = mx_fin 4 k ∧ (mx_F4 k).1 = "PluginHall$Tree" ∧ mx_gty (mx_fty 4 k) = true) ∧ mx_own 4 = "PluginHall$Tree" ∧ mx_knd 4 = Sum.inl 4 ∧ mx_fn 4 = 3 :=
  ⟨mx_fc (mx_g1 163 rfl rfl) (mx_fc (mx_g1 165 rfl rfl) (mx_fc (mx_g1 167 rfl rfl) (mx_f0))), by decide +kernel, by decide +kernel, by decide +kernel, rfl, rfl, rfl⟩
set_option maxRecDepth 20000 in
theorem mx_co5 : (∀ w ∈ u_ws "PluginHall$Reader" mx_F5 6, w ∈ mx_GT) ∧ (∀ a, a < 6 → ∀ b, b < 6 → a ≠ b → (mx_F5 a).2.1 ≠ (mx_F5 b).2.1) ∧ (∀ k, k < 6 → parseFieldDescriptor (mx_F5 k).2.2.1 = some (mx_fty 5 k)) ∧ (∀ k, k < 6 → (mx_F5 k).2.2.2 = mx_fin 5 k ∧ (mx_F5 k).1 = "PluginHall$Reader" ∧ mx_gty (mx_fty 5 k) = true) ∧ mx_own 5 = "PluginHall$Reader" ∧ mx_knd 5 = Sum.inl 5 ∧ mx_fn 5 = 6 :=
  ⟨mx_fc (mx_g1 182 rfl rfl) (mx_fc (mx_g1 184 rfl rfl) (mx_fc (mx_g1 186 rfl rfl) (mx_fc (mx_g1 188 rfl rfl) (mx_fc (mx_g1 190 rfl rfl) (mx_fc (mx_g1 192 rfl rfl) (mx_f0)))))), by decide +kernel, by decide +kernel, by decide +kernel, rfl, rfl, rfl⟩
set_option maxRecDepth 20000 in
theorem mx_co6 : (∀ w ∈ u_ws "PluginHall$Plugin" mx_F6 11, w ∈ mx_GT) ∧ (∀ a, a < 11 → ∀ b, b < 11 → a ≠ b → (mx_F6 a).2.1 ≠ (mx_F6 b).2.1) ∧ (∀ k, k < 11 → parseFieldDescriptor (mx_F6 k).2.2.1 = some (mx_fty 6 k)) ∧ (∀ k, k < 11 → (mx_F6 k).2.2.2 = mx_fin 6 k ∧ (mx_F6 k).1 = "PluginHall$Plugin" ∧ mx_gty (mx_fty 6 k) = true) ∧ mx_own 6 = "PluginHall$Plugin" ∧ mx_knd 6 = Sum.inl 6 ∧ mx_fn 6 = 11 :=
  ⟨mx_fc (mx_g1 220 rfl rfl) (mx_fc (mx_g1 222 rfl rfl) (mx_fc (mx_g1 224 rfl rfl) (mx_fc (mx_g1 226 rfl rfl) (mx_fc (mx_g1 228 rfl rfl) (mx_fc (mx_g1 230 rfl rfl) (mx_fc (mx_g1 232 rfl rfl) (mx_fc (mx_g1 234 rfl rfl) (mx_fc (mx_g1 236 rfl rfl) (mx_fc (mx_g1 238 rfl rfl) (mx_fc (mx_g2 0 rfl rfl) (mx_f0))))))))))), by decide +kernel, by decide +kernel, by decide +kernel, rfl, rfl, rfl⟩
set_option maxRecDepth 20000 in
theorem mx_co7 : (∀ w ∈ u_ws "PluginHall$House" mx_F7 3, w ∈ mx_GT) ∧ (∀ a, a < 3 → ∀ b, b < 3 → a ≠ b → (mx_F7 a).2.1 ≠ (mx_F7 b).2.1) ∧ (∀ k, k < 3 → parseFieldDescriptor (mx_F7 k).2.2.1 = some (mx_fty 7 k)) ∧ (∀ k, k < 3 → (mx_F7 k).2.2.2 = mx_fin 7 k ∧ (mx_F7 k).1 = "PluginHall$House" ∧ mx_gty (mx_fty 7 k) = true) ∧ mx_own 7 = "PluginHall$House" ∧ mx_knd 7 = Sum.inl 7 ∧ mx_fn 7 = 3 :=
  ⟨mx_fc (mx_g2 28 rfl rfl) (mx_fc (mx_g2 30 rfl rfl) (mx_fc (mx_g2 32 rfl rfl) (mx_f0))), by decide +kernel, by decide +kernel, by decide +kernel, rfl, rfl, rfl⟩
set_option maxRecDepth 20000 in
theorem mx_co8 : (∀ w ∈ u_ws "PluginHall$Shelf" mx_F8 4, w ∈ mx_GT) ∧ (∀ a, a < 4 → ∀ b, b < 4 → a ≠ b → (mx_F8 a).2.1 ≠ (mx_F8 b).2.1) ∧ (∀ k, k < 4 → parseFieldDescriptor (mx_F8 k).2.2.1 = some (mx_fty 8 k)) ∧ (∀ k, k < 4 → (mx_F8 k).2.2.2 = mx_fin 8 k ∧ (mx_F8 k).1 = "PluginHall$Shelf" ∧ mx_gty (mx_fty 8 k) = true) ∧ mx_own 8 = "PluginHall$Shelf" ∧ mx_knd 8 = Sum.inl 8 ∧ mx_fn 8 = 4 :=
  ⟨mx_fc (mx_g2 47 rfl rfl) (mx_fc (mx_g2 49 rfl rfl) (mx_fc (mx_g2 51 rfl rfl) (mx_fc (mx_g2 53 rfl rfl) (mx_f0)))), by decide +kernel, by decide +kernel, by decide +kernel, rfl, rfl, rfl⟩
set_option maxRecDepth 20000 in
theorem mx_co9 : (∀ w ∈ u_ws "PluginHall$Made" mx_F9 5, w ∈ mx_GT) ∧ (∀ a, a < 5 → ∀ b, b < 5 → a ≠ b → (mx_F9 a).2.1 ≠ (mx_F9 b).2.1) ∧ (∀ k, k < 5 → parseFieldDescriptor (mx_F9 k).2.2.1 = some (mx_fty 9 k)) ∧ (∀ k, k < 5 → (mx_F9 k).2.2.2 = mx_fin 9 k ∧ (mx_F9 k).1 = "PluginHall$Made" ∧ mx_gty (mx_fty 9 k) = true) ∧ mx_own 9 = "PluginHall$Made" ∧ mx_knd 9 = Sum.inl 9 ∧ mx_fn 9 = 5 :=
  ⟨mx_fc (mx_g2 72 rfl rfl) (mx_fc (mx_g2 74 rfl rfl) (mx_fc (mx_g2 76 rfl rfl) (mx_fc (mx_g2 78 rfl rfl) (mx_fc (mx_g2 80 rfl rfl) (mx_f0))))), by decide +kernel, by decide +kernel, by decide +kernel, rfl, rfl, rfl⟩
set_option maxRecDepth 20000 in
theorem mx_co10 : (∀ w ∈ u_ws "PluginHall$History" mx_F10 3, w ∈ mx_GT) ∧ (∀ a, a < 3 → ∀ b, b < 3 → a ≠ b → (mx_F10 a).2.1 ≠ (mx_F10 b).2.1) ∧ (∀ k, k < 3 → parseFieldDescriptor (mx_F10 k).2.2.1 = some (mx_fty 10 k)) ∧ (∀ k, k < 3 → (mx_F10 k).2.2.2 = mx_fin 10 k ∧ (mx_F10 k).1 = "PluginHall$History" ∧ mx_gty (mx_fty 10 k) = true) ∧ mx_own 10 = "PluginHall$History" ∧ mx_knd 10 = Sum.inl 10 ∧ mx_fn 10 = 3 :=
  ⟨mx_fc (mx_g2 15 rfl rfl) (mx_fc (mx_g2 17 rfl rfl) (mx_fc (mx_g2 19 rfl rfl) (mx_f0))), by decide +kernel, by decide +kernel, by decide +kernel, rfl, rfl, rfl⟩
set_option maxRecDepth 20000 in
theorem mx_co11 : (∀ w ∈ u_ws "PluginHallModel" mx_F11 42, w ∈ mx_GT) ∧ (∀ a, a < 42 → ∀ b, b < 42 → a ≠ b → (mx_F11 a).2.1 ≠ (mx_F11 b).2.1) ∧ (∀ k, k < 42 → parseFieldDescriptor (mx_F11 k).2.2.1 = some (mx_fty 11 k)) ∧ (∀ k, k < 42 → (mx_F11 k).2.2.2 = mx_fin 11 k ∧ (mx_F11 k).1 = "PluginHallModel" ∧ mx_gty (mx_fty 11 k) = true) ∧ mx_own 11 = "PluginHallModel" ∧ mx_knd 11 = Sum.inl 11 ∧ mx_fn 11 = 42 :=
  ⟨mx_fc (mx_g4 122 rfl rfl) (mx_fc (mx_g4 124 rfl rfl) (mx_fc (mx_g4 126 rfl rfl) (mx_fc (mx_g4 128 rfl rfl) (mx_fc (mx_g4 130 rfl rfl) (mx_fc (mx_g4 132 rfl rfl) (mx_fc (mx_g4 134 rfl rfl) (mx_fc (mx_g4 136 rfl rfl) (mx_fc (mx_g4 138 rfl rfl) (mx_fc (mx_g4 140 rfl rfl) (mx_fc (mx_g4 142 rfl rfl) (mx_fc (mx_g4 144 rfl rfl) (mx_fc (mx_g4 146 rfl rfl) (mx_fc (mx_g4 148 rfl rfl) (mx_fc (mx_g4 150 rfl rfl) (mx_fc (mx_g4 152 rfl rfl) (mx_fc (mx_g4 154 rfl rfl) (mx_fc (mx_g4 156 rfl rfl) (mx_fc (mx_g4 158 rfl rfl) (mx_fc (mx_g4 160 rfl rfl) (mx_fc (mx_g4 162 rfl rfl) (mx_fc (mx_g4 164 rfl rfl) (mx_fc (mx_g4 166 rfl rfl) (mx_fc (mx_g4 168 rfl rfl) (mx_fc (mx_g4 170 rfl rfl) (mx_fc (mx_g4 172 rfl rfl) (mx_fc (mx_g4 174 rfl rfl) (mx_fc (mx_g4 176 rfl rfl) (mx_fc (mx_g4 178 rfl rfl) (mx_fc (mx_g4 180 rfl rfl) (mx_fc (mx_g4 182 rfl rfl) (mx_fc (mx_g4 184 rfl rfl) (mx_fc (mx_g4 186 rfl rfl) (mx_fc (mx_g4 188 rfl rfl) (mx_fc (mx_g4 190 rfl rfl) (mx_fc (mx_g4 192 rfl rfl) (mx_fc (mx_g4 194 rfl rfl) (mx_fc (mx_g4 196 rfl rfl) (mx_fc (mx_g4 198 rfl rfl) (mx_fc (mx_g4 200 rfl rfl) (mx_fc (mx_g4 202 rfl rfl) (mx_fc (mx_g4 204 rfl rfl) (mx_f0)))))))))))))))))))))))))))))))))))))))))), by decide +kernel, by decide +kernel, by decide +kernel, rfl, rfl, rfl⟩
theorem mx_cls_ok {ci : Nat} {q : vw_C} (h : mx_cls[ci]? = some q) : (∀ w ∈ u_ws q.1 q.2.1 q.2.2, w ∈ mx_GT) ∧ (∀ a, a < q.2.2 → ∀ b, b < q.2.2 → a ≠ b → (q.2.1 a).2.1 ≠ (q.2.1 b).2.1) ∧ (∀ k, k < q.2.2 → parseFieldDescriptor (q.2.1 k).2.2.1 = some (mx_fty ci k)) ∧ (∀ k, k < q.2.2 → (q.2.1 k).2.2.2 = mx_fin ci k ∧ (q.2.1 k).1 = q.1 ∧ mx_gty (mx_fty ci k) = true) ∧ mx_own ci = q.1 ∧ mx_knd ci = Sum.inl ci ∧ mx_fn ci = q.2.2 := by
  match ci, h with
  | 0, h => cases h; exact mx_co0
  | 1, h => cases h; exact mx_co1
  | 2, h => cases h; exact mx_co2
  | 3, h => cases h; exact mx_co3
  | 4, h => cases h; exact mx_co4
  | 5, h => cases h; exact mx_co5
  | 6, h => cases h; exact mx_co6
  | 7, h => cases h; exact mx_co7
  | 8, h => cases h; exact mx_co8
  | 9, h => cases h; exact mx_co9
  | 10, h => cases h; exact mx_co10
  | 11, h => cases h; exact mx_co11
  | n + 12, h => simp [mx_cls] at h
def mx_nf : List (String × Nat × String × String × String × String) := [("PluginHall$House", 79, "PluginHall$Wiring", "needed", "[I", "PluginHall"), ("PluginHall$House", 86, "PluginHall$Wiring", "low", "[I", "PluginHall"), ("PluginHall$House", 89, "PluginHall$Wiring", "high", "[I", "PluginHall"), ("PluginHall$House", 103, "PluginHall$Wiring", "kinds", "[I", "PluginHall"), ("PluginHall$House", 74, "PluginHall$Wiring", "needs", "I", "PluginHall"), ("PluginHall$House", 135, "PluginHall$Wiring", "starterKind", "I", "PluginHall"), ("PluginHall$House", 125, "PluginHall$Wiring", "starterWord", "J", "PluginHall"), ("PluginHall$Plugin", 54, "PluginHall$Draft", "letters", "[B", "PluginHall"), ("PluginHall$Plugin", 47, "PluginHall$Draft", "wiring", "LPluginHall$Wiring;", "PluginHall"), ("PluginHall", 56, "PluginHall$Draft", "wiring", "LPluginHall$Wiring;", "PluginHall"), ("PluginHall$Plugin", 58, "PluginHall$Draft", "length", "I", "PluginHall"), ("PluginHall", 78, "PluginHall$Draft", "length", "I", "PluginHall"), ("PluginHall", 174, "PluginHall$Element", "attributes", "I", "PluginHall"), ("PluginHall", 166, "PluginHall$Element", "number", "I", "PluginHall"), ("PluginHall$Tree", 34, "PluginHall$Element", "parent", "I", "PluginHall"), ("PluginHall$Reader", 84, "PluginHall$Element", "parent", "I", "PluginHall"), ("PluginHall$Shelf", 103, "PluginHall$Element", "parent", "I", "PluginHall"), ("PluginHall", 177, "PluginHall$Element", "parent", "I", "PluginHall"), ("PluginHall$Shelf", 45, "PluginHall$Element", "outermost", "I", "PluginHall"), ("PluginHall", 212, "PluginHall$Element", "outermost", "I", "PluginHall"), ("PluginHall$Reader", 35, "PluginHall$Element", "depth", "I", "PluginHall"), ("PluginHall$House", 47, "PluginHall$Element", "depth", "I", "PluginHall"), ("PluginHall$Shelf", 73, "PluginHall$Element", "depth", "I", "PluginHall"), ("PluginHall", 184, "PluginHall$Element", "depth", "I", "PluginHall"), ("PluginHall$Shelf", 76, "PluginHall$Element", "name", "J", "PluginHall"), ("PluginHall$Reader", 107, "PluginHall$Element", "name", "J", "PluginHall"), ("PluginHall", 190, "PluginHall$Element", "name", "J", "PluginHall"), ("PluginHall$Reader", 15, "PluginHall$Tree", "nothing", "LPluginHall$Element;", "PluginHall"), ("PluginHall$Shelf", 97, "PluginHall$Tree", "size", "I", "PluginHall"), ("PluginHall", 137, "PluginHall$Tree", "size", "I", "PluginHall"), ("PluginHall$House", 70, "PluginHall$Plugin", "wiring", "LPluginHall$Wiring;", "PluginHall"), ("PluginHall$House", 51, "PluginHall$Plugin", "tree", "LPluginHall$Tree;", "PluginHall"), ("PluginHall", 133, "PluginHall$Plugin", "tree", "LPluginHall$Tree;", "PluginHall"), ("PluginHall$House", 59, "PluginHall$Plugin", "installed", "Z", "PluginHall"), ("PluginHall", 89, "PluginHall$Plugin", "installed", "Z", "PluginHall"), ("PluginHall$House", 63, "PluginHall$Plugin", "resolved", "Z", "PluginHall"), ("PluginHall$Shelf", 84, "PluginHall$Plugin", "resolved", "Z", "PluginHall"), ("PluginHall$House", 116, "PluginHall$Plugin", "starting", "Z", "PluginHall"), ("PluginHall$House", 113, "PluginHall$Plugin", "active", "Z", "PluginHall"), ("PluginHall$House", 83, "PluginHall$Plugin", "version", "I", "PluginHall"), ("PluginHall", 121, "PluginHall$Plugin", "version", "I", "PluginHall"), ("PluginHall", 130, "PluginHall$Plugin", "starts", "I", "PluginHall"), ("PluginHall$House", 119, "PluginHall$Plugin", "starts", "I", "PluginHall"), ("PluginHall", 124, "PluginHall$Plugin", "faultPlace", "I", "PluginHall"), ("PluginHall", 127, "PluginHall$Plugin", "faultLine", "I", "PluginHall"), ("PluginHall$Shelf", 123, "PluginHall$History", "total", "I", "PluginHall"), ("PluginHall$House", 144, "PluginHall$History", "total", "I", "PluginHall"), ("PluginHall", 260, "PluginHall$History", "total", "I", "PluginHall"), ("PluginHall", 85, "PluginHall$House", "row", "[LPluginHall$Plugin;", "PluginHall"), ("PluginHall$Shelf", 80, "PluginHall$House", "row", "[LPluginHall$Plugin;", "PluginHall"), ("PluginHall", 241, "PluginHall$House", "stops", "LPluginHall$History;", "PluginHall"), ("PluginHall", 254, "PluginHall$Shelf", "isPoint", "[Z", "PluginHall"), ("PluginHall", 247, "PluginHall$Shelf", "isExtension", "[Z", "PluginHall"), ("PluginHall", 224, "PluginHall$Made", "sources", "[I", "PluginHall"), ("PluginHall", 228, "PluginHall$Made", "owners", "[I", "PluginHall"), ("PluginHall", 231, "PluginHall$Made", "dropped", "[Z", "PluginHall"), ("PluginHall", 221, "PluginHall$Made", "total", "I", "PluginHall")]
def mx_nm : List (String × Nat × MethodName × String) := [("PluginHall$Draft", 30, ⟨"PluginHall", "octet", "(JI)I"⟩, "PluginHall"), ("PluginHall$Reader", 97, ⟨"PluginHall", "isNameLetter", "(I)Z"⟩, "PluginHall"), ("PluginHall$Reader", 124, ⟨"PluginHall", "isWordLetter", "(I)Z"⟩, "PluginHall"), ("PluginHall$Reader", 127, ⟨"PluginHall", "octet", "(JI)I"⟩, "PluginHall"), ("PluginHall$Shelf", 49, ⟨"PluginHall", "handleBeside", "(II)I"⟩, "PluginHall"), ("PluginHall", 205, ⟨"PluginHall$House", "wakesFor", "(II)Z"⟩, "PluginHall"), ("PluginHall$Made", 29, ⟨"PluginHall", "countTrue", "([Z)I"⟩, "PluginHall")]
def mx_fdT : List (List (Nat × Nat × Nat × Bool)) := [[(12, 0, 0, false), (19, 0, 1, false), (28, 0, 2, false), (35, 0, 3, false), (44, 0, 4, false), (56, 1, 1, true), (78, 1, 2, true), (85, 7, 0, true), (89, 6, 3, true), (121, 6, 7, true), (124, 6, 9, true), (127, 6, 10, true), (130, 6, 8, true), (133, 6, 1, true), (137, 4, 2, true), (166, 3, 3, true), (174, 3, 2, true), (177, 3, 4, true), (184, 3, 6, true), (190, 3, 7, true), (212, 3, 5, true), (221, 9, 4, true), (224, 9, 0, true), (228, 9, 2, true), (231, 9, 3, true), (241, 7, 2, true), (247, 8, 2, true), (254, 8, 1, true), (260, 10, 2, true)],
  [(11, 1, 0, false), (18, 1, 1, false), (26, 1, 2, false)],
  [(11, 2, 0, false), (15, 2, 1, false), (18, 2, 2, false), (21, 2, 3, false), (25, 2, 4, false), (28, 2, 5, false), (32, 2, 6, false), (39, 2, 7, false), (42, 2, 8, false)],
  [(11, 3, 0, false), (15, 3, 1, false), (18, 3, 3, false), (22, 3, 4, false), (25, 3, 5, false), (28, 3, 6, false), (31, 3, 7, false), (35, 3, 2, false)],
  [(9, 4, 1, false), (17, 4, 0, false), (22, 4, 2, false), (34, 3, 4, true)],
  [(9, 5, 0, false), (15, 4, 1, true), (21, 5, 1, false), (27, 5, 2, false), (35, 3, 6, true), (74, 5, 3, false), (78, 5, 4, false), (84, 3, 4, true), (107, 3, 7, true), (117, 5, 5, false)],
  [(12, 6, 0, false), (23, 6, 1, false), (32, 6, 2, false), (36, 6, 3, false), (40, 6, 7, false), (44, 6, 8, false), (47, 1, 1, true), (54, 1, 0, true), (58, 1, 2, true), (65, 6, 9, false), (68, 6, 10, false), (77, 6, 4, false), (80, 6, 6, false)],
  [(12, 7, 1, false), (20, 7, 0, false), (32, 7, 2, false), (47, 3, 6, true), (51, 6, 1, true), (59, 6, 3, true), (63, 6, 4, true), (70, 6, 0, true), (74, 2, 5, true), (79, 2, 0, true), (83, 6, 7, true), (86, 2, 1, true), (89, 2, 2, true), (103, 2, 4, true), (113, 6, 6, true), (116, 6, 5, true), (119, 6, 8, true), (125, 2, 8, true), (135, 2, 7, true), (144, 10, 2, true)],
  [(9, 8, 0, false), (15, 8, 1, false), (19, 8, 2, false), (22, 8, 3, false), (45, 3, 5, true), (73, 3, 6, true), (76, 3, 7, true), (80, 7, 0, true), (84, 6, 4, true), (97, 4, 2, true), (103, 3, 4, true), (123, 10, 2, true)],
  [(11, 9, 0, false), (15, 9, 1, false), (18, 9, 2, false), (21, 9, 3, false), (25, 9, 4, false)],
  [(9, 10, 0, false), (15, 10, 1, false), (19, 10, 2, false)],
  [(7, 11, 0, false), (13, 11, 1, false), (16, 11, 2, false), (19, 11, 3, false), (22, 11, 4, false), (25, 11, 5, false), (28, 11, 6, false), (31, 11, 7, false), (34, 11, 8, false), (38, 11, 9, false), (41, 11, 15, false), (45, 11, 16, false), (48, 11, 17, false), (51, 11, 18, false), (54, 11, 19, false), (57, 11, 20, false), (60, 11, 21, false), (63, 11, 22, false), (66, 11, 23, false), (69, 11, 24, false), (72, 11, 25, false), (75, 11, 26, false), (78, 11, 27, false), (81, 11, 28, false), (84, 11, 29, false), (87, 11, 30, false), (90, 11, 31, false), (93, 11, 32, false), (96, 11, 33, false), (99, 11, 34, false), (102, 11, 35, false), (105, 11, 36, false), (108, 11, 37, false), (111, 11, 38, false), (128, 11, 10, false), (136, 11, 11, false), (139, 11, 12, false), (149, 11, 14, false), (156, 11, 13, false), (210, 11, 40, false), (223, 11, 39, false), (236, 11, 41, false)],
  [],
  []]
def mx_fld (own idx : Nat) : Option (Nat × Nat × Bool) := ((mx_fdT[own]?).getD []).lookup idx
set_option maxRecDepth 20000 in
theorem mx_fo0 : ∀ e ∈ ((mx_fdT[0]?).getD []), (fun (e : Nat × Nat × Nat × Bool) => ∃ q, mx_cls[e.2.1]? = some q ∧ e.2.2.1 < q.2.2 ∧ (e.2.2.2 = false → Cond.fieldLink (mx_own 0) e.1 q.1 (q.2.1 e.2.2.1).2.1 (q.2.1 e.2.2.1).2.2.1 ∈ mx_GT) ∧ (e.2.2.2 = true → ∃ host, (mx_own 0, e.1, q.1, (q.2.1 e.2.2.1).2.1, (q.2.1 e.2.2.1).2.2.1, host) ∈ mx_nf)) e := mx_fc ⟨_, rfl, by decide, fun _ => (mx_g2 85 rfl rfl), fun h => by cases h⟩ (mx_fc ⟨_, rfl, by decide, fun _ => (mx_g2 86 rfl rfl), fun h => by cases h⟩ (mx_fc ⟨_, rfl, by decide, fun _ => (mx_g2 87 rfl rfl), fun h => by cases h⟩ (mx_fc ⟨_, rfl, by decide, fun _ => (mx_g2 88 rfl rfl), fun h => by cases h⟩ (mx_fc ⟨_, rfl, by decide, fun _ => (mx_g2 89 rfl rfl), fun h => by cases h⟩ (mx_fc ⟨_, rfl, by decide, (fun h => by cases h), fun _ => ⟨"PluginHall", List.mem_of_getElem? (i := 9) rfl⟩⟩ (mx_fc ⟨_, rfl, by decide, (fun h => by cases h), fun _ => ⟨"PluginHall", List.mem_of_getElem? (i := 11) rfl⟩⟩ (mx_fc ⟨_, rfl, by decide, (fun h => by cases h), fun _ => ⟨"PluginHall", List.mem_of_getElem? (i := 48) rfl⟩⟩ (mx_fc ⟨_, rfl, by decide, (fun h => by cases h), fun _ => ⟨"PluginHall", List.mem_of_getElem? (i := 34) rfl⟩⟩ (mx_fc ⟨_, rfl, by decide, (fun h => by cases h), fun _ => ⟨"PluginHall", List.mem_of_getElem? (i := 40) rfl⟩⟩ (mx_fc ⟨_, rfl, by decide, (fun h => by cases h), fun _ => ⟨"PluginHall", List.mem_of_getElem? (i := 43) rfl⟩⟩ (mx_fc ⟨_, rfl, by decide, (fun h => by cases h), fun _ => ⟨"PluginHall", List.mem_of_getElem? (i := 44) rfl⟩⟩ (mx_fc ⟨_, rfl, by decide, (fun h => by cases h), fun _ => ⟨"PluginHall", List.mem_of_getElem? (i := 41) rfl⟩⟩ (mx_fc ⟨_, rfl, by decide, (fun h => by cases h), fun _ => ⟨"PluginHall", List.mem_of_getElem? (i := 32) rfl⟩⟩ (mx_fc ⟨_, rfl, by decide, (fun h => by cases h), fun _ => ⟨"PluginHall", List.mem_of_getElem? (i := 29) rfl⟩⟩ (mx_fc ⟨_, rfl, by decide, (fun h => by cases h), fun _ => ⟨"PluginHall", List.mem_of_getElem? (i := 13) rfl⟩⟩ (mx_fc ⟨_, rfl, by decide, (fun h => by cases h), fun _ => ⟨"PluginHall", List.mem_of_getElem? (i := 12) rfl⟩⟩ (mx_fc ⟨_, rfl, by decide, (fun h => by cases h), fun _ => ⟨"PluginHall", List.mem_of_getElem? (i := 17) rfl⟩⟩ (mx_fc ⟨_, rfl, by decide, (fun h => by cases h), fun _ => ⟨"PluginHall", List.mem_of_getElem? (i := 23) rfl⟩⟩ (mx_fc ⟨_, rfl, by decide, (fun h => by cases h), fun _ => ⟨"PluginHall", List.mem_of_getElem? (i := 26) rfl⟩⟩ (mx_fc ⟨_, rfl, by decide, (fun h => by cases h), fun _ => ⟨"PluginHall", List.mem_of_getElem? (i := 19) rfl⟩⟩ (mx_fc ⟨_, rfl, by decide, (fun h => by cases h), fun _ => ⟨"PluginHall", List.mem_of_getElem? (i := 56) rfl⟩⟩ (mx_fc ⟨_, rfl, by decide, (fun h => by cases h), fun _ => ⟨"PluginHall", List.mem_of_getElem? (i := 53) rfl⟩⟩ (mx_fc ⟨_, rfl, by decide, (fun h => by cases h), fun _ => ⟨"PluginHall", List.mem_of_getElem? (i := 54) rfl⟩⟩ (mx_fc ⟨_, rfl, by decide, (fun h => by cases h), fun _ => ⟨"PluginHall", List.mem_of_getElem? (i := 55) rfl⟩⟩ (mx_fc ⟨_, rfl, by decide, (fun h => by cases h), fun _ => ⟨"PluginHall", List.mem_of_getElem? (i := 50) rfl⟩⟩ (mx_fc ⟨_, rfl, by decide, (fun h => by cases h), fun _ => ⟨"PluginHall", List.mem_of_getElem? (i := 52) rfl⟩⟩ (mx_fc ⟨_, rfl, by decide, (fun h => by cases h), fun _ => ⟨"PluginHall", List.mem_of_getElem? (i := 51) rfl⟩⟩ (mx_fc ⟨_, rfl, by decide, (fun h => by cases h), fun _ => ⟨"PluginHall", List.mem_of_getElem? (i := 47) rfl⟩⟩ (mx_f0)))))))))))))))))))))))))))))
set_option maxRecDepth 20000 in
theorem mx_fo1 : ∀ e ∈ ((mx_fdT[1]?).getD []), (fun (e : Nat × Nat × Nat × Bool) => ∃ q, mx_cls[e.2.1]? = some q ∧ e.2.2.1 < q.2.2 ∧ (e.2.2.2 = false → Cond.fieldLink (mx_own 1) e.1 q.1 (q.2.1 e.2.2.1).2.1 (q.2.1 e.2.2.1).2.2.1 ∈ mx_GT) ∧ (e.2.2.2 = true → ∃ host, (mx_own 1, e.1, q.1, (q.2.1 e.2.2.1).2.1, (q.2.1 e.2.2.1).2.2.1, host) ∈ mx_nf)) e := mx_fc ⟨_, rfl, by decide, fun _ => (mx_g1 72 rfl rfl), fun h => by cases h⟩ (mx_fc ⟨_, rfl, by decide, fun _ => (mx_g1 74 rfl rfl), fun h => by cases h⟩ (mx_fc ⟨_, rfl, by decide, fun _ => (mx_g1 77 rfl rfl), fun h => by cases h⟩ (mx_f0)))
set_option maxRecDepth 20000 in
theorem mx_fo2 : ∀ e ∈ ((mx_fdT[2]?).getD []), (fun (e : Nat × Nat × Nat × Bool) => ∃ q, mx_cls[e.2.1]? = some q ∧ e.2.2.1 < q.2.2 ∧ (e.2.2.2 = false → Cond.fieldLink (mx_own 2) e.1 q.1 (q.2.1 e.2.2.1).2.1 (q.2.1 e.2.2.1).2.2.1 ∈ mx_GT) ∧ (e.2.2.2 = true → ∃ host, (mx_own 2, e.1, q.1, (q.2.1 e.2.2.1).2.1, (q.2.1 e.2.2.1).2.2.1, host) ∈ mx_nf)) e := mx_fc ⟨_, rfl, by decide, fun _ => (mx_g1 34 rfl rfl), fun h => by cases h⟩ (mx_fc ⟨_, rfl, by decide, fun _ => (mx_g1 36 rfl rfl), fun h => by cases h⟩ (mx_fc ⟨_, rfl, by decide, fun _ => (mx_g1 38 rfl rfl), fun h => by cases h⟩ (mx_fc ⟨_, rfl, by decide, fun _ => (mx_g1 40 rfl rfl), fun h => by cases h⟩ (mx_fc ⟨_, rfl, by decide, fun _ => (mx_g1 41 rfl rfl), fun h => by cases h⟩ (mx_fc ⟨_, rfl, by decide, fun _ => (mx_g1 43 rfl rfl), fun h => by cases h⟩ (mx_fc ⟨_, rfl, by decide, fun _ => (mx_g1 45 rfl rfl), fun h => by cases h⟩ (mx_fc ⟨_, rfl, by decide, fun _ => (mx_g1 46 rfl rfl), fun h => by cases h⟩ (mx_fc ⟨_, rfl, by decide, fun _ => (mx_g1 48 rfl rfl), fun h => by cases h⟩ (mx_f0)))))))))
set_option maxRecDepth 20000 in
theorem mx_fo3 : ∀ e ∈ ((mx_fdT[3]?).getD []), (fun (e : Nat × Nat × Nat × Bool) => ∃ q, mx_cls[e.2.1]? = some q ∧ e.2.2.1 < q.2.2 ∧ (e.2.2.2 = false → Cond.fieldLink (mx_own 3) e.1 q.1 (q.2.1 e.2.2.1).2.1 (q.2.1 e.2.2.1).2.2.1 ∈ mx_GT) ∧ (e.2.2.2 = true → ∃ host, (mx_own 3, e.1, q.1, (q.2.1 e.2.2.1).2.1, (q.2.1 e.2.2.1).2.2.1, host) ∈ mx_nf)) e := mx_fc ⟨_, rfl, by decide, fun _ => (mx_g1 99 rfl rfl), fun h => by cases h⟩ (mx_fc ⟨_, rfl, by decide, fun _ => (mx_g1 100 rfl rfl), fun h => by cases h⟩ (mx_fc ⟨_, rfl, by decide, fun _ => (mx_g1 103 rfl rfl), fun h => by cases h⟩ (mx_fc ⟨_, rfl, by decide, fun _ => (mx_g1 105 rfl rfl), fun h => by cases h⟩ (mx_fc ⟨_, rfl, by decide, fun _ => (mx_g1 110 rfl rfl), fun h => by cases h⟩ (mx_fc ⟨_, rfl, by decide, fun _ => (mx_g1 113 rfl rfl), fun h => by cases h⟩ (mx_fc ⟨_, rfl, by decide, fun _ => (mx_g1 118 rfl rfl), fun h => by cases h⟩ (mx_fc ⟨_, rfl, by decide, fun _ => (mx_g1 101 rfl rfl), fun h => by cases h⟩ (mx_f0))))))))
set_option maxRecDepth 20000 in
theorem mx_fo4 : ∀ e ∈ ((mx_fdT[4]?).getD []), (fun (e : Nat × Nat × Nat × Bool) => ∃ q, mx_cls[e.2.1]? = some q ∧ e.2.2.1 < q.2.2 ∧ (e.2.2.2 = false → Cond.fieldLink (mx_own 4) e.1 q.1 (q.2.1 e.2.2.1).2.1 (q.2.1 e.2.2.1).2.2.1 ∈ mx_GT) ∧ (e.2.2.2 = true → ∃ host, (mx_own 4, e.1, q.1, (q.2.1 e.2.2.1).2.1, (q.2.1 e.2.2.1).2.2.1, host) ∈ mx_nf)) e := mx_fc ⟨_, rfl, by decide, fun _ => (mx_g1 158 rfl rfl), fun h => by cases h⟩ (mx_fc ⟨_, rfl, by decide, fun _ => (mx_g1 157 rfl rfl), fun h => by cases h⟩ (mx_fc ⟨_, rfl, by decide, fun _ => (mx_g1 160 rfl rfl), fun h => by cases h⟩ (mx_fc ⟨_, rfl, by decide, (fun h => by cases h), fun _ => ⟨"PluginHall", List.mem_of_getElem? (i := 14) rfl⟩⟩ (mx_f0))))
set_option maxRecDepth 20000 in
theorem mx_fo5 : ∀ e ∈ ((mx_fdT[5]?).getD []), (fun (e : Nat × Nat × Nat × Bool) => ∃ q, mx_cls[e.2.1]? = some q ∧ e.2.2.1 < q.2.2 ∧ (e.2.2.2 = false → Cond.fieldLink (mx_own 5) e.1 q.1 (q.2.1 e.2.2.1).2.1 (q.2.1 e.2.2.1).2.2.1 ∈ mx_GT) ∧ (e.2.2.2 = true → ∃ host, (mx_own 5, e.1, q.1, (q.2.1 e.2.2.1).2.1, (q.2.1 e.2.2.1).2.2.1, host) ∈ mx_nf)) e := mx_fc ⟨_, rfl, by decide, fun _ => (mx_g1 176 rfl rfl), fun h => by cases h⟩ (mx_fc ⟨_, rfl, by decide, (fun h => by cases h), fun _ => ⟨"PluginHall", List.mem_of_getElem? (i := 27) rfl⟩⟩ (mx_fc ⟨_, rfl, by decide, fun _ => (mx_g1 177 rfl rfl), fun h => by cases h⟩ (mx_fc ⟨_, rfl, by decide, fun _ => (mx_g1 178 rfl rfl), fun h => by cases h⟩ (mx_fc ⟨_, rfl, by decide, (fun h => by cases h), fun _ => ⟨"PluginHall", List.mem_of_getElem? (i := 20) rfl⟩⟩ (mx_fc ⟨_, rfl, by decide, fun _ => (mx_g1 179 rfl rfl), fun h => by cases h⟩ (mx_fc ⟨_, rfl, by decide, fun _ => (mx_g1 180 rfl rfl), fun h => by cases h⟩ (mx_fc ⟨_, rfl, by decide, (fun h => by cases h), fun _ => ⟨"PluginHall", List.mem_of_getElem? (i := 15) rfl⟩⟩ (mx_fc ⟨_, rfl, by decide, (fun h => by cases h), fun _ => ⟨"PluginHall", List.mem_of_getElem? (i := 25) rfl⟩⟩ (mx_fc ⟨_, rfl, by decide, fun _ => (mx_g1 181 rfl rfl), fun h => by cases h⟩ (mx_f0))))))))))
set_option maxRecDepth 20000 in
theorem mx_fo6 : ∀ e ∈ ((mx_fdT[6]?).getD []), (fun (e : Nat × Nat × Nat × Bool) => ∃ q, mx_cls[e.2.1]? = some q ∧ e.2.2.1 < q.2.2 ∧ (e.2.2.2 = false → Cond.fieldLink (mx_own 6) e.1 q.1 (q.2.1 e.2.2.1).2.1 (q.2.1 e.2.2.1).2.2.1 ∈ mx_GT) ∧ (e.2.2.2 = true → ∃ host, (mx_own 6, e.1, q.1, (q.2.1 e.2.2.1).2.1, (q.2.1 e.2.2.1).2.2.1, host) ∈ mx_nf)) e := mx_fc ⟨_, rfl, by decide, fun _ => (mx_g1 195 rfl rfl), fun h => by cases h⟩ (mx_fc ⟨_, rfl, by decide, fun _ => (mx_g1 197 rfl rfl), fun h => by cases h⟩ (mx_fc ⟨_, rfl, by decide, fun _ => (mx_g1 200 rfl rfl), fun h => by cases h⟩ (mx_fc ⟨_, rfl, by decide, fun _ => (mx_g1 201 rfl rfl), fun h => by cases h⟩ (mx_fc ⟨_, rfl, by decide, fun _ => (mx_g1 210 rfl rfl), fun h => by cases h⟩ (mx_fc ⟨_, rfl, by decide, fun _ => (mx_g1 213 rfl rfl), fun h => by cases h⟩ (mx_fc ⟨_, rfl, by decide, (fun h => by cases h), fun _ => ⟨"PluginHall", List.mem_of_getElem? (i := 8) rfl⟩⟩ (mx_fc ⟨_, rfl, by decide, (fun h => by cases h), fun _ => ⟨"PluginHall", List.mem_of_getElem? (i := 7) rfl⟩⟩ (mx_fc ⟨_, rfl, by decide, (fun h => by cases h), fun _ => ⟨"PluginHall", List.mem_of_getElem? (i := 10) rfl⟩⟩ (mx_fc ⟨_, rfl, by decide, fun _ => (mx_g1 216 rfl rfl), fun h => by cases h⟩ (mx_fc ⟨_, rfl, by decide, fun _ => (mx_g1 218 rfl rfl), fun h => by cases h⟩ (mx_fc ⟨_, rfl, by decide, fun _ => (mx_g1 204 rfl rfl), fun h => by cases h⟩ (mx_fc ⟨_, rfl, by decide, fun _ => (mx_g1 208 rfl rfl), fun h => by cases h⟩ (mx_f0)))))))))))))
set_option maxRecDepth 20000 in
theorem mx_fo7 : ∀ e ∈ ((mx_fdT[7]?).getD []), (fun (e : Nat × Nat × Nat × Bool) => ∃ q, mx_cls[e.2.1]? = some q ∧ e.2.2.1 < q.2.2 ∧ (e.2.2.2 = false → Cond.fieldLink (mx_own 7) e.1 q.1 (q.2.1 e.2.2.1).2.1 (q.2.1 e.2.2.1).2.2.1 ∈ mx_GT) ∧ (e.2.2.2 = true → ∃ host, (mx_own 7, e.1, q.1, (q.2.1 e.2.2.1).2.1, (q.2.1 e.2.2.1).2.2.1, host) ∈ mx_nf)) e := mx_fc ⟨_, rfl, by decide, fun _ => (mx_g2 25 rfl rfl), fun h => by cases h⟩ (mx_fc ⟨_, rfl, by decide, fun _ => (mx_g2 22 rfl rfl), fun h => by cases h⟩ (mx_fc ⟨_, rfl, by decide, fun _ => (mx_g2 26 rfl rfl), fun h => by cases h⟩ (mx_fc ⟨_, rfl, by decide, (fun h => by cases h), fun _ => ⟨"PluginHall", List.mem_of_getElem? (i := 21) rfl⟩⟩ (mx_fc ⟨_, rfl, by decide, (fun h => by cases h), fun _ => ⟨"PluginHall", List.mem_of_getElem? (i := 31) rfl⟩⟩ (mx_fc ⟨_, rfl, by decide, (fun h => by cases h), fun _ => ⟨"PluginHall", List.mem_of_getElem? (i := 33) rfl⟩⟩ (mx_fc ⟨_, rfl, by decide, (fun h => by cases h), fun _ => ⟨"PluginHall", List.mem_of_getElem? (i := 35) rfl⟩⟩ (mx_fc ⟨_, rfl, by decide, (fun h => by cases h), fun _ => ⟨"PluginHall", List.mem_of_getElem? (i := 30) rfl⟩⟩ (mx_fc ⟨_, rfl, by decide, (fun h => by cases h), fun _ => ⟨"PluginHall", List.mem_of_getElem? (i := 4) rfl⟩⟩ (mx_fc ⟨_, rfl, by decide, (fun h => by cases h), fun _ => ⟨"PluginHall", List.mem_of_getElem? (i := 0) rfl⟩⟩ (mx_fc ⟨_, rfl, by decide, (fun h => by cases h), fun _ => ⟨"PluginHall", List.mem_of_getElem? (i := 39) rfl⟩⟩ (mx_fc ⟨_, rfl, by decide, (fun h => by cases h), fun _ => ⟨"PluginHall", List.mem_of_getElem? (i := 1) rfl⟩⟩ (mx_fc ⟨_, rfl, by decide, (fun h => by cases h), fun _ => ⟨"PluginHall", List.mem_of_getElem? (i := 2) rfl⟩⟩ (mx_fc ⟨_, rfl, by decide, (fun h => by cases h), fun _ => ⟨"PluginHall", List.mem_of_getElem? (i := 3) rfl⟩⟩ (mx_fc ⟨_, rfl, by decide, (fun h => by cases h), fun _ => ⟨"PluginHall", List.mem_of_getElem? (i := 38) rfl⟩⟩ (mx_fc ⟨_, rfl, by decide, (fun h => by cases h), fun _ => ⟨"PluginHall", List.mem_of_getElem? (i := 37) rfl⟩⟩ (mx_fc ⟨_, rfl, by decide, (fun h => by cases h), fun _ => ⟨"PluginHall", List.mem_of_getElem? (i := 42) rfl⟩⟩ (mx_fc ⟨_, rfl, by decide, (fun h => by cases h), fun _ => ⟨"PluginHall", List.mem_of_getElem? (i := 6) rfl⟩⟩ (mx_fc ⟨_, rfl, by decide, (fun h => by cases h), fun _ => ⟨"PluginHall", List.mem_of_getElem? (i := 5) rfl⟩⟩ (mx_fc ⟨_, rfl, by decide, (fun h => by cases h), fun _ => ⟨"PluginHall", List.mem_of_getElem? (i := 46) rfl⟩⟩ (mx_f0))))))))))))))))))))
set_option maxRecDepth 20000 in
theorem mx_fo8 : ∀ e ∈ ((mx_fdT[8]?).getD []), (fun (e : Nat × Nat × Nat × Bool) => ∃ q, mx_cls[e.2.1]? = some q ∧ e.2.2.1 < q.2.2 ∧ (e.2.2.2 = false → Cond.fieldLink (mx_own 8) e.1 q.1 (q.2.1 e.2.2.1).2.1 (q.2.1 e.2.2.1).2.2.1 ∈ mx_GT) ∧ (e.2.2.2 = true → ∃ host, (mx_own 8, e.1, q.1, (q.2.1 e.2.2.1).2.1, (q.2.1 e.2.2.1).2.2.1, host) ∈ mx_nf)) e := mx_fc ⟨_, rfl, by decide, fun _ => (mx_g2 41 rfl rfl), fun h => by cases h⟩ (mx_fc ⟨_, rfl, by decide, fun _ => (mx_g2 42 rfl rfl), fun h => by cases h⟩ (mx_fc ⟨_, rfl, by decide, fun _ => (mx_g2 44 rfl rfl), fun h => by cases h⟩ (mx_fc ⟨_, rfl, by decide, fun _ => (mx_g2 46 rfl rfl), fun h => by cases h⟩ (mx_fc ⟨_, rfl, by decide, (fun h => by cases h), fun _ => ⟨"PluginHall", List.mem_of_getElem? (i := 18) rfl⟩⟩ (mx_fc ⟨_, rfl, by decide, (fun h => by cases h), fun _ => ⟨"PluginHall", List.mem_of_getElem? (i := 22) rfl⟩⟩ (mx_fc ⟨_, rfl, by decide, (fun h => by cases h), fun _ => ⟨"PluginHall", List.mem_of_getElem? (i := 24) rfl⟩⟩ (mx_fc ⟨_, rfl, by decide, (fun h => by cases h), fun _ => ⟨"PluginHall", List.mem_of_getElem? (i := 49) rfl⟩⟩ (mx_fc ⟨_, rfl, by decide, (fun h => by cases h), fun _ => ⟨"PluginHall", List.mem_of_getElem? (i := 36) rfl⟩⟩ (mx_fc ⟨_, rfl, by decide, (fun h => by cases h), fun _ => ⟨"PluginHall", List.mem_of_getElem? (i := 28) rfl⟩⟩ (mx_fc ⟨_, rfl, by decide, (fun h => by cases h), fun _ => ⟨"PluginHall", List.mem_of_getElem? (i := 16) rfl⟩⟩ (mx_fc ⟨_, rfl, by decide, (fun h => by cases h), fun _ => ⟨"PluginHall", List.mem_of_getElem? (i := 45) rfl⟩⟩ (mx_f0))))))))))))
set_option maxRecDepth 20000 in
theorem mx_fo9 : ∀ e ∈ ((mx_fdT[9]?).getD []), (fun (e : Nat × Nat × Nat × Bool) => ∃ q, mx_cls[e.2.1]? = some q ∧ e.2.2.1 < q.2.2 ∧ (e.2.2.2 = false → Cond.fieldLink (mx_own 9) e.1 q.1 (q.2.1 e.2.2.1).2.1 (q.2.1 e.2.2.1).2.2.1 ∈ mx_GT) ∧ (e.2.2.2 = true → ∃ host, (mx_own 9, e.1, q.1, (q.2.1 e.2.2.1).2.1, (q.2.1 e.2.2.1).2.2.1, host) ∈ mx_nf)) e := mx_fc ⟨_, rfl, by decide, fun _ => (mx_g2 63 rfl rfl), fun h => by cases h⟩ (mx_fc ⟨_, rfl, by decide, fun _ => (mx_g2 65 rfl rfl), fun h => by cases h⟩ (mx_fc ⟨_, rfl, by decide, fun _ => (mx_g2 66 rfl rfl), fun h => by cases h⟩ (mx_fc ⟨_, rfl, by decide, fun _ => (mx_g2 68 rfl rfl), fun h => by cases h⟩ (mx_fc ⟨_, rfl, by decide, fun _ => (mx_g2 70 rfl rfl), fun h => by cases h⟩ (mx_f0)))))
set_option maxRecDepth 20000 in
theorem mx_fo10 : ∀ e ∈ ((mx_fdT[10]?).getD []), (fun (e : Nat × Nat × Nat × Bool) => ∃ q, mx_cls[e.2.1]? = some q ∧ e.2.2.1 < q.2.2 ∧ (e.2.2.2 = false → Cond.fieldLink (mx_own 10) e.1 q.1 (q.2.1 e.2.2.1).2.1 (q.2.1 e.2.2.1).2.2.1 ∈ mx_GT) ∧ (e.2.2.2 = true → ∃ host, (mx_own 10, e.1, q.1, (q.2.1 e.2.2.1).2.1, (q.2.1 e.2.2.1).2.2.1, host) ∈ mx_nf)) e := mx_fc ⟨_, rfl, by decide, fun _ => (mx_g2 9 rfl rfl), fun h => by cases h⟩ (mx_fc ⟨_, rfl, by decide, fun _ => (mx_g2 10 rfl rfl), fun h => by cases h⟩ (mx_fc ⟨_, rfl, by decide, fun _ => (mx_g2 11 rfl rfl), fun h => by cases h⟩ (mx_f0)))
set_option maxRecDepth 20000 in
theorem mx_fo11 : ∀ e ∈ ((mx_fdT[11]?).getD []), (fun (e : Nat × Nat × Nat × Bool) => ∃ q, mx_cls[e.2.1]? = some q ∧ e.2.2.1 < q.2.2 ∧ (e.2.2.2 = false → Cond.fieldLink (mx_own 11) e.1 q.1 (q.2.1 e.2.2.1).2.1 (q.2.1 e.2.2.1).2.2.1 ∈ mx_GT) ∧ (e.2.2.2 = true → ∃ host, (mx_own 11, e.1, q.1, (q.2.1 e.2.2.1).2.1, (q.2.1 e.2.2.1).2.2.1, host) ∈ mx_nf)) e := mx_fc ⟨_, rfl, by decide, fun _ => (mx_g4 80 rfl rfl), fun h => by cases h⟩ (mx_fc ⟨_, rfl, by decide, fun _ => (mx_g4 81 rfl rfl), fun h => by cases h⟩ (mx_fc ⟨_, rfl, by decide, fun _ => (mx_g4 82 rfl rfl), fun h => by cases h⟩ (mx_fc ⟨_, rfl, by decide, fun _ => (mx_g4 83 rfl rfl), fun h => by cases h⟩ (mx_fc ⟨_, rfl, by decide, fun _ => (mx_g4 84 rfl rfl), fun h => by cases h⟩ (mx_fc ⟨_, rfl, by decide, fun _ => (mx_g4 85 rfl rfl), fun h => by cases h⟩ (mx_fc ⟨_, rfl, by decide, fun _ => (mx_g4 86 rfl rfl), fun h => by cases h⟩ (mx_fc ⟨_, rfl, by decide, fun _ => (mx_g4 87 rfl rfl), fun h => by cases h⟩ (mx_fc ⟨_, rfl, by decide, fun _ => (mx_g4 88 rfl rfl), fun h => by cases h⟩ (mx_fc ⟨_, rfl, by decide, fun _ => (mx_g4 89 rfl rfl), fun h => by cases h⟩ (mx_fc ⟨_, rfl, by decide, fun _ => (mx_g4 95 rfl rfl), fun h => by cases h⟩ (mx_fc ⟨_, rfl, by decide, fun _ => (mx_g4 96 rfl rfl), fun h => by cases h⟩ (mx_fc ⟨_, rfl, by decide, fun _ => (mx_g4 97 rfl rfl), fun h => by cases h⟩ (mx_fc ⟨_, rfl, by decide, fun _ => (mx_g4 98 rfl rfl), fun h => by cases h⟩ (mx_fc ⟨_, rfl, by decide, fun _ => (mx_g4 99 rfl rfl), fun h => by cases h⟩ (mx_fc ⟨_, rfl, by decide, fun _ => (mx_g4 100 rfl rfl), fun h => by cases h⟩ (mx_fc ⟨_, rfl, by decide, fun _ => (mx_g4 101 rfl rfl), fun h => by cases h⟩ (mx_fc ⟨_, rfl, by decide, fun _ => (mx_g4 102 rfl rfl), fun h => by cases h⟩ (mx_fc ⟨_, rfl, by decide, fun _ => (mx_g4 103 rfl rfl), fun h => by cases h⟩ (mx_fc ⟨_, rfl, by decide, fun _ => (mx_g4 104 rfl rfl), fun h => by cases h⟩ (mx_fc ⟨_, rfl, by decide, fun _ => (mx_g4 105 rfl rfl), fun h => by cases h⟩ (mx_fc ⟨_, rfl, by decide, fun _ => (mx_g4 106 rfl rfl), fun h => by cases h⟩ (mx_fc ⟨_, rfl, by decide, fun _ => (mx_g4 107 rfl rfl), fun h => by cases h⟩ (mx_fc ⟨_, rfl, by decide, fun _ => (mx_g4 108 rfl rfl), fun h => by cases h⟩ (mx_fc ⟨_, rfl, by decide, fun _ => (mx_g4 109 rfl rfl), fun h => by cases h⟩ (mx_fc ⟨_, rfl, by decide, fun _ => (mx_g4 110 rfl rfl), fun h => by cases h⟩ (mx_fc ⟨_, rfl, by decide, fun _ => (mx_g4 111 rfl rfl), fun h => by cases h⟩ (mx_fc ⟨_, rfl, by decide, fun _ => (mx_g4 112 rfl rfl), fun h => by cases h⟩ (mx_fc ⟨_, rfl, by decide, fun _ => (mx_g4 113 rfl rfl), fun h => by cases h⟩ (mx_fc ⟨_, rfl, by decide, fun _ => (mx_g4 114 rfl rfl), fun h => by cases h⟩ (mx_fc ⟨_, rfl, by decide, fun _ => (mx_g4 115 rfl rfl), fun h => by cases h⟩ (mx_fc ⟨_, rfl, by decide, fun _ => (mx_g4 116 rfl rfl), fun h => by cases h⟩ (mx_fc ⟨_, rfl, by decide, fun _ => (mx_g4 117 rfl rfl), fun h => by cases h⟩ (mx_fc ⟨_, rfl, by decide, fun _ => (mx_g4 118 rfl rfl), fun h => by cases h⟩ (mx_fc ⟨_, rfl, by decide, fun _ => (mx_g4 90 rfl rfl), fun h => by cases h⟩ (mx_fc ⟨_, rfl, by decide, fun _ => (mx_g4 91 rfl rfl), fun h => by cases h⟩ (mx_fc ⟨_, rfl, by decide, fun _ => (mx_g4 92 rfl rfl), fun h => by cases h⟩ (mx_fc ⟨_, rfl, by decide, fun _ => (mx_g4 94 rfl rfl), fun h => by cases h⟩ (mx_fc ⟨_, rfl, by decide, fun _ => (mx_g4 93 rfl rfl), fun h => by cases h⟩ (mx_fc ⟨_, rfl, by decide, fun _ => (mx_g4 120 rfl rfl), fun h => by cases h⟩ (mx_fc ⟨_, rfl, by decide, fun _ => (mx_g4 119 rfl rfl), fun h => by cases h⟩ (mx_fc ⟨_, rfl, by decide, fun _ => (mx_g4 121 rfl rfl), fun h => by cases h⟩ (mx_f0))))))))))))))))))))))))))))))))))))))))))
set_option maxRecDepth 20000 in
theorem mx_fo12 : ∀ e ∈ ((mx_fdT[12]?).getD []), (fun (e : Nat × Nat × Nat × Bool) => ∃ q, mx_cls[e.2.1]? = some q ∧ e.2.2.1 < q.2.2 ∧ (e.2.2.2 = false → Cond.fieldLink (mx_own 12) e.1 q.1 (q.2.1 e.2.2.1).2.1 (q.2.1 e.2.2.1).2.2.1 ∈ mx_GT) ∧ (e.2.2.2 = true → ∃ host, (mx_own 12, e.1, q.1, (q.2.1 e.2.2.1).2.1, (q.2.1 e.2.2.1).2.2.1, host) ∈ mx_nf)) e := mx_f0
set_option maxRecDepth 20000 in
theorem mx_fo13 : ∀ e ∈ ((mx_fdT[13]?).getD []), (fun (e : Nat × Nat × Nat × Bool) => ∃ q, mx_cls[e.2.1]? = some q ∧ e.2.2.1 < q.2.2 ∧ (e.2.2.2 = false → Cond.fieldLink (mx_own 13) e.1 q.1 (q.2.1 e.2.2.1).2.1 (q.2.1 e.2.2.1).2.2.1 ∈ mx_GT) ∧ (e.2.2.2 = true → ∃ host, (mx_own 13, e.1, q.1, (q.2.1 e.2.2.1).2.1, (q.2.1 e.2.2.1).2.2.1, host) ∈ mx_nf)) e := mx_f0
theorem mx_fld_ok {own idx ci k : Nat} {nst : Bool} (h : mx_fld own idx = some (ci, k, nst)) : ∃ q : vw_C, mx_cls[ci]? = some q ∧ k < q.2.2 ∧ (nst = false → Cond.fieldLink (mx_own own) idx q.1 (q.2.1 k).2.1 (q.2.1 k).2.2.1 ∈ mx_GT) ∧ (nst = true → ∃ host, (mx_own own, idx, q.1, (q.2.1 k).2.1, (q.2.1 k).2.2.1, host) ∈ mx_nf) := by
  have hm := mx_lk h
  match own, hm with
  | 0, hm => exact mx_fo0 _ hm
  | 1, hm => exact mx_fo1 _ hm
  | 2, hm => exact mx_fo2 _ hm
  | 3, hm => exact mx_fo3 _ hm
  | 4, hm => exact mx_fo4 _ hm
  | 5, hm => exact mx_fo5 _ hm
  | 6, hm => exact mx_fo6 _ hm
  | 7, hm => exact mx_fo7 _ hm
  | 8, hm => exact mx_fo8 _ hm
  | 9, hm => exact mx_fo9 _ hm
  | 10, hm => exact mx_fo10 _ hm
  | 11, hm => exact mx_fo11 _ hm
  | 12, hm => exact mx_fo12 _ hm
  | 13, hm => exact mx_fo13 _ hm
  | n + 14, hm => exact absurd hm (by simp [mx_fdT])
def mx_lcT : List (List (Nat × Int64)) := [[],
  [],
  [],
  [(46, (-1))],
  [],
  [],
  [],
  [],
  [(31, 25705), (39, 500068609904), (56, 7632997), (113, 1701667182), (115, 1953723757), (121, 1835365481)],
  [],
  [],
  [(114, 255), (176, (-1)), (181, 500068609904), (186, 25705), (192, 1835365481), (194, 1701667182), (199, 1953723757), (201, 7632997)],
  [(13, 4294967295)],
  []]
def mx_lc (own idx : Nat) : Option (Int64) := ((mx_lcT[own]?).getD []).lookup idx
set_option maxRecDepth 20000 in
theorem mx_lc_o0 : ∀ e ∈ ((mx_lcT[0]?).getD []), (fun (e : Nat × Int64) => Cond.constantLong (mx_own 0) e.1 e.2 ∈ mx_GT) e := mx_f0
set_option maxRecDepth 20000 in
theorem mx_lc_o1 : ∀ e ∈ ((mx_lcT[1]?).getD []), (fun (e : Nat × Int64) => Cond.constantLong (mx_own 1) e.1 e.2 ∈ mx_GT) e := mx_f0
set_option maxRecDepth 20000 in
theorem mx_lc_o2 : ∀ e ∈ ((mx_lcT[2]?).getD []), (fun (e : Nat × Int64) => Cond.constantLong (mx_own 2) e.1 e.2 ∈ mx_GT) e := mx_f0
set_option maxRecDepth 20000 in
theorem mx_lc_o3 : ∀ e ∈ ((mx_lcT[3]?).getD []), (fun (e : Nat × Int64) => Cond.constantLong (mx_own 3) e.1 e.2 ∈ mx_GT) e := mx_fc (mx_g3 17 rfl rfl) (mx_f0)
set_option maxRecDepth 20000 in
theorem mx_lc_o4 : ∀ e ∈ ((mx_lcT[4]?).getD []), (fun (e : Nat × Int64) => Cond.constantLong (mx_own 4) e.1 e.2 ∈ mx_GT) e := mx_f0
set_option maxRecDepth 20000 in
theorem mx_lc_o5 : ∀ e ∈ ((mx_lcT[5]?).getD []), (fun (e : Nat × Int64) => Cond.constantLong (mx_own 5) e.1 e.2 ∈ mx_GT) e := mx_f0
set_option maxRecDepth 20000 in
theorem mx_lc_o6 : ∀ e ∈ ((mx_lcT[6]?).getD []), (fun (e : Nat × Int64) => Cond.constantLong (mx_own 6) e.1 e.2 ∈ mx_GT) e := mx_f0
set_option maxRecDepth 20000 in
theorem mx_lc_o7 : ∀ e ∈ ((mx_lcT[7]?).getD []), (fun (e : Nat × Int64) => Cond.constantLong (mx_own 7) e.1 e.2 ∈ mx_GT) e := mx_f0
set_option maxRecDepth 20000 in
theorem mx_lc_o8 : ∀ e ∈ ((mx_lcT[8]?).getD []), (fun (e : Nat × Int64) => Cond.constantLong (mx_own 8) e.1 e.2 ∈ mx_GT) e := mx_fc (mx_g3 78 rfl rfl) (mx_fc (mx_g3 80 rfl rfl) (mx_fc (mx_g3 89 rfl rfl) (mx_fc (mx_g3 104 rfl rfl) (mx_fc (mx_g3 109 rfl rfl) (mx_fc (mx_g3 103 rfl rfl) (mx_f0))))))
set_option maxRecDepth 20000 in
theorem mx_lc_o9 : ∀ e ∈ ((mx_lcT[9]?).getD []), (fun (e : Nat × Int64) => Cond.constantLong (mx_own 9) e.1 e.2 ∈ mx_GT) e := mx_f0
set_option maxRecDepth 20000 in
theorem mx_lc_o10 : ∀ e ∈ ((mx_lcT[10]?).getD []), (fun (e : Nat × Int64) => Cond.constantLong (mx_own 10) e.1 e.2 ∈ mx_GT) e := mx_f0
set_option maxRecDepth 20000 in
theorem mx_lc_o11 : ∀ e ∈ ((mx_lcT[11]?).getD []), (fun (e : Nat × Int64) => Cond.constantLong (mx_own 11) e.1 e.2 ∈ mx_GT) e := mx_fc (mx_g4 214 rfl rfl) (mx_fc (mx_g5 67 rfl rfl) (mx_fc (mx_g5 62 rfl rfl) (mx_fc (mx_g5 72 rfl rfl) (mx_fc (mx_g5 77 rfl rfl) (mx_fc (mx_g5 78 rfl rfl) (mx_fc (mx_g5 83 rfl rfl) (mx_fc (mx_g5 53 rfl rfl) (mx_f0))))))))
set_option maxRecDepth 20000 in
theorem mx_lc_o12 : ∀ e ∈ ((mx_lcT[12]?).getD []), (fun (e : Nat × Int64) => Cond.constantLong (mx_own 12) e.1 e.2 ∈ mx_GT) e := mx_fc (mx_g5 168 rfl rfl) (mx_f0)
set_option maxRecDepth 20000 in
theorem mx_lc_o13 : ∀ e ∈ ((mx_lcT[13]?).getD []), (fun (e : Nat × Int64) => Cond.constantLong (mx_own 13) e.1 e.2 ∈ mx_GT) e := mx_f0
theorem mx_lc_ok {own idx : Nat} {v : Int64} (h : mx_lc own idx = some v) : Cond.constantLong (mx_own own) idx v ∈ mx_GT := by
  have hm := mx_lk h
  match own, hm with
  | 0, hm => exact mx_lc_o0 _ hm
  | 1, hm => exact mx_lc_o1 _ hm
  | 2, hm => exact mx_lc_o2 _ hm
  | 3, hm => exact mx_lc_o3 _ hm
  | 4, hm => exact mx_lc_o4 _ hm
  | 5, hm => exact mx_lc_o5 _ hm
  | 6, hm => exact mx_lc_o6 _ hm
  | 7, hm => exact mx_lc_o7 _ hm
  | 8, hm => exact mx_lc_o8 _ hm
  | 9, hm => exact mx_lc_o9 _ hm
  | 10, hm => exact mx_lc_o10 _ hm
  | 11, hm => exact mx_lc_o11 _ hm
  | 12, hm => exact mx_lc_o12 _ hm
  | 13, hm => exact mx_lc_o13 _ hm
  | n + 14, hm => exact absurd hm (by simp [mx_lcT])
def mx_icT : List (List (Nat × Int32)) := [[],
  [],
  [],
  [],
  [],
  [],
  [],
  [],
  [],
  [],
  [],
  [],
  [],
  []]
def mx_ic (own idx : Nat) : Option (Int32) := ((mx_icT[own]?).getD []).lookup idx
set_option maxRecDepth 20000 in
theorem mx_ic_o0 : ∀ e ∈ ((mx_icT[0]?).getD []), (fun (e : Nat × Int32) => Cond.constant (mx_own 0) e.1 e.2 ∈ mx_GT) e := mx_f0
set_option maxRecDepth 20000 in
theorem mx_ic_o1 : ∀ e ∈ ((mx_icT[1]?).getD []), (fun (e : Nat × Int32) => Cond.constant (mx_own 1) e.1 e.2 ∈ mx_GT) e := mx_f0
set_option maxRecDepth 20000 in
theorem mx_ic_o2 : ∀ e ∈ ((mx_icT[2]?).getD []), (fun (e : Nat × Int32) => Cond.constant (mx_own 2) e.1 e.2 ∈ mx_GT) e := mx_f0
set_option maxRecDepth 20000 in
theorem mx_ic_o3 : ∀ e ∈ ((mx_icT[3]?).getD []), (fun (e : Nat × Int32) => Cond.constant (mx_own 3) e.1 e.2 ∈ mx_GT) e := mx_f0
set_option maxRecDepth 20000 in
theorem mx_ic_o4 : ∀ e ∈ ((mx_icT[4]?).getD []), (fun (e : Nat × Int32) => Cond.constant (mx_own 4) e.1 e.2 ∈ mx_GT) e := mx_f0
set_option maxRecDepth 20000 in
theorem mx_ic_o5 : ∀ e ∈ ((mx_icT[5]?).getD []), (fun (e : Nat × Int32) => Cond.constant (mx_own 5) e.1 e.2 ∈ mx_GT) e := mx_f0
set_option maxRecDepth 20000 in
theorem mx_ic_o6 : ∀ e ∈ ((mx_icT[6]?).getD []), (fun (e : Nat × Int32) => Cond.constant (mx_own 6) e.1 e.2 ∈ mx_GT) e := mx_f0
set_option maxRecDepth 20000 in
theorem mx_ic_o7 : ∀ e ∈ ((mx_icT[7]?).getD []), (fun (e : Nat × Int32) => Cond.constant (mx_own 7) e.1 e.2 ∈ mx_GT) e := mx_f0
set_option maxRecDepth 20000 in
theorem mx_ic_o8 : ∀ e ∈ ((mx_icT[8]?).getD []), (fun (e : Nat × Int32) => Cond.constant (mx_own 8) e.1 e.2 ∈ mx_GT) e := mx_f0
set_option maxRecDepth 20000 in
theorem mx_ic_o9 : ∀ e ∈ ((mx_icT[9]?).getD []), (fun (e : Nat × Int32) => Cond.constant (mx_own 9) e.1 e.2 ∈ mx_GT) e := mx_f0
set_option maxRecDepth 20000 in
theorem mx_ic_o10 : ∀ e ∈ ((mx_icT[10]?).getD []), (fun (e : Nat × Int32) => Cond.constant (mx_own 10) e.1 e.2 ∈ mx_GT) e := mx_f0
set_option maxRecDepth 20000 in
theorem mx_ic_o11 : ∀ e ∈ ((mx_icT[11]?).getD []), (fun (e : Nat × Int32) => Cond.constant (mx_own 11) e.1 e.2 ∈ mx_GT) e := mx_f0
set_option maxRecDepth 20000 in
theorem mx_ic_o12 : ∀ e ∈ ((mx_icT[12]?).getD []), (fun (e : Nat × Int32) => Cond.constant (mx_own 12) e.1 e.2 ∈ mx_GT) e := mx_f0
set_option maxRecDepth 20000 in
theorem mx_ic_o13 : ∀ e ∈ ((mx_icT[13]?).getD []), (fun (e : Nat × Int32) => Cond.constant (mx_own 13) e.1 e.2 ∈ mx_GT) e := mx_f0
theorem mx_ic_ok {own idx : Nat} {v : Int32} (h : mx_ic own idx = some v) : Cond.constant (mx_own own) idx v ∈ mx_GT := by
  have hm := mx_lk h
  match own, hm with
  | 0, hm => exact mx_ic_o0 _ hm
  | 1, hm => exact mx_ic_o1 _ hm
  | 2, hm => exact mx_ic_o2 _ hm
  | 3, hm => exact mx_ic_o3 _ hm
  | 4, hm => exact mx_ic_o4 _ hm
  | 5, hm => exact mx_ic_o5 _ hm
  | 6, hm => exact mx_ic_o6 _ hm
  | 7, hm => exact mx_ic_o7 _ hm
  | 8, hm => exact mx_ic_o8 _ hm
  | 9, hm => exact mx_ic_o9 _ hm
  | 10, hm => exact mx_ic_o10 _ hm
  | 11, hm => exact mx_ic_o11 _ hm
  | 12, hm => exact mx_ic_o12 _ hm
  | 13, hm => exact mx_ic_o13 _ hm
  | n + 14, hm => exact absurd hm (by simp [mx_icT])
def mx_newT : List (List (Nat × Nat)) := [[(9, 1), (16, 7), (23, 8), (32, 9), (39, 10)],
  [(15, 2)],
  [],
  [],
  [(15, 3)],
  [],
  [(9, 2), (18, 4), (27, 5)],
  [(9, 3), (18, 6), (27, 10)],
  [],
  [],
  [],
  [],
  [(7, 0), (10, 11)],
  []]
def mx_new (own idx : Nat) : Option (Nat) := ((mx_newT[own]?).getD []).lookup idx
set_option maxRecDepth 20000 in
theorem mx_new_o0 : ∀ e ∈ ((mx_newT[0]?).getD []), (fun (e : Nat × Nat) => ∃ q, mx_cls[e.2]? = some q ∧ Cond.classLink (mx_own 0) e.1 q.1 ∈ mx_GT ∧ Cond.instantiable q.1 q.2.2 ∈ mx_GT ∧ Cond.initialized q.1 ∈ mx_GT) e := mx_fc ⟨_, rfl, (mx_g1 22 rfl rfl), (mx_g1 23 rfl rfl), (mx_g1 2 rfl rfl)⟩ (mx_fc ⟨_, rfl, (mx_g1 87 rfl rfl), (mx_g1 88 rfl rfl), (mx_g1 4 rfl rfl)⟩ (mx_fc ⟨_, rfl, (mx_g2 35 rfl rfl), (mx_g2 36 rfl rfl), (mx_g1 10 rfl rfl)⟩ (mx_fc ⟨_, rfl, (mx_g2 57 rfl rfl), (mx_g2 58 rfl rfl), (mx_g1 11 rfl rfl)⟩ (mx_fc ⟨_, rfl, (mx_g2 83 rfl rfl), (mx_g2 4 rfl rfl), (mx_g1 9 rfl rfl)⟩ (mx_f0)))))
set_option maxRecDepth 20000 in
theorem mx_new_o1 : ∀ e ∈ ((mx_newT[1]?).getD []), (fun (e : Nat × Nat) => ∃ q, mx_cls[e.2]? = some q ∧ Cond.classLink (mx_own 1) e.1 q.1 ∈ mx_GT ∧ Cond.instantiable q.1 q.2.2 ∈ mx_GT ∧ Cond.initialized q.1 ∈ mx_GT) e := mx_fc ⟨_, rfl, (mx_g1 28 rfl rfl), (mx_g1 29 rfl rfl), (mx_g1 3 rfl rfl)⟩ (mx_f0)
set_option maxRecDepth 20000 in
theorem mx_new_o2 : ∀ e ∈ ((mx_newT[2]?).getD []), (fun (e : Nat × Nat) => ∃ q, mx_cls[e.2]? = some q ∧ Cond.classLink (mx_own 2) e.1 q.1 ∈ mx_GT ∧ Cond.instantiable q.1 q.2.2 ∈ mx_GT ∧ Cond.initialized q.1 ∈ mx_GT) e := mx_f0
set_option maxRecDepth 20000 in
theorem mx_new_o3 : ∀ e ∈ ((mx_newT[3]?).getD []), (fun (e : Nat × Nat) => ∃ q, mx_cls[e.2]? = some q ∧ Cond.classLink (mx_own 3) e.1 q.1 ∈ mx_GT ∧ Cond.instantiable q.1 q.2.2 ∈ mx_GT ∧ Cond.initialized q.1 ∈ mx_GT) e := mx_f0
set_option maxRecDepth 20000 in
theorem mx_new_o4 : ∀ e ∈ ((mx_newT[4]?).getD []), (fun (e : Nat × Nat) => ∃ q, mx_cls[e.2]? = some q ∧ Cond.classLink (mx_own 4) e.1 q.1 ∈ mx_GT ∧ Cond.instantiable q.1 q.2.2 ∈ mx_GT ∧ Cond.initialized q.1 ∈ mx_GT) e := mx_fc ⟨_, rfl, (mx_g1 154 rfl rfl), (mx_g1 94 rfl rfl), (mx_g1 5 rfl rfl)⟩ (mx_f0)
set_option maxRecDepth 20000 in
theorem mx_new_o5 : ∀ e ∈ ((mx_newT[5]?).getD []), (fun (e : Nat × Nat) => ∃ q, mx_cls[e.2]? = some q ∧ Cond.classLink (mx_own 5) e.1 q.1 ∈ mx_GT ∧ Cond.instantiable q.1 q.2.2 ∈ mx_GT ∧ Cond.initialized q.1 ∈ mx_GT) e := mx_f0
set_option maxRecDepth 20000 in
theorem mx_new_o6 : ∀ e ∈ ((mx_newT[6]?).getD []), (fun (e : Nat × Nat) => ∃ q, mx_cls[e.2]? = some q ∧ Cond.classLink (mx_own 6) e.1 q.1 ∈ mx_GT ∧ Cond.instantiable q.1 q.2.2 ∈ mx_GT ∧ Cond.initialized q.1 ∈ mx_GT) e := mx_fc ⟨_, rfl, (mx_g1 146 rfl rfl), (mx_g1 29 rfl rfl), (mx_g1 3 rfl rfl)⟩ (mx_fc ⟨_, rfl, (mx_g1 148 rfl rfl), (mx_g1 149 rfl rfl), (mx_g1 7 rfl rfl)⟩ (mx_fc ⟨_, rfl, (mx_g1 170 rfl rfl), (mx_g1 171 rfl rfl), (mx_g1 8 rfl rfl)⟩ (mx_f0)))
set_option maxRecDepth 20000 in
theorem mx_new_o7 : ∀ e ∈ ((mx_newT[7]?).getD []), (fun (e : Nat × Nat) => ∃ q, mx_cls[e.2]? = some q ∧ Cond.classLink (mx_own 7) e.1 q.1 ∈ mx_GT ∧ Cond.instantiable q.1 q.2.2 ∈ mx_GT ∧ Cond.initialized q.1 ∈ mx_GT) e := mx_fc ⟨_, rfl, (mx_g1 93 rfl rfl), (mx_g1 94 rfl rfl), (mx_g1 5 rfl rfl)⟩ (mx_fc ⟨_, rfl, (mx_g1 139 rfl rfl), (mx_g1 141 rfl rfl), (mx_g1 6 rfl rfl)⟩ (mx_fc ⟨_, rfl, (mx_g2 3 rfl rfl), (mx_g2 4 rfl rfl), (mx_g1 9 rfl rfl)⟩ (mx_f0)))
set_option maxRecDepth 20000 in
theorem mx_new_o8 : ∀ e ∈ ((mx_newT[8]?).getD []), (fun (e : Nat × Nat) => ∃ q, mx_cls[e.2]? = some q ∧ Cond.classLink (mx_own 8) e.1 q.1 ∈ mx_GT ∧ Cond.instantiable q.1 q.2.2 ∈ mx_GT ∧ Cond.initialized q.1 ∈ mx_GT) e := mx_f0
set_option maxRecDepth 20000 in
theorem mx_new_o9 : ∀ e ∈ ((mx_newT[9]?).getD []), (fun (e : Nat × Nat) => ∃ q, mx_cls[e.2]? = some q ∧ Cond.classLink (mx_own 9) e.1 q.1 ∈ mx_GT ∧ Cond.instantiable q.1 q.2.2 ∈ mx_GT ∧ Cond.initialized q.1 ∈ mx_GT) e := mx_f0
set_option maxRecDepth 20000 in
theorem mx_new_o10 : ∀ e ∈ ((mx_newT[10]?).getD []), (fun (e : Nat × Nat) => ∃ q, mx_cls[e.2]? = some q ∧ Cond.classLink (mx_own 10) e.1 q.1 ∈ mx_GT ∧ Cond.instantiable q.1 q.2.2 ∈ mx_GT ∧ Cond.initialized q.1 ∈ mx_GT) e := mx_f0
set_option maxRecDepth 20000 in
theorem mx_new_o11 : ∀ e ∈ ((mx_newT[11]?).getD []), (fun (e : Nat × Nat) => ∃ q, mx_cls[e.2]? = some q ∧ Cond.classLink (mx_own 11) e.1 q.1 ∈ mx_GT ∧ Cond.instantiable q.1 q.2.2 ∈ mx_GT ∧ Cond.initialized q.1 ∈ mx_GT) e := mx_f0
set_option maxRecDepth 20000 in
theorem mx_new_o12 : ∀ e ∈ ((mx_newT[12]?).getD []), (fun (e : Nat × Nat) => ∃ q, mx_cls[e.2]? = some q ∧ Cond.classLink (mx_own 12) e.1 q.1 ∈ mx_GT ∧ Cond.instantiable q.1 q.2.2 ∈ mx_GT ∧ Cond.initialized q.1 ∈ mx_GT) e := mx_fc ⟨_, rfl, (mx_g1 14 rfl rfl), (mx_g1 15 rfl rfl), (mx_g1 1 rfl rfl)⟩ (mx_fc ⟨_, rfl, (mx_g4 74 rfl rfl), (mx_g4 75 rfl rfl), (mx_g1 12 rfl rfl)⟩ (mx_f0))
set_option maxRecDepth 20000 in
theorem mx_new_o13 : ∀ e ∈ ((mx_newT[13]?).getD []), (fun (e : Nat × Nat) => ∃ q, mx_cls[e.2]? = some q ∧ Cond.classLink (mx_own 13) e.1 q.1 ∈ mx_GT ∧ Cond.instantiable q.1 q.2.2 ∈ mx_GT ∧ Cond.initialized q.1 ∈ mx_GT) e := mx_f0
theorem mx_new_ok {own idx ci : Nat} (h : mx_new own idx = some ci) : ∃ q : vw_C, mx_cls[ci]? = some q ∧ Cond.classLink (mx_own own) idx q.1 ∈ mx_GT ∧ Cond.instantiable q.1 q.2.2 ∈ mx_GT ∧ Cond.initialized q.1 ∈ mx_GT := by
  have hm := mx_lk h
  match own, hm with
  | 0, hm => exact mx_new_o0 _ hm
  | 1, hm => exact mx_new_o1 _ hm
  | 2, hm => exact mx_new_o2 _ hm
  | 3, hm => exact mx_new_o3 _ hm
  | 4, hm => exact mx_new_o4 _ hm
  | 5, hm => exact mx_new_o5 _ hm
  | 6, hm => exact mx_new_o6 _ hm
  | 7, hm => exact mx_new_o7 _ hm
  | 8, hm => exact mx_new_o8 _ hm
  | 9, hm => exact mx_new_o9 _ hm
  | 10, hm => exact mx_new_o10 _ hm
  | 11, hm => exact mx_new_o11 _ hm
  | 12, hm => exact mx_new_o12 _ hm
  | 13, hm => exact mx_new_o13 _ hm
  | n + 14, hm => exact absurd hm (by simp [mx_newT])
def mx_anwT : List (List (Nat × String)) := [[],
  [],
  [],
  [],
  [(15, "PluginHall$Element")],
  [],
  [],
  [(18, "PluginHall$Plugin")],
  [],
  [],
  [],
  [],
  [],
  []]
def mx_anw (own idx : Nat) : Option (String) := ((mx_anwT[own]?).getD []).lookup idx
set_option maxRecDepth 20000 in
theorem mx_anw_o0 : ∀ e ∈ ((mx_anwT[0]?).getD []), (fun (e : Nat × String) => Cond.classLink (mx_own 0) e.1 e.2 ∈ mx_GT ∧ e.2 ∈ mx_ao) e := mx_f0
set_option maxRecDepth 20000 in
theorem mx_anw_o1 : ∀ e ∈ ((mx_anwT[1]?).getD []), (fun (e : Nat × String) => Cond.classLink (mx_own 1) e.1 e.2 ∈ mx_GT ∧ e.2 ∈ mx_ao) e := mx_f0
set_option maxRecDepth 20000 in
theorem mx_anw_o2 : ∀ e ∈ ((mx_anwT[2]?).getD []), (fun (e : Nat × String) => Cond.classLink (mx_own 2) e.1 e.2 ∈ mx_GT ∧ e.2 ∈ mx_ao) e := mx_f0
set_option maxRecDepth 20000 in
theorem mx_anw_o3 : ∀ e ∈ ((mx_anwT[3]?).getD []), (fun (e : Nat × String) => Cond.classLink (mx_own 3) e.1 e.2 ∈ mx_GT ∧ e.2 ∈ mx_ao) e := mx_f0
set_option maxRecDepth 20000 in
theorem mx_anw_o4 : ∀ e ∈ ((mx_anwT[4]?).getD []), (fun (e : Nat × String) => Cond.classLink (mx_own 4) e.1 e.2 ∈ mx_GT ∧ e.2 ∈ mx_ao) e := mx_fc ⟨(mx_g1 154 rfl rfl), List.mem_of_getElem? (i := 1) rfl⟩ (mx_f0)
set_option maxRecDepth 20000 in
theorem mx_anw_o5 : ∀ e ∈ ((mx_anwT[5]?).getD []), (fun (e : Nat × String) => Cond.classLink (mx_own 5) e.1 e.2 ∈ mx_GT ∧ e.2 ∈ mx_ao) e := mx_f0
set_option maxRecDepth 20000 in
theorem mx_anw_o6 : ∀ e ∈ ((mx_anwT[6]?).getD []), (fun (e : Nat × String) => Cond.classLink (mx_own 6) e.1 e.2 ∈ mx_GT ∧ e.2 ∈ mx_ao) e := mx_f0
set_option maxRecDepth 20000 in
theorem mx_anw_o7 : ∀ e ∈ ((mx_anwT[7]?).getD []), (fun (e : Nat × String) => Cond.classLink (mx_own 7) e.1 e.2 ∈ mx_GT ∧ e.2 ∈ mx_ao) e := mx_fc ⟨(mx_g1 139 rfl rfl), List.mem_of_getElem? (i := 0) rfl⟩ (mx_f0)
set_option maxRecDepth 20000 in
theorem mx_anw_o8 : ∀ e ∈ ((mx_anwT[8]?).getD []), (fun (e : Nat × String) => Cond.classLink (mx_own 8) e.1 e.2 ∈ mx_GT ∧ e.2 ∈ mx_ao) e := mx_f0
set_option maxRecDepth 20000 in
theorem mx_anw_o9 : ∀ e ∈ ((mx_anwT[9]?).getD []), (fun (e : Nat × String) => Cond.classLink (mx_own 9) e.1 e.2 ∈ mx_GT ∧ e.2 ∈ mx_ao) e := mx_f0
set_option maxRecDepth 20000 in
theorem mx_anw_o10 : ∀ e ∈ ((mx_anwT[10]?).getD []), (fun (e : Nat × String) => Cond.classLink (mx_own 10) e.1 e.2 ∈ mx_GT ∧ e.2 ∈ mx_ao) e := mx_f0
set_option maxRecDepth 20000 in
theorem mx_anw_o11 : ∀ e ∈ ((mx_anwT[11]?).getD []), (fun (e : Nat × String) => Cond.classLink (mx_own 11) e.1 e.2 ∈ mx_GT ∧ e.2 ∈ mx_ao) e := mx_f0
set_option maxRecDepth 20000 in
theorem mx_anw_o12 : ∀ e ∈ ((mx_anwT[12]?).getD []), (fun (e : Nat × String) => Cond.classLink (mx_own 12) e.1 e.2 ∈ mx_GT ∧ e.2 ∈ mx_ao) e := mx_f0
set_option maxRecDepth 20000 in
theorem mx_anw_o13 : ∀ e ∈ ((mx_anwT[13]?).getD []), (fun (e : Nat × String) => Cond.classLink (mx_own 13) e.1 e.2 ∈ mx_GT ∧ e.2 ∈ mx_ao) e := mx_f0
theorem mx_anw_ok {own idx : Nat} {C : String} (h : mx_anw own idx = some C) : Cond.classLink (mx_own own) idx C ∈ mx_GT ∧ C ∈ mx_ao := by
  have hm := mx_lk h
  match own, hm with
  | 0, hm => exact mx_anw_o0 _ hm
  | 1, hm => exact mx_anw_o1 _ hm
  | 2, hm => exact mx_anw_o2 _ hm
  | 3, hm => exact mx_anw_o3 _ hm
  | 4, hm => exact mx_anw_o4 _ hm
  | 5, hm => exact mx_anw_o5 _ hm
  | 6, hm => exact mx_anw_o6 _ hm
  | 7, hm => exact mx_anw_o7 _ hm
  | 8, hm => exact mx_anw_o8 _ hm
  | 9, hm => exact mx_anw_o9 _ hm
  | 10, hm => exact mx_anw_o10 _ hm
  | 11, hm => exact mx_anw_o11 _ hm
  | 12, hm => exact mx_anw_o12 _ hm
  | 13, hm => exact mx_anw_o13 _ hm
  | n + 14, hm => exact absurd hm (by simp [mx_anwT])
abbrev mx_Row : Type := MethodName × ByteArray × Nat × Option FieldType × Nat × Nat × Bool × Bool
def mx_mt0 : List mx_Row := [(⟨"PluginHall", "<init>", "()V"⟩, prog_1_method_1_code, 1, none, 0, 0, false, true),
  (⟨"PluginHall", "text", "(J)I"⟩, prog_1_method_2_code, 3, (some .int), 0, 1, false, false),
  (⟨"PluginHall", "octet", "(JI)I"⟩, prog_1_method_26_code, 3, (some .int), 0, 2, true, false),
  (⟨"PluginHall", "need", "(III)I"⟩, prog_1_method_3_code, 4, (some .int), 0, 3, false, false),
  (⟨"PluginHall", "isPlugin", "(I)Z"⟩, prog_1_method_23_code, 1, (some .boolean), 0, 1, true, false),
  (⟨"PluginHall", "provide", "(JI)I"⟩, prog_1_method_4_code, 4, (some .int), 0, 2, false, false),
  (⟨"PluginHall", "isWord", "(J)Z"⟩, prog_1_method_29_code, 3, (some .boolean), 0, 1, true, false),
  (⟨"PluginHall", "isWordLetter", "(I)Z"⟩, prog_1_method_28_code, 1, (some .boolean), 0, 1, true, false),
  (⟨"PluginHall", "isNameLetter", "(I)Z"⟩, prog_1_method_27_code, 1, (some .boolean), 0, 1, true, false),
  (⟨"PluginHall", "starter", "(IJ)Z"⟩, prog_1_method_5_code, 4, (some .boolean), 0, 2, false, false),
  (⟨"PluginHall", "clear", "()I"⟩, prog_1_method_6_code, 2, (some .int), 0, 0, false, false),
  (⟨"PluginHall", "add", "(II)I"⟩, prog_1_method_7_code, 4, (some .int), 0, 2, false, false),
  (⟨"PluginHall", "refresh", "()I"⟩, prog_1_method_22_code, 2, (some .int), 0, 0, false, false),
  (⟨"PluginHall", "remove", "(I)I"⟩, prog_1_method_8_code, 2, (some .int), 0, 1, false, false),
  (⟨"PluginHall", "plugin", "(II)I"⟩, prog_1_method_9_code, 4, (some .int), 0, 2, false, false),
  (⟨"PluginHall", "extensions", "(J)I"⟩, prog_1_method_10_code, 3, (some .int), 0, 1, false, false)]
def mx_mt1 : List mx_Row := [(⟨"PluginHall", "extension", "(JI)I"⟩, prog_1_method_11_code, 4, (some .int), 0, 2, false, false),
  (⟨"PluginHall", "element", "(II)I"⟩, prog_1_method_12_code, 4, (some .int), 0, 2, false, false),
  (⟨"PluginHall", "handleBeside", "(II)I"⟩, prog_1_method_24_code, 2, (some .int), 0, 2, true, false),
  (⟨"PluginHall", "name", "(I)J"⟩, prog_1_method_13_code, 2, (some .long), 0, 1, false, false),
  (⟨"PluginHall", "child", "(II)I"⟩, prog_1_method_14_code, 4, (some .int), 0, 2, false, false),
  (⟨"PluginHall", "attribute", "(IJ)J"⟩, prog_1_method_15_code, 4, (some .long), 0, 2, false, false),
  (⟨"PluginHall", "create", "(IJ)I"⟩, prog_1_method_16_code, 8, (some .int), 0, 2, false, false),
  (⟨"PluginHall", "object", "(II)I"⟩, prog_1_method_17_code, 3, (some .int), 0, 2, false, false),
  (⟨"PluginHall", "event", "(I)I"⟩, prog_1_method_18_code, 2, (some .int), 0, 1, false, false),
  (⟨"PluginHall", "shutdown", "()I"⟩, prog_1_method_19_code, 1, (some .int), 0, 0, false, false),
  (⟨"PluginHall", "stopped", "(I)I"⟩, prog_1_method_20_code, 2, (some .int), 0, 1, false, false),
  (⟨"PluginHall", "count", "(I)I"⟩, prog_1_method_21_code, 2, (some .int), 0, 1, false, false),
  (⟨"PluginHall", "countTrue", "([Z)I"⟩, prog_1_method_25_code, 6, (some .int), 0, 1, true, false),
  (⟨"PluginHall$Draft", "<init>", "()V"⟩, prog_2_method_1_code, 1, none, 1, 0, false, true),
  (⟨"PluginHall$Draft", "append", "(J)I"⟩, prog_2_method_2_code, 5, (some .int), 1, 1, false, false),
  (⟨"PluginHall$Draft", "lettersIn", "(J)I"⟩, prog_2_method_4_code, 3, (some .int), 1, 1, true, false)]
def mx_mt2 : List mx_Row := [(⟨"PluginHall$Draft", "empty", "()V"⟩, prog_2_method_3_code, 1, none, 1, 0, false, false),
  (⟨"PluginHall$Wiring", "<init>", "()V"⟩, prog_11_method_1_code, 1, none, 2, 0, false, true),
  (⟨"PluginHall$Wiring", "addNeed", "(III)I"⟩, prog_11_method_3_code, 4, (some .int), 2, 3, false, false),
  (⟨"PluginHall$Wiring", "addClass", "(JI)I"⟩, prog_11_method_4_code, 4, (some .int), 2, 2, false, false),
  (⟨"PluginHall$Wiring", "setStarter", "(IJ)V"⟩, prog_11_method_5_code, 4, none, 2, 2, false, false),
  (⟨"PluginHall$Wiring", "reset", "()V"⟩, prog_11_method_2_code, 1, none, 2, 0, false, false),
  (⟨"PluginHall$Wiring", "takeFrom", "(LPluginHall$Wiring;)V"⟩, prog_11_method_6_code, 3, none, 2, 1, false, false),
  (⟨"PluginHall$Wiring", "firstClass", "(J)I"⟩, prog_11_method_8_code, 4, (some .int), 2, 1, false, false),
  (⟨"PluginHall$Wiring", "needsPlugin", "(I)Z"⟩, prog_11_method_7_code, 3, (some .boolean), 2, 1, false, false),
  (⟨"PluginHall$Element", "<init>", "()V"⟩, prog_3_method_1_code, 1, none, 3, 0, false, true),
  (⟨"PluginHall$Element", "beginIn", "(LPluginHall$Element;I)V"⟩, prog_3_method_2_code, 3, none, 3, 2, false, false),
  (⟨"PluginHall$Element", "takesAttribute", "()Z"⟩, prog_3_method_3_code, 1, (some .boolean), 3, 0, false, false),
  (⟨"PluginHall$Element", "has", "(J)Z"⟩, prog_3_method_5_code, 3, (some .boolean), 3, 1, false, false),
  (⟨"PluginHall$Element", "valueOf", "(J)J"⟩, prog_3_method_6_code, 4, (some .long), 3, 1, false, false),
  (⟨"PluginHall$Element", "addAttribute", "(JJ)V"⟩, prog_3_method_4_code, 5, none, 3, 2, false, false),
  (⟨"PluginHall$Tree", "<init>", "(LPluginHall$Element;)V"⟩, prog_10_method_1_code, 3, none, 4, 1, false, true)]
def mx_mt3 : List mx_Row := [(⟨"PluginHall$Tree", "cut", "()V"⟩, prog_10_method_2_code, 1, none, 4, 0, false, false),
  (⟨"PluginHall$Tree", "hasRoom", "()Z"⟩, prog_10_method_3_code, 1, (some .boolean), 4, 0, false, false),
  (⟨"PluginHall$Tree", "beginIn", "(LPluginHall$Element;)LPluginHall$Element;"⟩, prog_10_method_5_code, 3, (some (.object "PluginHall$Element")), 4, 1, false, false),
  (⟨"PluginHall$Tree", "at", "(I)LPluginHall$Element;"⟩, prog_10_method_4_code, 2, (some (.object "PluginHall$Element")), 4, 1, false, false),
  (⟨"PluginHall$Tree", "childrenOf", "(I)I"⟩, prog_10_method_6_code, 4, (some .int), 4, 1, false, false),
  (⟨"PluginHall$Tree", "childOf", "(II)I"⟩, prog_10_method_7_code, 5, (some .int), 4, 2, false, false),
  (⟨"PluginHall$Reader", "<init>", "(LPluginHall$Tree;)V"⟩, prog_8_method_1_code, 2, none, 5, 1, false, true),
  (⟨"PluginHall$Reader", "faultPlaceIn", "([BI)I"⟩, prog_8_method_2_code, 4, (some .int), 5, 2, false, false),
  (⟨"PluginHall$Reader", "reads", "(I)Z"⟩, prog_8_method_3_code, 2, (some .boolean), 5, 1, false, false),
  (⟨"PluginHall$Reader", "readsBetween", "(I)Z"⟩, prog_8_method_8_code, 2, (some .boolean), 5, 1, false, false),
  (⟨"PluginHall$Reader", "goTo", "(I)Z"⟩, prog_8_method_4_code, 2, (some .boolean), 5, 1, false, false),
  (⟨"PluginHall$Reader", "isSpace", "(I)Z"⟩, prog_8_method_17_code, 1, (some .boolean), 5, 1, true, false),
  (⟨"PluginHall$Reader", "readsOpened", "(I)Z"⟩, prog_8_method_9_code, 2, (some .boolean), 5, 1, false, false),
  (⟨"PluginHall$Reader", "beginWord", "(I)Z"⟩, prog_8_method_5_code, 2, (some .boolean), 5, 1, false, false),
  (⟨"PluginHall$Reader", "readsTagName", "(I)Z"⟩, prog_8_method_10_code, 3, (some .boolean), 5, 1, false, false),
  (⟨"PluginHall$Reader", "readsTagEnd", "(I)Z"⟩, prog_8_method_12_code, 2, (some .boolean), 5, 1, false, false)]
def mx_mt4 : List mx_Row := [(⟨"PluginHall$Reader", "appendToWord", "(I)Z"⟩, prog_8_method_6_code, 2, (some .boolean), 5, 1, false, false),
  (⟨"PluginHall$Reader", "readsTagSpaces", "(I)Z"⟩, prog_8_method_11_code, 2, (some .boolean), 5, 1, false, false),
  (⟨"PluginHall$Reader", "readsAttributeName", "(I)Z"⟩, prog_8_method_13_code, 2, (some .boolean), 5, 1, false, false),
  (⟨"PluginHall$Reader", "readsValue", "(I)Z"⟩, prog_8_method_14_code, 2, (some .boolean), 5, 1, false, false),
  (⟨"PluginHall$Reader", "close", "()Z"⟩, prog_8_method_7_code, 1, (some .boolean), 5, 0, false, false),
  (⟨"PluginHall$Reader", "readsClosingName", "(I)Z"⟩, prog_8_method_15_code, 2, (some .boolean), 5, 1, false, false),
  (⟨"PluginHall$Reader", "readsClosingEnd", "(I)Z"⟩, prog_8_method_16_code, 2, (some .boolean), 5, 1, false, false),
  (⟨"PluginHall$Plugin", "<init>", "(LPluginHall$Element;)V"⟩, prog_7_method_1_code, 2, none, 6, 1, false, true),
  (⟨"PluginHall$Plugin", "install", "(LPluginHall$Draft;I)V"⟩, prog_7_method_2_code, 3, none, 6, 2, false, false),
  (⟨"PluginHall$Plugin", "lineAt", "([BI)I"⟩, prog_7_method_6_code, 4, (some .int), 6, 2, true, false),
  (⟨"PluginHall$Plugin", "faults", "()I"⟩, prog_7_method_5_code, 1, (some .int), 6, 0, false, false),
  (⟨"PluginHall$Plugin", "uninstall", "()V"⟩, prog_7_method_3_code, 1, none, 6, 0, false, false),
  (⟨"PluginHall$Plugin", "standing", "()I"⟩, prog_7_method_4_code, 1, (some .int), 6, 0, false, false),
  (⟨"PluginHall$House", "<init>", "()V"⟩, prog_5_method_1_code, 2, none, 7, 0, false, true),
  (⟨"PluginHall$House", "resolve", "()V"⟩, prog_5_method_6_code, 5, none, 7, 0, false, false),
  (⟨"PluginHall$House", "firstUnmet", "(I)I"⟩, prog_5_method_7_code, 5, (some .int), 7, 1, false, false)]
def mx_mt5 : List mx_Row := [(⟨"PluginHall$House", "at", "(I)LPluginHall$Element;"⟩, prog_5_method_2_code, 2, (some (.object "PluginHall$Element")), 7, 1, false, false),
  (⟨"PluginHall$House", "treeOf", "(I)LPluginHall$Tree;"⟩, prog_5_method_4_code, 2, (some (.object "PluginHall$Tree")), 7, 1, false, false),
  (⟨"PluginHall$House", "stopIfActive", "(I)V"⟩, prog_5_method_15_code, 2, none, 7, 1, false, false),
  (⟨"PluginHall$House", "stopUnresolved", "()V"⟩, prog_5_method_16_code, 2, none, 7, 0, false, false),
  (⟨"PluginHall$House", "isHandle", "(I)Z"⟩, prog_5_method_3_code, 2, (some .boolean), 7, 1, false, false),
  (⟨"PluginHall$House", "lookFor", "(IJ)I"⟩, prog_5_method_8_code, 7, (some .int), 7, 2, false, false),
  (⟨"PluginHall$House", "classIn", "(IJ)I"⟩, prog_5_method_9_code, 5, (some .int), 7, 2, false, false),
  (⟨"PluginHall$House", "wakesFor", "(II)Z"⟩, prog_5_method_12_code, 3, (some .boolean), 7, 2, false, false),
  (⟨"PluginHall$House", "kindOf", "(I)I"⟩, prog_5_method_11_code, 2, (some .int), 7, 1, false, false),
  (⟨"PluginHall$House", "ownerOf", "(I)I"⟩, prog_5_method_10_code, 1, (some .int), 7, 1, true, false),
  (⟨"PluginHall$House", "wakes", "(II)Z"⟩, prog_5_method_13_code, 4, (some .boolean), 7, 2, false, false),
  (⟨"PluginHall$House", "starterDoesWell", "(II)Z"⟩, prog_5_method_14_code, 5, (some .boolean), 7, 2, false, false),
  (⟨"PluginHall$House", "stopAll", "()I"⟩, prog_5_method_17_code, 4, (some .int), 7, 0, false, false),
  (⟨"PluginHall$House", "nextToStop", "()I"⟩, prog_5_method_18_code, 3, (some .int), 7, 0, false, false),
  (⟨"PluginHall$House", "isNeededByOthers", "(I)Z"⟩, prog_5_method_19_code, 3, (some .boolean), 7, 1, false, false),
  (⟨"PluginHall$House", "standingAtLeast", "(I)I"⟩, prog_5_method_5_code, 7, (some .int), 7, 1, false, false)]
def mx_mt6 : List mx_Row := [(⟨"PluginHall$Shelf", "<init>", "(LPluginHall$House;)V"⟩, prog_9_method_1_code, 2, none, 8, 1, false, true),
  (⟨"PluginHall$Shelf", "refresh", "(LPluginHall$History;)I"⟩, prog_9_method_6_code, 3, (some .int), 8, 1, false, false),
  (⟨"PluginHall$Shelf", "markPoints", "()V"⟩, prog_9_method_7_code, 4, none, 8, 0, false, false),
  (⟨"PluginHall$Shelf", "isResolvedOutermost", "(IJ)Z"⟩, prog_9_method_8_code, 5, (some .boolean), 8, 2, false, false),
  (⟨"PluginHall$Shelf", "pointOf", "(J)I"⟩, prog_9_method_2_code, 4, (some .int), 8, 1, false, false),
  (⟨"PluginHall$Shelf", "fitsItsPoint", "(I)Z"⟩, prog_9_method_9_code, 5, (some .boolean), 8, 1, false, false),
  (⟨"PluginHall$Shelf", "hasItems", "(I)Z"⟩, prog_9_method_10_code, 4, (some .boolean), 8, 1, false, false),
  (⟨"PluginHall$Shelf", "isItemOf", "(LPluginHall$Element;I)Z"⟩, prog_9_method_12_code, 2, (some .boolean), 8, 2, true, false),
  (⟨"PluginHall$Shelf", "fitsAnItem", "(LPluginHall$Element;I)Z"⟩, prog_9_method_11_code, 8, (some .boolean), 8, 2, false, false),
  (⟨"PluginHall$Shelf", "tell", "(LPluginHall$History;)I"⟩, prog_9_method_13_code, 4, (some .int), 8, 1, false, false),
  (⟨"PluginHall$Shelf", "extensionsOf", "(J)I"⟩, prog_9_method_3_code, 5, (some .int), 8, 1, false, false),
  (⟨"PluginHall$Shelf", "extensionOf", "(JI)I"⟩, prog_9_method_4_code, 6, (some .int), 8, 2, false, false),
  (⟨"PluginHall$Shelf", "isWithinExtension", "(I)Z"⟩, prog_9_method_5_code, 2, (some .boolean), 8, 1, false, false),
  (⟨"PluginHall$Made", "<init>", "()V"⟩, prog_6_method_1_code, 1, none, 9, 0, false, true),
  (⟨"PluginHall$Made", "dropOutside", "([Z)V"⟩, prog_6_method_3_code, 3, none, 9, 1, false, false),
  (⟨"PluginHall$Made", "make", "(III)I"⟩, prog_6_method_2_code, 4, (some .int), 9, 3, false, false)]
def mx_mt7 : List mx_Row := [(⟨"PluginHall$Made", "kept", "()I"⟩, prog_6_method_4_code, 1, (some .int), 9, 0, false, false),
  (⟨"PluginHall$History", "<init>", "(I)V"⟩, prog_4_method_1_code, 2, none, 10, 1, false, true),
  (⟨"PluginHall$History", "note", "(I)V"⟩, prog_4_method_2_code, 2, none, 10, 1, false, false),
  (⟨"PluginHall$History", "before", "(I)I"⟩, prog_4_method_3_code, 2, (some .int), 10, 1, false, false),
  (⟨"PluginHallModel", "<init>", "()V"⟩, prog_13_method_1_code, 1, none, 11, 0, false, true),
  (⟨"PluginHallModel", "text", "(J)I"⟩, prog_13_method_6_code, 5, (some .int), 11, 1, false, false),
  (⟨"PluginHallModel", "letter", "(JI)I"⟩, prog_13_method_3_code, 3, (some .int), 11, 2, true, false),
  (⟨"PluginHallModel", "need", "(III)I"⟩, prog_13_method_7_code, 5, (some .int), 11, 3, false, false),
  (⟨"PluginHallModel", "is", "(III)Z"⟩, prog_13_method_2_code, 3, (some .boolean), 11, 3, true, false),
  (⟨"PluginHallModel", "provide", "(JI)I"⟩, prog_13_method_8_code, 4, (some .int), 11, 2, false, false),
  (⟨"PluginHallModel", "isWord", "(J)Z"⟩, prog_13_method_5_code, 3, (some .boolean), 11, 1, true, false),
  (⟨"PluginHallModel", "isSign", "(I)Z"⟩, prog_13_method_4_code, 1, (some .boolean), 11, 1, true, false),
  (⟨"PluginHallModel", "starter", "(IJ)Z"⟩, prog_13_method_9_code, 4, (some .boolean), 11, 2, false, false),
  (⟨"PluginHallModel", "clear", "()I"⟩, prog_13_method_10_code, 2, (some .int), 11, 0, false, false),
  (⟨"PluginHallModel", "add", "(II)I"⟩, prog_13_method_31_code, 4, (some .int), 11, 2, false, false),
  (⟨"PluginHallModel", "read", "(I)I"⟩, prog_13_method_12_code, 3, (some .int), 11, 1, false, false)]
def mx_mt8 : List mx_Row := [(⟨"PluginHallModel", "go", "(II)Z"⟩, prog_13_method_13_code, 5, (some .boolean), 11, 2, false, false),
  (⟨"PluginHallModel", "begin", "(II)Z"⟩, prog_13_method_14_code, 4, (some .boolean), 11, 2, false, false),
  (⟨"PluginHallModel", "tag", "(IZ)Z"⟩, prog_13_method_15_code, 3, (some .boolean), 11, 2, false, false),
  (⟨"PluginHallModel", "attributeBegins", "(I)Z"⟩, prog_13_method_16_code, 3, (some .boolean), 11, 1, false, false),
  (⟨"PluginHallModel", "attributeGoes", "(IZ)Z"⟩, prog_13_method_17_code, 5, (some .boolean), 11, 2, false, false),
  (⟨"PluginHallModel", "isTaken", "(IJ)Z"⟩, prog_13_method_11_code, 5, (some .boolean), 11, 2, false, false),
  (⟨"PluginHallModel", "change", "()I"⟩, prog_13_method_29_code, 3, (some .int), 11, 0, false, false),
  (⟨"PluginHallModel", "resolve", "()V"⟩, prog_13_method_20_code, 3, none, 11, 0, false, false),
  (⟨"PluginHallModel", "unmet", "(I)I"⟩, prog_13_method_19_code, 3, (some .int), 11, 1, false, false),
  (⟨"PluginHallModel", "isMet", "(II)Z"⟩, prog_13_method_18_code, 4, (some .boolean), 11, 2, false, false),
  (⟨"PluginHallModel", "isExtension", "(I)Z"⟩, prog_13_method_27_code, 5, (some .boolean), 11, 1, false, false),
  (⟨"PluginHallModel", "isTop", "(IJ)Z"⟩, prog_13_method_23_code, 4, (some .boolean), 11, 2, false, false),
  (⟨"PluginHallModel", "isElement", "(I)Z"⟩, prog_13_method_21_code, 2, (some .boolean), 11, 1, false, false),
  (⟨"PluginHallModel", "valueOf", "(IJ)J"⟩, prog_13_method_22_code, 5, (some .long), 11, 2, false, false),
  (⟨"PluginHallModel", "pointOf", "(J)I"⟩, prog_13_method_24_code, 4, (some .int), 11, 1, false, false),
  (⟨"PluginHallModel", "isItem", "(II)Z"⟩, prog_13_method_25_code, 3, (some .boolean), 11, 2, false, false)]
def mx_mt9 : List mx_Row := [(⟨"PluginHallModel", "suits", "(II)Z"⟩, prog_13_method_26_code, 6, (some .boolean), 11, 2, false, false),
  (⟨"PluginHallModel", "tell", "(I)V"⟩, prog_13_method_30_code, 3, none, 11, 1, false, false),
  (⟨"PluginHallModel", "remove", "(I)I"⟩, prog_13_method_33_code, 4, (some .int), 11, 1, false, false),
  (⟨"PluginHallModel", "stop", "(I)V"⟩, prog_13_method_32_code, 3, none, 11, 1, false, false),
  (⟨"PluginHallModel", "shutdown", "()I"⟩, prog_13_method_34_code, 3, (some .int), 11, 0, false, false),
  (⟨"PluginHallModel", "nextToStop", "()I"⟩, prog_13_method_35_code, 7, (some .int), 11, 0, false, false),
  (⟨"PluginHallModel", "create", "(IJ)I"⟩, prog_13_method_38_code, 9, (some .int), 11, 2, false, false),
  (⟨"PluginHallModel", "topOf", "(I)I"⟩, prog_13_method_28_code, 3, (some .int), 11, 1, false, false),
  (⟨"PluginHallModel", "lookFor", "(IJ)I"⟩, prog_13_method_36_code, 7, (some .int), 11, 2, false, false),
  (⟨"PluginHallModel", "wake", "(I)Z"⟩, prog_13_method_37_code, 8, (some .boolean), 11, 1, false, false),
  (⟨"PluginHallModel", "plugin", "(II)I"⟩, prog_13_method_39_code, 3, (some .int), 11, 2, false, false),
  (⟨"PluginHallModel", "extensions", "(J)I"⟩, prog_13_method_40_code, 5, (some .int), 11, 1, false, false),
  (⟨"PluginHallModel", "extension", "(JI)I"⟩, prog_13_method_41_code, 6, (some .int), 11, 2, false, false),
  (⟨"PluginHallModel", "element", "(II)I"⟩, prog_13_method_43_code, 3, (some .int), 11, 2, false, false),
  (⟨"PluginHallModel", "children", "(I)I"⟩, prog_13_method_42_code, 4, (some .int), 11, 1, false, false),
  (⟨"PluginHallModel", "name", "(I)J"⟩, prog_13_method_44_code, 2, (some .long), 11, 1, false, false)]
def mx_mt10 : List mx_Row := [(⟨"PluginHallModel", "child", "(II)I"⟩, prog_13_method_45_code, 5, (some .int), 11, 2, false, false),
  (⟨"PluginHallModel", "attribute", "(IJ)J"⟩, prog_13_method_46_code, 4, (some .long), 11, 2, false, false),
  (⟨"PluginHallModel", "object", "(II)I"⟩, prog_13_method_47_code, 3, (some .int), 11, 2, false, false),
  (⟨"PluginHallModel", "event", "(I)I"⟩, prog_13_method_48_code, 2, (some .int), 11, 1, false, false),
  (⟨"PluginHallModel", "stopped", "(I)I"⟩, prog_13_method_49_code, 2, (some .int), 11, 1, false, false),
  (⟨"PluginHallModel", "count", "(I)I"⟩, prog_13_method_50_code, 4, (some .int), 11, 1, false, false),
  (⟨"java/lang/Math", "floorMod", "(II)I"⟩, prog_14_method_50_code, 3, (some .int), 13, 2, true, false),
  (⟨"java/lang/Math", "max", "(II)I"⟩, prog_14_method_65_code, 2, (some .int), 13, 2, true, false),
  (⟨"PluginHallLaw", "law", "([I)Z"⟩, code, 4, (some .boolean), 12, 1, true, false)]
def mx_mt : List (List mx_Row) := [mx_mt0, mx_mt1, mx_mt2, mx_mt3, mx_mt4, mx_mt5, mx_mt6, mx_mt7, mx_mt8, mx_mt9, mx_mt10]
def mx_row (y : Nat) : mx_Row := mx_ix mx_mt y (⟨"", "", ""⟩, ⟨#[]⟩, 0, none, 99, 0, false, false)
def mx_my (y : Nat) : MethodName := (mx_row y).1
def mx_mb (y : Nat) : ByteArray := (mx_row y).2.1
def mx_mL (y : Nat) : Nat := (mx_row y).2.2.1
def mx_mr (y : Nat) : Option FieldType := (mx_row y).2.2.2.1
def mx_mc (y : Nat) : Nat := (mx_row y).2.2.2.2.1
def mx_mn (y : Nat) : Nat := (mx_row y).2.2.2.2.2.1
def mx_ms (y : Nat) : Bool := (mx_row y).2.2.2.2.2.2.1
def mx_mi (y : Nat) : Bool := (mx_row y).2.2.2.2.2.2.2
def mx_NM : Nat := 168
def mx_MP (y : Nat) : Prop := Cond.code (mx_my y) (mx_mb y) (mx_mL y) (mx_mr y) ∈ mx_GT ∧ plainFor (mx_my y) = true ∧ ((mx_my y).cls ≠ "java/lang/invoke/MethodHandle" ∧ (mx_my y).cls ≠ "java/lang/invoke/VarHandle") ∧ (parseMethodDescriptor (mx_my y).desc).map (fun d => d.parameters.length) = some (mx_mn y) ∧ (mx_ms y = true → Cond.static (mx_my y) ∈ mx_GT) ∧ (mx_ms y = false → Cond.instanceMethod (mx_my y) ∈ mx_GT) ∧ (mx_ms y = false → mx_mi y = false → Cond.selects (mx_my y).cls (mx_my y) (mx_my y) ∈ mx_GT) ∧ (mx_mi y = true → (mx_my y).name = "<init>") ∧ mx_own (mx_mc y) = (mx_my y).cls ∧ mx_mL y ≤ 45 ∧ (mx_ms y = false → ∃ q, mx_cls[mx_mc y]? = some q)
set_option maxRecDepth 20000 in
theorem mx_mo0 : mx_MP 0 := ⟨(mx_g1 18 rfl rfl), by decide +kernel, by decide +kernel, by decide +kernel, (fun h => by cases h), fun _ => (mx_g1 17 rfl rfl), (fun _ h => by cases h), fun _ => rfl, rfl, by decide, fun _ => ⟨_, rfl⟩⟩
set_option maxRecDepth 20000 in
theorem mx_mo1 : mx_MP 1 := ⟨(mx_g2 104 rfl rfl), by decide +kernel, by decide +kernel, by decide +kernel, (fun h => by cases h), fun _ => (mx_g2 102 rfl rfl), (fun _ _ => (mx_g2 103 rfl rfl)), (fun h => by cases h), rfl, by decide, fun _ => ⟨_, rfl⟩⟩
set_option maxRecDepth 20000 in
theorem mx_mo2 : mx_MP 2 := ⟨(mx_g2 114 rfl rfl), by decide +kernel, by decide +kernel, by decide +kernel, fun _ => (mx_g2 113 rfl rfl), (fun h => by cases h), (fun h => by cases h), (fun h => by cases h), rfl, by decide, (fun h => by cases h)⟩
set_option maxRecDepth 20000 in
theorem mx_mo3 : mx_MP 3 := ⟨(mx_g2 118 rfl rfl), by decide +kernel, by decide +kernel, by decide +kernel, (fun h => by cases h), fun _ => (mx_g2 116 rfl rfl), (fun _ _ => (mx_g2 117 rfl rfl)), (fun h => by cases h), rfl, by decide, fun _ => ⟨_, rfl⟩⟩
set_option maxRecDepth 20000 in
theorem mx_mo4 : mx_MP 4 := ⟨(mx_g2 121 rfl rfl), by decide +kernel, by decide +kernel, by decide +kernel, fun _ => (mx_g2 120 rfl rfl), (fun h => by cases h), (fun h => by cases h), (fun h => by cases h), rfl, by decide, (fun h => by cases h)⟩
set_option maxRecDepth 20000 in
theorem mx_mo5 : mx_MP 5 := ⟨(mx_g2 129 rfl rfl), by decide +kernel, by decide +kernel, by decide +kernel, (fun h => by cases h), fun _ => (mx_g2 127 rfl rfl), (fun _ _ => (mx_g2 128 rfl rfl)), (fun h => by cases h), rfl, by decide, fun _ => ⟨_, rfl⟩⟩
set_option maxRecDepth 20000 in
theorem mx_mo6 : mx_MP 6 := ⟨(mx_g2 132 rfl rfl), by decide +kernel, by decide +kernel, by decide +kernel, fun _ => (mx_g2 131 rfl rfl), (fun h => by cases h), (fun h => by cases h), (fun h => by cases h), rfl, by decide, (fun h => by cases h)⟩
set_option maxRecDepth 20000 in
theorem mx_mo7 : mx_MP 7 := ⟨(mx_g2 136 rfl rfl), by decide +kernel, by decide +kernel, by decide +kernel, fun _ => (mx_g2 135 rfl rfl), (fun h => by cases h), (fun h => by cases h), (fun h => by cases h), rfl, by decide, (fun h => by cases h)⟩
set_option maxRecDepth 20000 in
theorem mx_mo8 : mx_MP 8 := ⟨(mx_g2 139 rfl rfl), by decide +kernel, by decide +kernel, by decide +kernel, fun _ => (mx_g2 138 rfl rfl), (fun h => by cases h), (fun h => by cases h), (fun h => by cases h), rfl, by decide, (fun h => by cases h)⟩
set_option maxRecDepth 20000 in
theorem mx_mo9 : mx_MP 9 := ⟨(mx_g2 147 rfl rfl), by decide +kernel, by decide +kernel, by decide +kernel, (fun h => by cases h), fun _ => (mx_g2 145 rfl rfl), (fun _ _ => (mx_g2 146 rfl rfl)), (fun h => by cases h), rfl, by decide, fun _ => ⟨_, rfl⟩⟩
set_option maxRecDepth 20000 in
theorem mx_mo10 : mx_MP 10 := ⟨(mx_g2 155 rfl rfl), by decide +kernel, by decide +kernel, by decide +kernel, (fun h => by cases h), fun _ => (mx_g2 153 rfl rfl), (fun _ _ => (mx_g2 154 rfl rfl)), (fun h => by cases h), rfl, by decide, fun _ => ⟨_, rfl⟩⟩
set_option maxRecDepth 20000 in
theorem mx_mo11 : mx_MP 11 := ⟨(mx_g2 168 rfl rfl), by decide +kernel, by decide +kernel, by decide +kernel, (fun h => by cases h), fun _ => (mx_g2 166 rfl rfl), (fun _ _ => (mx_g2 167 rfl rfl)), (fun h => by cases h), rfl, by decide, fun _ => ⟨_, rfl⟩⟩
set_option maxRecDepth 20000 in
theorem mx_mo12 : mx_MP 12 := ⟨(mx_g3 60 rfl rfl), by decide +kernel, by decide +kernel, by decide +kernel, (fun h => by cases h), fun _ => (mx_g3 59 rfl rfl), (fun _ _ => mx_g0 (n := 5) 14 rfl), (fun h => by cases h), rfl, by decide, fun _ => ⟨_, rfl⟩⟩
set_option maxRecDepth 20000 in
theorem mx_mo13 : mx_MP 13 := ⟨(mx_g3 130 rfl rfl), by decide +kernel, by decide +kernel, by decide +kernel, (fun h => by cases h), fun _ => (mx_g3 128 rfl rfl), (fun _ _ => (mx_g3 129 rfl rfl)), (fun h => by cases h), rfl, by decide, fun _ => ⟨_, rfl⟩⟩
set_option maxRecDepth 20000 in
theorem mx_mo14 : mx_MP 14 := ⟨(mx_g3 148 rfl rfl), by decide +kernel, by decide +kernel, by decide +kernel, (fun h => by cases h), fun _ => (mx_g3 146 rfl rfl), (fun _ _ => (mx_g3 147 rfl rfl)), (fun h => by cases h), rfl, by decide, fun _ => ⟨_, rfl⟩⟩
set_option maxRecDepth 20000 in
theorem mx_mo15 : mx_MP 15 := ⟨(mx_g3 157 rfl rfl), by decide +kernel, by decide +kernel, by decide +kernel, (fun h => by cases h), fun _ => (mx_g3 155 rfl rfl), (fun _ _ => (mx_g3 156 rfl rfl)), (fun h => by cases h), rfl, by decide, fun _ => ⟨_, rfl⟩⟩
set_option maxRecDepth 20000 in
theorem mx_mo16 : mx_MP 16 := ⟨(mx_g3 166 rfl rfl), by decide +kernel, by decide +kernel, by decide +kernel, (fun h => by cases h), fun _ => (mx_g3 164 rfl rfl), (fun _ _ => (mx_g3 165 rfl rfl)), (fun h => by cases h), rfl, by decide, fun _ => ⟨_, rfl⟩⟩
set_option maxRecDepth 20000 in
theorem mx_mo17 : mx_MP 17 := ⟨(mx_g3 174 rfl rfl), by decide +kernel, by decide +kernel, by decide +kernel, (fun h => by cases h), fun _ => (mx_g3 172 rfl rfl), (fun _ _ => (mx_g3 173 rfl rfl)), (fun h => by cases h), rfl, by decide, fun _ => ⟨_, rfl⟩⟩
set_option maxRecDepth 20000 in
theorem mx_mo18 : mx_MP 18 := ⟨(mx_g3 188 rfl rfl), by decide +kernel, by decide +kernel, by decide +kernel, fun _ => (mx_g3 187 rfl rfl), (fun h => by cases h), (fun h => by cases h), (fun h => by cases h), rfl, by decide, (fun h => by cases h)⟩
set_option maxRecDepth 20000 in
theorem mx_mo19 : mx_MP 19 := ⟨(mx_g3 198 rfl rfl), by decide +kernel, by decide +kernel, by decide +kernel, (fun h => by cases h), fun _ => (mx_g3 196 rfl rfl), (fun _ _ => (mx_g3 197 rfl rfl)), (fun h => by cases h), rfl, by decide, fun _ => ⟨_, rfl⟩⟩
set_option maxRecDepth 20000 in
theorem mx_mo20 : mx_MP 20 := ⟨(mx_g3 202 rfl rfl), by decide +kernel, by decide +kernel, by decide +kernel, (fun h => by cases h), fun _ => (mx_g3 200 rfl rfl), (fun _ _ => (mx_g3 201 rfl rfl)), (fun h => by cases h), rfl, by decide, fun _ => ⟨_, rfl⟩⟩
set_option maxRecDepth 20000 in
theorem mx_mo21 : mx_MP 21 := ⟨(mx_g3 210 rfl rfl), by decide +kernel, by decide +kernel, by decide +kernel, (fun h => by cases h), fun _ => (mx_g3 208 rfl rfl), (fun _ _ => (mx_g3 209 rfl rfl)), (fun h => by cases h), rfl, by decide, fun _ => ⟨_, rfl⟩⟩
set_option maxRecDepth 20000 in
theorem mx_mo22 : mx_MP 22 := ⟨(mx_g3 215 rfl rfl), by decide +kernel, by decide +kernel, by decide +kernel, (fun h => by cases h), fun _ => (mx_g3 213 rfl rfl), (fun _ _ => (mx_g3 214 rfl rfl)), (fun h => by cases h), rfl, by decide, fun _ => ⟨_, rfl⟩⟩
set_option maxRecDepth 20000 in
theorem mx_mo23 : mx_MP 23 := ⟨(mx_g4 18 rfl rfl), by decide +kernel, by decide +kernel, by decide +kernel, (fun h => by cases h), fun _ => (mx_g4 16 rfl rfl), (fun _ _ => (mx_g4 17 rfl rfl)), (fun h => by cases h), rfl, by decide, fun _ => ⟨_, rfl⟩⟩
set_option maxRecDepth 20000 in
theorem mx_mo24 : mx_MP 24 := ⟨(mx_g4 22 rfl rfl), by decide +kernel, by decide +kernel, by decide +kernel, (fun h => by cases h), fun _ => (mx_g4 20 rfl rfl), (fun _ _ => (mx_g4 21 rfl rfl)), (fun h => by cases h), rfl, by decide, fun _ => ⟨_, rfl⟩⟩
set_option maxRecDepth 20000 in
theorem mx_mo25 : mx_MP 25 := ⟨(mx_g4 33 rfl rfl), by decide +kernel, by decide +kernel, by decide +kernel, (fun h => by cases h), fun _ => (mx_g4 31 rfl rfl), (fun _ _ => (mx_g4 32 rfl rfl)), (fun h => by cases h), rfl, by decide, fun _ => ⟨_, rfl⟩⟩
set_option maxRecDepth 20000 in
theorem mx_mo26 : mx_MP 26 := ⟨(mx_g4 56 rfl rfl), by decide +kernel, by decide +kernel, by decide +kernel, (fun h => by cases h), fun _ => (mx_g4 54 rfl rfl), (fun _ _ => (mx_g4 55 rfl rfl)), (fun h => by cases h), rfl, by decide, fun _ => ⟨_, rfl⟩⟩
set_option maxRecDepth 20000 in
theorem mx_mo27 : mx_MP 27 := ⟨(mx_g4 60 rfl rfl), by decide +kernel, by decide +kernel, by decide +kernel, (fun h => by cases h), fun _ => (mx_g4 58 rfl rfl), (fun _ _ => (mx_g4 59 rfl rfl)), (fun h => by cases h), rfl, by decide, fun _ => ⟨_, rfl⟩⟩
set_option maxRecDepth 20000 in
theorem mx_mo28 : mx_MP 28 := ⟨(mx_g4 68 rfl rfl), by decide +kernel, by decide +kernel, by decide +kernel, fun _ => (mx_g4 67 rfl rfl), (fun h => by cases h), (fun h => by cases h), (fun h => by cases h), rfl, by decide, (fun h => by cases h)⟩
set_option maxRecDepth 20000 in
theorem mx_mo29 : mx_MP 29 := ⟨(mx_g1 26 rfl rfl), by decide +kernel, by decide +kernel, by decide +kernel, (fun h => by cases h), fun _ => (mx_g1 25 rfl rfl), (fun _ h => by cases h), fun _ => rfl, rfl, by decide, fun _ => ⟨_, rfl⟩⟩
set_option maxRecDepth 20000 in
theorem mx_mo30 : mx_MP 30 := ⟨(mx_g2 108 rfl rfl), by decide +kernel, by decide +kernel, by decide +kernel, (fun h => by cases h), fun _ => (mx_g2 106 rfl rfl), (fun _ _ => (mx_g2 107 rfl rfl)), (fun h => by cases h), rfl, by decide, fun _ => ⟨_, rfl⟩⟩
set_option maxRecDepth 20000 in
theorem mx_mo31 : mx_MP 31 := ⟨(mx_g2 111 rfl rfl), by decide +kernel, by decide +kernel, by decide +kernel, fun _ => (mx_g2 110 rfl rfl), (fun h => by cases h), (fun h => by cases h), (fun h => by cases h), rfl, by decide, (fun h => by cases h)⟩
set_option maxRecDepth 20000 in
theorem mx_mo32 : mx_MP 32 := ⟨(mx_g2 159 rfl rfl), by decide +kernel, by decide +kernel, by decide +kernel, (fun h => by cases h), fun _ => (mx_g2 157 rfl rfl), (fun _ _ => (mx_g2 158 rfl rfl)), (fun h => by cases h), rfl, by decide, fun _ => ⟨_, rfl⟩⟩
set_option maxRecDepth 20000 in
theorem mx_mo33 : mx_MP 33 := ⟨(mx_g1 32 rfl rfl), by decide +kernel, by decide +kernel, by decide +kernel, (fun h => by cases h), fun _ => (mx_g1 31 rfl rfl), (fun _ h => by cases h), fun _ => rfl, rfl, by decide, fun _ => ⟨_, rfl⟩⟩
set_option maxRecDepth 20000 in
theorem mx_mo34 : mx_MP 34 := ⟨(mx_g2 125 rfl rfl), by decide +kernel, by decide +kernel, by decide +kernel, (fun h => by cases h), fun _ => (mx_g2 123 rfl rfl), (fun _ _ => (mx_g2 124 rfl rfl)), (fun h => by cases h), rfl, by decide, fun _ => ⟨_, rfl⟩⟩
set_option maxRecDepth 20000 in
theorem mx_mo35 : mx_MP 35 := ⟨(mx_g2 143 rfl rfl), by decide +kernel, by decide +kernel, by decide +kernel, (fun h => by cases h), fun _ => (mx_g2 141 rfl rfl), (fun _ _ => (mx_g2 142 rfl rfl)), (fun h => by cases h), rfl, by decide, fun _ => ⟨_, rfl⟩⟩
set_option maxRecDepth 20000 in
theorem mx_mo36 : mx_MP 36 := ⟨(mx_g2 151 rfl rfl), by decide +kernel, by decide +kernel, by decide +kernel, (fun h => by cases h), fun _ => (mx_g2 149 rfl rfl), (fun _ _ => (mx_g2 150 rfl rfl)), (fun h => by cases h), rfl, by decide, fun _ => ⟨_, rfl⟩⟩
set_option maxRecDepth 20000 in
theorem mx_mo37 : mx_MP 37 := ⟨(mx_g2 163 rfl rfl), by decide +kernel, by decide +kernel, by decide +kernel, (fun h => by cases h), fun _ => (mx_g2 161 rfl rfl), (fun _ _ => (mx_g2 162 rfl rfl)), (fun h => by cases h), rfl, by decide, fun _ => ⟨_, rfl⟩⟩
set_option maxRecDepth 20000 in
theorem mx_mo38 : mx_MP 38 := ⟨(mx_g2 176 rfl rfl), by decide +kernel, by decide +kernel, by decide +kernel, (fun h => by cases h), fun _ => (mx_g2 174 rfl rfl), (fun _ _ => (mx_g2 175 rfl rfl)), (fun h => by cases h), rfl, by decide, fun _ => ⟨_, rfl⟩⟩
set_option maxRecDepth 20000 in
theorem mx_mo39 : mx_MP 39 := ⟨(mx_g3 227 rfl rfl), by decide +kernel, by decide +kernel, by decide +kernel, (fun h => by cases h), fun _ => (mx_g3 225 rfl rfl), (fun _ _ => (mx_g3 226 rfl rfl)), (fun h => by cases h), rfl, by decide, fun _ => ⟨_, rfl⟩⟩
set_option maxRecDepth 20000 in
theorem mx_mo40 : mx_MP 40 := ⟨(mx_g4 49 rfl rfl), by decide +kernel, by decide +kernel, by decide +kernel, (fun h => by cases h), fun _ => (mx_g4 47 rfl rfl), (fun _ _ => (mx_g4 48 rfl rfl)), (fun h => by cases h), rfl, by decide, fun _ => ⟨_, rfl⟩⟩
set_option maxRecDepth 20000 in
theorem mx_mo41 : mx_MP 41 := ⟨(mx_g1 97 rfl rfl), by decide +kernel, by decide +kernel, by decide +kernel, (fun h => by cases h), fun _ => (mx_g1 96 rfl rfl), (fun _ h => by cases h), fun _ => rfl, rfl, by decide, fun _ => ⟨_, rfl⟩⟩
set_option maxRecDepth 20000 in
theorem mx_mo42 : mx_MP 42 := ⟨(mx_g2 224 rfl rfl), by decide +kernel, by decide +kernel, by decide +kernel, (fun h => by cases h), fun _ => (mx_g2 222 rfl rfl), (fun _ _ => (mx_g2 223 rfl rfl)), (fun h => by cases h), rfl, by decide, fun _ => ⟨_, rfl⟩⟩
set_option maxRecDepth 20000 in
theorem mx_mo43 : mx_MP 43 := ⟨(mx_g3 4 rfl rfl), by decide +kernel, by decide +kernel, by decide +kernel, (fun h => by cases h), fun _ => (mx_g3 2 rfl rfl), (fun _ _ => (mx_g3 3 rfl rfl)), (fun h => by cases h), rfl, by decide, fun _ => ⟨_, rfl⟩⟩
set_option maxRecDepth 20000 in
theorem mx_mo44 : mx_MP 44 := ⟨(mx_g3 12 rfl rfl), by decide +kernel, by decide +kernel, by decide +kernel, (fun h => by cases h), fun _ => (mx_g3 10 rfl rfl), (fun _ _ => (mx_g3 11 rfl rfl)), (fun h => by cases h), rfl, by decide, fun _ => ⟨_, rfl⟩⟩
set_option maxRecDepth 20000 in
theorem mx_mo45 : mx_MP 45 := ⟨(mx_g3 16 rfl rfl), by decide +kernel, by decide +kernel, by decide +kernel, (fun h => by cases h), fun _ => (mx_g3 14 rfl rfl), (fun _ _ => (mx_g3 15 rfl rfl)), (fun h => by cases h), rfl, by decide, fun _ => ⟨_, rfl⟩⟩
set_option maxRecDepth 20000 in
theorem mx_mo46 : mx_MP 46 := ⟨(mx_g3 25 rfl rfl), by decide +kernel, by decide +kernel, by decide +kernel, (fun h => by cases h), fun _ => (mx_g3 23 rfl rfl), (fun _ _ => (mx_g3 24 rfl rfl)), (fun h => by cases h), rfl, by decide, fun _ => ⟨_, rfl⟩⟩
set_option maxRecDepth 20000 in
theorem mx_mo47 : mx_MP 47 := ⟨(mx_g1 152 rfl rfl), by decide +kernel, by decide +kernel, by decide +kernel, (fun h => by cases h), fun _ => (mx_g1 151 rfl rfl), (fun _ h => by cases h), fun _ => rfl, rfl, by decide, fun _ => ⟨_, rfl⟩⟩
set_option maxRecDepth 20000 in
theorem mx_mo48 : mx_MP 48 := ⟨(mx_g2 187 rfl rfl), by decide +kernel, by decide +kernel, by decide +kernel, (fun h => by cases h), fun _ => (mx_g2 185 rfl rfl), (fun _ _ => (mx_g2 186 rfl rfl)), (fun h => by cases h), rfl, by decide, fun _ => ⟨_, rfl⟩⟩
set_option maxRecDepth 20000 in
theorem mx_mo49 : mx_MP 49 := ⟨(mx_g2 199 rfl rfl), by decide +kernel, by decide +kernel, by decide +kernel, (fun h => by cases h), fun _ => (mx_g2 197 rfl rfl), (fun _ _ => (mx_g2 198 rfl rfl)), (fun h => by cases h), rfl, by decide, fun _ => ⟨_, rfl⟩⟩
set_option maxRecDepth 20000 in
theorem mx_mo50 : mx_MP 50 := ⟨(mx_g2 219 rfl rfl), by decide +kernel, by decide +kernel, by decide +kernel, (fun h => by cases h), fun _ => (mx_g2 217 rfl rfl), (fun _ _ => (mx_g2 218 rfl rfl)), (fun h => by cases h), rfl, by decide, fun _ => ⟨_, rfl⟩⟩
set_option maxRecDepth 20000 in
theorem mx_mo51 : mx_MP 51 := ⟨(mx_g3 35 rfl rfl), by decide +kernel, by decide +kernel, by decide +kernel, (fun h => by cases h), fun _ => (mx_g3 33 rfl rfl), (fun _ _ => (mx_g3 34 rfl rfl)), (fun h => by cases h), rfl, by decide, fun _ => ⟨_, rfl⟩⟩
set_option maxRecDepth 20000 in
theorem mx_mo52 : mx_MP 52 := ⟨(mx_g3 185 rfl rfl), by decide +kernel, by decide +kernel, by decide +kernel, (fun h => by cases h), fun _ => (mx_g3 183 rfl rfl), (fun _ _ => (mx_g3 184 rfl rfl)), (fun h => by cases h), rfl, by decide, fun _ => ⟨_, rfl⟩⟩
set_option maxRecDepth 20000 in
theorem mx_mo53 : mx_MP 53 := ⟨(mx_g3 206 rfl rfl), by decide +kernel, by decide +kernel, by decide +kernel, (fun h => by cases h), fun _ => (mx_g3 204 rfl rfl), (fun _ _ => (mx_g3 205 rfl rfl)), (fun h => by cases h), rfl, by decide, fun _ => ⟨_, rfl⟩⟩
set_option maxRecDepth 20000 in
theorem mx_mo54 : mx_MP 54 := ⟨(mx_g1 174 rfl rfl), by decide +kernel, by decide +kernel, by decide +kernel, (fun h => by cases h), fun _ => (mx_g1 173 rfl rfl), (fun _ h => by cases h), fun _ => rfl, rfl, by decide, fun _ => ⟨_, rfl⟩⟩
set_option maxRecDepth 20000 in
theorem mx_mo55 : mx_MP 55 := ⟨(mx_g2 183 rfl rfl), by decide +kernel, by decide +kernel, by decide +kernel, (fun h => by cases h), fun _ => (mx_g2 181 rfl rfl), (fun _ _ => (mx_g2 182 rfl rfl)), (fun h => by cases h), rfl, by decide, fun _ => ⟨_, rfl⟩⟩
set_option maxRecDepth 20000 in
theorem mx_mo56 : mx_MP 56 := ⟨(mx_g2 191 rfl rfl), by decide +kernel, by decide +kernel, by decide +kernel, (fun h => by cases h), fun _ => (mx_g2 190 rfl rfl), (fun _ _ => mx_g0 (n := 6) 0 rfl), (fun h => by cases h), rfl, by decide, fun _ => ⟨_, rfl⟩⟩
set_option maxRecDepth 20000 in
theorem mx_mo57 : mx_MP 57 := ⟨(mx_g2 195 rfl rfl), by decide +kernel, by decide +kernel, by decide +kernel, (fun h => by cases h), fun _ => (mx_g2 194 rfl rfl), (fun _ _ => mx_g0 (n := 6) 1 rfl), (fun h => by cases h), rfl, by decide, fun _ => ⟨_, rfl⟩⟩
set_option maxRecDepth 20000 in
theorem mx_mo58 : mx_MP 58 := ⟨(mx_g2 203 rfl rfl), by decide +kernel, by decide +kernel, by decide +kernel, (fun h => by cases h), fun _ => (mx_g2 202 rfl rfl), (fun _ _ => mx_g0 (n := 6) 2 rfl), (fun h => by cases h), rfl, by decide, fun _ => ⟨_, rfl⟩⟩
set_option maxRecDepth 20000 in
theorem mx_mo59 : mx_MP 59 := ⟨(mx_g2 206 rfl rfl), by decide +kernel, by decide +kernel, by decide +kernel, fun _ => (mx_g2 205 rfl rfl), (fun h => by cases h), (fun h => by cases h), (fun h => by cases h), rfl, by decide, (fun h => by cases h)⟩
set_option maxRecDepth 20000 in
theorem mx_mo60 : mx_MP 60 := ⟨(mx_g2 210 rfl rfl), by decide +kernel, by decide +kernel, by decide +kernel, (fun h => by cases h), fun _ => (mx_g2 209 rfl rfl), (fun _ _ => mx_g0 (n := 6) 3 rfl), (fun h => by cases h), rfl, by decide, fun _ => ⟨_, rfl⟩⟩
set_option maxRecDepth 20000 in
theorem mx_mo61 : mx_MP 61 := ⟨(mx_g2 214 rfl rfl), by decide +kernel, by decide +kernel, by decide +kernel, (fun h => by cases h), fun _ => (mx_g2 213 rfl rfl), (fun _ _ => mx_g0 (n := 6) 4 rfl), (fun h => by cases h), rfl, by decide, fun _ => ⟨_, rfl⟩⟩
set_option maxRecDepth 20000 in
theorem mx_mo62 : mx_MP 62 := ⟨(mx_g2 228 rfl rfl), by decide +kernel, by decide +kernel, by decide +kernel, (fun h => by cases h), fun _ => (mx_g2 227 rfl rfl), (fun _ _ => mx_g0 (n := 6) 5 rfl), (fun h => by cases h), rfl, by decide, fun _ => ⟨_, rfl⟩⟩
set_option maxRecDepth 20000 in
theorem mx_mo63 : mx_MP 63 := ⟨(mx_g2 232 rfl rfl), by decide +kernel, by decide +kernel, by decide +kernel, (fun h => by cases h), fun _ => (mx_g2 231 rfl rfl), (fun _ _ => mx_g0 (n := 6) 6 rfl), (fun h => by cases h), rfl, by decide, fun _ => ⟨_, rfl⟩⟩
set_option maxRecDepth 20000 in
theorem mx_mo64 : mx_MP 64 := ⟨(mx_g2 236 rfl rfl), by decide +kernel, by decide +kernel, by decide +kernel, (fun h => by cases h), fun _ => (mx_g2 235 rfl rfl), (fun _ _ => mx_g0 (n := 6) 7 rfl), (fun h => by cases h), rfl, by decide, fun _ => ⟨_, rfl⟩⟩
set_option maxRecDepth 20000 in
theorem mx_mo65 : mx_MP 65 := ⟨(mx_g3 0 rfl rfl), by decide +kernel, by decide +kernel, by decide +kernel, (fun h => by cases h), fun _ => (mx_g2 239 rfl rfl), (fun _ _ => mx_g0 (n := 6) 8 rfl), (fun h => by cases h), rfl, by decide, fun _ => ⟨_, rfl⟩⟩
set_option maxRecDepth 20000 in
theorem mx_mo66 : mx_MP 66 := ⟨(mx_g3 8 rfl rfl), by decide +kernel, by decide +kernel, by decide +kernel, (fun h => by cases h), fun _ => (mx_g3 7 rfl rfl), (fun _ _ => mx_g0 (n := 6) 9 rfl), (fun h => by cases h), rfl, by decide, fun _ => ⟨_, rfl⟩⟩
set_option maxRecDepth 20000 in
theorem mx_mo67 : mx_MP 67 := ⟨(mx_g3 21 rfl rfl), by decide +kernel, by decide +kernel, by decide +kernel, (fun h => by cases h), fun _ => (mx_g3 20 rfl rfl), (fun _ _ => mx_g0 (n := 6) 10 rfl), (fun h => by cases h), rfl, by decide, fun _ => ⟨_, rfl⟩⟩
set_option maxRecDepth 20000 in
theorem mx_mo68 : mx_MP 68 := ⟨(mx_g3 31 rfl rfl), by decide +kernel, by decide +kernel, by decide +kernel, (fun h => by cases h), fun _ => (mx_g3 30 rfl rfl), (fun _ _ => mx_g0 (n := 6) 11 rfl), (fun h => by cases h), rfl, by decide, fun _ => ⟨_, rfl⟩⟩
set_option maxRecDepth 20000 in
theorem mx_mo69 : mx_MP 69 := ⟨(mx_g3 39 rfl rfl), by decide +kernel, by decide +kernel, by decide +kernel, (fun h => by cases h), fun _ => (mx_g3 38 rfl rfl), (fun _ _ => mx_g0 (n := 6) 12 rfl), (fun h => by cases h), rfl, by decide, fun _ => ⟨_, rfl⟩⟩
set_option maxRecDepth 20000 in
theorem mx_mo70 : mx_MP 70 := ⟨(mx_g3 43 rfl rfl), by decide +kernel, by decide +kernel, by decide +kernel, (fun h => by cases h), fun _ => (mx_g3 42 rfl rfl), (fun _ _ => mx_g0 (n := 6) 13 rfl), (fun h => by cases h), rfl, by decide, fun _ => ⟨_, rfl⟩⟩
set_option maxRecDepth 20000 in
theorem mx_mo71 : mx_MP 71 := ⟨(mx_g1 144 rfl rfl), by decide +kernel, by decide +kernel, by decide +kernel, (fun h => by cases h), fun _ => (mx_g1 143 rfl rfl), (fun _ h => by cases h), fun _ => rfl, rfl, by decide, fun _ => ⟨_, rfl⟩⟩
set_option maxRecDepth 20000 in
theorem mx_mo72 : mx_MP 72 := ⟨(mx_g2 172 rfl rfl), by decide +kernel, by decide +kernel, by decide +kernel, (fun h => by cases h), fun _ => (mx_g2 170 rfl rfl), (fun _ _ => (mx_g2 171 rfl rfl)), (fun h => by cases h), rfl, by decide, fun _ => ⟨_, rfl⟩⟩
set_option maxRecDepth 20000 in
theorem mx_mo73 : mx_MP 73 := ⟨(mx_g3 48 rfl rfl), by decide +kernel, by decide +kernel, by decide +kernel, fun _ => (mx_g3 47 rfl rfl), (fun h => by cases h), (fun h => by cases h), (fun h => by cases h), rfl, by decide, (fun h => by cases h)⟩
set_option maxRecDepth 20000 in
theorem mx_mo74 : mx_MP 74 := ⟨(mx_g3 126 rfl rfl), by decide +kernel, by decide +kernel, by decide +kernel, (fun h => by cases h), fun _ => (mx_g3 124 rfl rfl), (fun _ _ => (mx_g3 125 rfl rfl)), (fun h => by cases h), rfl, by decide, fun _ => ⟨_, rfl⟩⟩
set_option maxRecDepth 20000 in
theorem mx_mo75 : mx_MP 75 := ⟨(mx_g3 139 rfl rfl), by decide +kernel, by decide +kernel, by decide +kernel, (fun h => by cases h), fun _ => (mx_g3 137 rfl rfl), (fun _ _ => (mx_g3 138 rfl rfl)), (fun h => by cases h), rfl, by decide, fun _ => ⟨_, rfl⟩⟩
set_option maxRecDepth 20000 in
theorem mx_mo76 : mx_MP 76 := ⟨(mx_g3 152 rfl rfl), by decide +kernel, by decide +kernel, by decide +kernel, (fun h => by cases h), fun _ => (mx_g3 150 rfl rfl), (fun _ _ => (mx_g3 151 rfl rfl)), (fun h => by cases h), rfl, by decide, fun _ => ⟨_, rfl⟩⟩
set_option maxRecDepth 20000 in
theorem mx_mo77 : mx_MP 77 := ⟨(mx_g1 91 rfl rfl), by decide +kernel, by decide +kernel, by decide +kernel, (fun h => by cases h), fun _ => (mx_g1 90 rfl rfl), (fun _ h => by cases h), fun _ => rfl, rfl, by decide, fun _ => ⟨_, rfl⟩⟩
set_option maxRecDepth 20000 in
theorem mx_mo78 : mx_MP 78 := ⟨(mx_g3 52 rfl rfl), by decide +kernel, by decide +kernel, by decide +kernel, (fun h => by cases h), fun _ => (mx_g3 50 rfl rfl), (fun _ _ => (mx_g3 51 rfl rfl)), (fun h => by cases h), rfl, by decide, fun _ => ⟨_, rfl⟩⟩
set_option maxRecDepth 20000 in
theorem mx_mo79 : mx_MP 79 := ⟨(mx_g3 56 rfl rfl), by decide +kernel, by decide +kernel, by decide +kernel, (fun h => by cases h), fun _ => (mx_g3 54 rfl rfl), (fun _ _ => (mx_g3 55 rfl rfl)), (fun h => by cases h), rfl, by decide, fun _ => ⟨_, rfl⟩⟩
set_option maxRecDepth 20000 in
theorem mx_mo80 : mx_MP 80 := ⟨(mx_g3 72 rfl rfl), by decide +kernel, by decide +kernel, by decide +kernel, (fun h => by cases h), fun _ => (mx_g3 70 rfl rfl), (fun _ _ => (mx_g3 71 rfl rfl)), (fun h => by cases h), rfl, by decide, fun _ => ⟨_, rfl⟩⟩
set_option maxRecDepth 20000 in
theorem mx_mo81 : mx_MP 81 := ⟨(mx_g3 76 rfl rfl), by decide +kernel, by decide +kernel, by decide +kernel, (fun h => by cases h), fun _ => (mx_g3 74 rfl rfl), (fun _ _ => (mx_g3 75 rfl rfl)), (fun h => by cases h), rfl, by decide, fun _ => ⟨_, rfl⟩⟩
set_option maxRecDepth 20000 in
theorem mx_mo82 : mx_MP 82 := ⟨(mx_g3 134 rfl rfl), by decide +kernel, by decide +kernel, by decide +kernel, (fun h => by cases h), fun _ => (mx_g3 132 rfl rfl), (fun _ _ => (mx_g3 133 rfl rfl)), (fun h => by cases h), rfl, by decide, fun _ => ⟨_, rfl⟩⟩
set_option maxRecDepth 20000 in
theorem mx_mo83 : mx_MP 83 := ⟨(mx_g3 143 rfl rfl), by decide +kernel, by decide +kernel, by decide +kernel, (fun h => by cases h), fun _ => (mx_g3 141 rfl rfl), (fun _ _ => (mx_g3 142 rfl rfl)), (fun h => by cases h), rfl, by decide, fun _ => ⟨_, rfl⟩⟩
set_option maxRecDepth 20000 in
theorem mx_mo84 : mx_MP 84 := ⟨(mx_g3 178 rfl rfl), by decide +kernel, by decide +kernel, by decide +kernel, (fun h => by cases h), fun _ => (mx_g3 176 rfl rfl), (fun _ _ => (mx_g3 177 rfl rfl)), (fun h => by cases h), rfl, by decide, fun _ => ⟨_, rfl⟩⟩
set_option maxRecDepth 20000 in
theorem mx_mo85 : mx_MP 85 := ⟨(mx_g3 219 rfl rfl), by decide +kernel, by decide +kernel, by decide +kernel, (fun h => by cases h), fun _ => (mx_g3 217 rfl rfl), (fun _ _ => (mx_g3 218 rfl rfl)), (fun h => by cases h), rfl, by decide, fun _ => ⟨_, rfl⟩⟩
set_option maxRecDepth 20000 in
theorem mx_mo86 : mx_MP 86 := ⟨(mx_g3 223 rfl rfl), by decide +kernel, by decide +kernel, by decide +kernel, (fun h => by cases h), fun _ => (mx_g3 222 rfl rfl), (fun _ _ => mx_g0 (n := 3) 21 rfl), (fun h => by cases h), rfl, by decide, fun _ => ⟨_, rfl⟩⟩
set_option maxRecDepth 20000 in
theorem mx_mo87 : mx_MP 87 := ⟨(mx_g3 231 rfl rfl), by decide +kernel, by decide +kernel, by decide +kernel, (fun h => by cases h), fun _ => (mx_g3 230 rfl rfl), (fun _ _ => mx_g0 (n := 3) 22 rfl), (fun h => by cases h), rfl, by decide, fun _ => ⟨_, rfl⟩⟩
set_option maxRecDepth 20000 in
theorem mx_mo88 : mx_MP 88 := ⟨(mx_g3 235 rfl rfl), by decide +kernel, by decide +kernel, by decide +kernel, (fun h => by cases h), fun _ => (mx_g3 233 rfl rfl), (fun _ _ => (mx_g3 234 rfl rfl)), (fun h => by cases h), rfl, by decide, fun _ => ⟨_, rfl⟩⟩
set_option maxRecDepth 20000 in
theorem mx_mo89 : mx_MP 89 := ⟨(mx_g3 238 rfl rfl), by decide +kernel, by decide +kernel, by decide +kernel, fun _ => (mx_g3 237 rfl rfl), (fun h => by cases h), (fun h => by cases h), (fun h => by cases h), rfl, by decide, (fun h => by cases h)⟩
set_option maxRecDepth 20000 in
theorem mx_mo90 : mx_MP 90 := ⟨(mx_g4 2 rfl rfl), by decide +kernel, by decide +kernel, by decide +kernel, (fun h => by cases h), fun _ => (mx_g4 1 rfl rfl), (fun _ _ => mx_g0 (n := 3) 23 rfl), (fun h => by cases h), rfl, by decide, fun _ => ⟨_, rfl⟩⟩
set_option maxRecDepth 20000 in
theorem mx_mo91 : mx_MP 91 := ⟨(mx_g4 6 rfl rfl), by decide +kernel, by decide +kernel, by decide +kernel, (fun h => by cases h), fun _ => (mx_g4 5 rfl rfl), (fun _ _ => mx_g0 (n := 3) 24 rfl), (fun h => by cases h), rfl, by decide, fun _ => ⟨_, rfl⟩⟩
set_option maxRecDepth 20000 in
theorem mx_mo92 : mx_MP 92 := ⟨(mx_g4 37 rfl rfl), by decide +kernel, by decide +kernel, by decide +kernel, (fun h => by cases h), fun _ => (mx_g4 35 rfl rfl), (fun _ _ => (mx_g4 36 rfl rfl)), (fun h => by cases h), rfl, by decide, fun _ => ⟨_, rfl⟩⟩
set_option maxRecDepth 20000 in
theorem mx_mo93 : mx_MP 93 := ⟨(mx_g4 41 rfl rfl), by decide +kernel, by decide +kernel, by decide +kernel, (fun h => by cases h), fun _ => (mx_g4 40 rfl rfl), (fun _ _ => mx_g0 (n := 3) 25 rfl), (fun h => by cases h), rfl, by decide, fun _ => ⟨_, rfl⟩⟩
set_option maxRecDepth 20000 in
theorem mx_mo94 : mx_MP 94 := ⟨(mx_g4 45 rfl rfl), by decide +kernel, by decide +kernel, by decide +kernel, (fun h => by cases h), fun _ => (mx_g4 44 rfl rfl), (fun _ _ => mx_g0 (n := 3) 26 rfl), (fun h => by cases h), rfl, by decide, fun _ => ⟨_, rfl⟩⟩
set_option maxRecDepth 20000 in
theorem mx_mo95 : mx_MP 95 := ⟨(mx_g4 64 rfl rfl), by decide +kernel, by decide +kernel, by decide +kernel, (fun h => by cases h), fun _ => (mx_g4 62 rfl rfl), (fun _ _ => (mx_g4 63 rfl rfl)), (fun h => by cases h), rfl, by decide, fun _ => ⟨_, rfl⟩⟩
set_option maxRecDepth 20000 in
theorem mx_mo96 : mx_MP 96 := ⟨(mx_g2 39 rfl rfl), by decide +kernel, by decide +kernel, by decide +kernel, (fun h => by cases h), fun _ => (mx_g2 38 rfl rfl), (fun _ h => by cases h), fun _ => rfl, rfl, by decide, fun _ => ⟨_, rfl⟩⟩
set_option maxRecDepth 20000 in
theorem mx_mo97 : mx_MP 97 := ⟨(mx_g3 64 rfl rfl), by decide +kernel, by decide +kernel, by decide +kernel, (fun h => by cases h), fun _ => (mx_g3 62 rfl rfl), (fun _ _ => (mx_g3 63 rfl rfl)), (fun h => by cases h), rfl, by decide, fun _ => ⟨_, rfl⟩⟩
set_option maxRecDepth 20000 in
theorem mx_mo98 : mx_MP 98 := ⟨(mx_g3 68 rfl rfl), by decide +kernel, by decide +kernel, by decide +kernel, (fun h => by cases h), fun _ => (mx_g3 67 rfl rfl), (fun _ _ => mx_g0 (n := 4) 15 rfl), (fun h => by cases h), rfl, by decide, fun _ => ⟨_, rfl⟩⟩
set_option maxRecDepth 20000 in
theorem mx_mo99 : mx_MP 99 := ⟨(mx_g3 84 rfl rfl), by decide +kernel, by decide +kernel, by decide +kernel, (fun h => by cases h), fun _ => (mx_g3 83 rfl rfl), (fun _ _ => mx_g0 (n := 4) 16 rfl), (fun h => by cases h), rfl, by decide, fun _ => ⟨_, rfl⟩⟩
set_option maxRecDepth 20000 in
theorem mx_mo100 : mx_MP 100 := ⟨(mx_g3 88 rfl rfl), by decide +kernel, by decide +kernel, by decide +kernel, (fun h => by cases h), fun _ => (mx_g3 86 rfl rfl), (fun _ _ => (mx_g3 87 rfl rfl)), (fun h => by cases h), rfl, by decide, fun _ => ⟨_, rfl⟩⟩
set_option maxRecDepth 20000 in
theorem mx_mo101 : mx_MP 101 := ⟨(mx_g3 93 rfl rfl), by decide +kernel, by decide +kernel, by decide +kernel, (fun h => by cases h), fun _ => (mx_g3 92 rfl rfl), (fun _ _ => mx_g0 (n := 4) 17 rfl), (fun h => by cases h), rfl, by decide, fun _ => ⟨_, rfl⟩⟩
set_option maxRecDepth 20000 in
theorem mx_mo102 : mx_MP 102 := ⟨(mx_g3 97 rfl rfl), by decide +kernel, by decide +kernel, by decide +kernel, (fun h => by cases h), fun _ => (mx_g3 96 rfl rfl), (fun _ _ => mx_g0 (n := 4) 18 rfl), (fun h => by cases h), rfl, by decide, fun _ => ⟨_, rfl⟩⟩
set_option maxRecDepth 20000 in
theorem mx_mo103 : mx_MP 103 := ⟨(mx_g3 102 rfl rfl), by decide +kernel, by decide +kernel, by decide +kernel, fun _ => (mx_g3 101 rfl rfl), (fun h => by cases h), (fun h => by cases h), (fun h => by cases h), rfl, by decide, (fun h => by cases h)⟩
set_option maxRecDepth 20000 in
theorem mx_mo104 : mx_MP 104 := ⟨(mx_g3 108 rfl rfl), by decide +kernel, by decide +kernel, by decide +kernel, (fun h => by cases h), fun _ => (mx_g3 107 rfl rfl), (fun _ _ => mx_g0 (n := 4) 19 rfl), (fun h => by cases h), rfl, by decide, fun _ => ⟨_, rfl⟩⟩
set_option maxRecDepth 20000 in
theorem mx_mo105 : mx_MP 105 := ⟨(mx_g3 114 rfl rfl), by decide +kernel, by decide +kernel, by decide +kernel, (fun h => by cases h), fun _ => (mx_g3 113 rfl rfl), (fun _ _ => mx_g0 (n := 4) 20 rfl), (fun h => by cases h), rfl, by decide, fun _ => ⟨_, rfl⟩⟩
set_option maxRecDepth 20000 in
theorem mx_mo106 : mx_MP 106 := ⟨(mx_g3 162 rfl rfl), by decide +kernel, by decide +kernel, by decide +kernel, (fun h => by cases h), fun _ => (mx_g3 160 rfl rfl), (fun _ _ => (mx_g3 161 rfl rfl)), (fun h => by cases h), rfl, by decide, fun _ => ⟨_, rfl⟩⟩
set_option maxRecDepth 20000 in
theorem mx_mo107 : mx_MP 107 := ⟨(mx_g3 170 rfl rfl), by decide +kernel, by decide +kernel, by decide +kernel, (fun h => by cases h), fun _ => (mx_g3 168 rfl rfl), (fun _ _ => (mx_g3 169 rfl rfl)), (fun h => by cases h), rfl, by decide, fun _ => ⟨_, rfl⟩⟩
set_option maxRecDepth 20000 in
theorem mx_mo108 : mx_MP 108 := ⟨(mx_g3 192 rfl rfl), by decide +kernel, by decide +kernel, by decide +kernel, (fun h => by cases h), fun _ => (mx_g3 190 rfl rfl), (fun _ _ => (mx_g3 191 rfl rfl)), (fun h => by cases h), rfl, by decide, fun _ => ⟨_, rfl⟩⟩
set_option maxRecDepth 20000 in
theorem mx_mo109 : mx_MP 109 := ⟨(mx_g2 61 rfl rfl), by decide +kernel, by decide +kernel, by decide +kernel, (fun h => by cases h), fun _ => (mx_g2 60 rfl rfl), (fun _ h => by cases h), fun _ => rfl, rfl, by decide, fun _ => ⟨_, rfl⟩⟩
set_option maxRecDepth 20000 in
theorem mx_mo110 : mx_MP 110 := ⟨(mx_g3 122 rfl rfl), by decide +kernel, by decide +kernel, by decide +kernel, (fun h => by cases h), fun _ => (mx_g3 120 rfl rfl), (fun _ _ => (mx_g3 121 rfl rfl)), (fun h => by cases h), rfl, by decide, fun _ => ⟨_, rfl⟩⟩
set_option maxRecDepth 20000 in
theorem mx_mo111 : mx_MP 111 := ⟨(mx_g4 14 rfl rfl), by decide +kernel, by decide +kernel, by decide +kernel, (fun h => by cases h), fun _ => (mx_g4 12 rfl rfl), (fun _ _ => (mx_g4 13 rfl rfl)), (fun h => by cases h), rfl, by decide, fun _ => ⟨_, rfl⟩⟩
set_option maxRecDepth 20000 in
theorem mx_mo112 : mx_MP 112 := ⟨(mx_g4 72 rfl rfl), by decide +kernel, by decide +kernel, by decide +kernel, (fun h => by cases h), fun _ => (mx_g4 70 rfl rfl), (fun _ _ => (mx_g4 71 rfl rfl)), (fun h => by cases h), rfl, by decide, fun _ => ⟨_, rfl⟩⟩
set_option maxRecDepth 20000 in
theorem mx_mo113 : mx_MP 113 := ⟨(mx_g2 7 rfl rfl), by decide +kernel, by decide +kernel, by decide +kernel, (fun h => by cases h), fun _ => (mx_g2 6 rfl rfl), (fun _ h => by cases h), fun _ => rfl, rfl, by decide, fun _ => ⟨_, rfl⟩⟩
set_option maxRecDepth 20000 in
theorem mx_mo114 : mx_MP 114 := ⟨(mx_g3 118 rfl rfl), by decide +kernel, by decide +kernel, by decide +kernel, (fun h => by cases h), fun _ => (mx_g3 116 rfl rfl), (fun _ _ => (mx_g3 117 rfl rfl)), (fun h => by cases h), rfl, by decide, fun _ => ⟨_, rfl⟩⟩
set_option maxRecDepth 20000 in
theorem mx_mo115 : mx_MP 115 := ⟨(mx_g4 26 rfl rfl), by decide +kernel, by decide +kernel, by decide +kernel, (fun h => by cases h), fun _ => (mx_g4 24 rfl rfl), (fun _ _ => (mx_g4 25 rfl rfl)), (fun h => by cases h), rfl, by decide, fun _ => ⟨_, rfl⟩⟩
set_option maxRecDepth 20000 in
theorem mx_mo116 : mx_MP 116 := ⟨(mx_g4 78 rfl rfl), by decide +kernel, by decide +kernel, by decide +kernel, (fun h => by cases h), fun _ => (mx_g4 77 rfl rfl), (fun _ h => by cases h), fun _ => rfl, rfl, by decide, fun _ => ⟨_, rfl⟩⟩
set_option maxRecDepth 20000 in
theorem mx_mo117 : mx_MP 117 := ⟨(mx_g4 210 rfl rfl), by decide +kernel, by decide +kernel, by decide +kernel, (fun h => by cases h), fun _ => (mx_g4 208 rfl rfl), (fun _ _ => (mx_g4 209 rfl rfl)), (fun h => by cases h), rfl, by decide, fun _ => ⟨_, rfl⟩⟩
set_option maxRecDepth 20000 in
theorem mx_mo118 : mx_MP 118 := ⟨(mx_g4 213 rfl rfl), by decide +kernel, by decide +kernel, by decide +kernel, fun _ => (mx_g4 212 rfl rfl), (fun h => by cases h), (fun h => by cases h), (fun h => by cases h), rfl, by decide, (fun h => by cases h)⟩
set_option maxRecDepth 20000 in
theorem mx_mo119 : mx_MP 119 := ⟨(mx_g4 218 rfl rfl), by decide +kernel, by decide +kernel, by decide +kernel, (fun h => by cases h), fun _ => (mx_g4 216 rfl rfl), (fun _ _ => (mx_g4 217 rfl rfl)), (fun h => by cases h), rfl, by decide, fun _ => ⟨_, rfl⟩⟩
set_option maxRecDepth 20000 in
theorem mx_mo120 : mx_MP 120 := ⟨(mx_g4 221 rfl rfl), by decide +kernel, by decide +kernel, by decide +kernel, fun _ => (mx_g4 220 rfl rfl), (fun h => by cases h), (fun h => by cases h), (fun h => by cases h), rfl, by decide, (fun h => by cases h)⟩
set_option maxRecDepth 20000 in
theorem mx_mo121 : mx_MP 121 := ⟨(mx_g4 225 rfl rfl), by decide +kernel, by decide +kernel, by decide +kernel, (fun h => by cases h), fun _ => (mx_g4 223 rfl rfl), (fun _ _ => (mx_g4 224 rfl rfl)), (fun h => by cases h), rfl, by decide, fun _ => ⟨_, rfl⟩⟩
set_option maxRecDepth 20000 in
theorem mx_mo122 : mx_MP 122 := ⟨(mx_g4 228 rfl rfl), by decide +kernel, by decide +kernel, by decide +kernel, fun _ => (mx_g4 227 rfl rfl), (fun h => by cases h), (fun h => by cases h), (fun h => by cases h), rfl, by decide, (fun h => by cases h)⟩
set_option maxRecDepth 20000 in
theorem mx_mo123 : mx_MP 123 := ⟨(mx_g4 231 rfl rfl), by decide +kernel, by decide +kernel, by decide +kernel, fun _ => (mx_g4 230 rfl rfl), (fun h => by cases h), (fun h => by cases h), (fun h => by cases h), rfl, by decide, (fun h => by cases h)⟩
set_option maxRecDepth 20000 in
theorem mx_mo124 : mx_MP 124 := ⟨(mx_g4 235 rfl rfl), by decide +kernel, by decide +kernel, by decide +kernel, (fun h => by cases h), fun _ => (mx_g4 233 rfl rfl), (fun _ _ => (mx_g4 234 rfl rfl)), (fun h => by cases h), rfl, by decide, fun _ => ⟨_, rfl⟩⟩
set_option maxRecDepth 20000 in
theorem mx_mo125 : mx_MP 125 := ⟨(mx_g4 239 rfl rfl), by decide +kernel, by decide +kernel, by decide +kernel, (fun h => by cases h), fun _ => (mx_g4 237 rfl rfl), (fun _ _ => (mx_g4 238 rfl rfl)), (fun h => by cases h), rfl, by decide, fun _ => ⟨_, rfl⟩⟩
set_option maxRecDepth 20000 in
theorem mx_mo126 : mx_MP 126 := ⟨(mx_g5 3 rfl rfl), by decide +kernel, by decide +kernel, by decide +kernel, (fun h => by cases h), fun _ => (mx_g5 1 rfl rfl), (fun _ _ => (mx_g5 2 rfl rfl)), (fun h => by cases h), rfl, by decide, fun _ => ⟨_, rfl⟩⟩
set_option maxRecDepth 20000 in
theorem mx_mo127 : mx_MP 127 := ⟨(mx_g5 7 rfl rfl), by decide +kernel, by decide +kernel, by decide +kernel, (fun h => by cases h), fun _ => (mx_g5 6 rfl rfl), (fun _ _ => mx_g0 (n := 42) 27 rfl), (fun h => by cases h), rfl, by decide, fun _ => ⟨_, rfl⟩⟩
set_option maxRecDepth 20000 in
theorem mx_mo128 : mx_MP 128 := ⟨(mx_g5 11 rfl rfl), by decide +kernel, by decide +kernel, by decide +kernel, (fun h => by cases h), fun _ => (mx_g5 10 rfl rfl), (fun _ _ => mx_g0 (n := 42) 28 rfl), (fun h => by cases h), rfl, by decide, fun _ => ⟨_, rfl⟩⟩
set_option maxRecDepth 20000 in
theorem mx_mo129 : mx_MP 129 := ⟨(mx_g5 15 rfl rfl), by decide +kernel, by decide +kernel, by decide +kernel, (fun h => by cases h), fun _ => (mx_g5 14 rfl rfl), (fun _ _ => mx_g0 (n := 42) 29 rfl), (fun h => by cases h), rfl, by decide, fun _ => ⟨_, rfl⟩⟩
set_option maxRecDepth 20000 in
theorem mx_mo130 : mx_MP 130 := ⟨(mx_g5 19 rfl rfl), by decide +kernel, by decide +kernel, by decide +kernel, (fun h => by cases h), fun _ => (mx_g5 18 rfl rfl), (fun _ _ => mx_g0 (n := 42) 30 rfl), (fun h => by cases h), rfl, by decide, fun _ => ⟨_, rfl⟩⟩
set_option maxRecDepth 20000 in
theorem mx_mo131 : mx_MP 131 := ⟨(mx_g5 23 rfl rfl), by decide +kernel, by decide +kernel, by decide +kernel, (fun h => by cases h), fun _ => (mx_g5 22 rfl rfl), (fun _ _ => mx_g0 (n := 42) 31 rfl), (fun h => by cases h), rfl, by decide, fun _ => ⟨_, rfl⟩⟩
set_option maxRecDepth 20000 in
theorem mx_mo132 : mx_MP 132 := ⟨(mx_g5 27 rfl rfl), by decide +kernel, by decide +kernel, by decide +kernel, (fun h => by cases h), fun _ => (mx_g5 26 rfl rfl), (fun _ _ => mx_g0 (n := 42) 32 rfl), (fun h => by cases h), rfl, by decide, fun _ => ⟨_, rfl⟩⟩
set_option maxRecDepth 20000 in
theorem mx_mo133 : mx_MP 133 := ⟨(mx_g5 31 rfl rfl), by decide +kernel, by decide +kernel, by decide +kernel, (fun h => by cases h), fun _ => (mx_g5 30 rfl rfl), (fun _ _ => mx_g0 (n := 42) 33 rfl), (fun h => by cases h), rfl, by decide, fun _ => ⟨_, rfl⟩⟩
set_option maxRecDepth 20000 in
theorem mx_mo134 : mx_MP 134 := ⟨(mx_g5 36 rfl rfl), by decide +kernel, by decide +kernel, by decide +kernel, (fun h => by cases h), fun _ => (mx_g5 35 rfl rfl), (fun _ _ => mx_g0 (n := 42) 34 rfl), (fun h => by cases h), rfl, by decide, fun _ => ⟨_, rfl⟩⟩
set_option maxRecDepth 20000 in
theorem mx_mo135 : mx_MP 135 := ⟨(mx_g5 40 rfl rfl), by decide +kernel, by decide +kernel, by decide +kernel, (fun h => by cases h), fun _ => (mx_g5 39 rfl rfl), (fun _ _ => mx_g0 (n := 42) 35 rfl), (fun h => by cases h), rfl, by decide, fun _ => ⟨_, rfl⟩⟩
set_option maxRecDepth 20000 in
theorem mx_mo136 : mx_MP 136 := ⟨(mx_g5 44 rfl rfl), by decide +kernel, by decide +kernel, by decide +kernel, (fun h => by cases h), fun _ => (mx_g5 43 rfl rfl), (fun _ _ => mx_g0 (n := 42) 36 rfl), (fun h => by cases h), rfl, by decide, fun _ => ⟨_, rfl⟩⟩
set_option maxRecDepth 20000 in
theorem mx_mo137 : mx_MP 137 := ⟨(mx_g5 48 rfl rfl), by decide +kernel, by decide +kernel, by decide +kernel, (fun h => by cases h), fun _ => (mx_g5 47 rfl rfl), (fun _ _ => mx_g0 (n := 42) 37 rfl), (fun h => by cases h), rfl, by decide, fun _ => ⟨_, rfl⟩⟩
set_option maxRecDepth 20000 in
theorem mx_mo138 : mx_MP 138 := ⟨(mx_g5 52 rfl rfl), by decide +kernel, by decide +kernel, by decide +kernel, (fun h => by cases h), fun _ => (mx_g5 51 rfl rfl), (fun _ _ => mx_g0 (n := 42) 38 rfl), (fun h => by cases h), rfl, by decide, fun _ => ⟨_, rfl⟩⟩
set_option maxRecDepth 20000 in
theorem mx_mo139 : mx_MP 139 := ⟨(mx_g5 57 rfl rfl), by decide +kernel, by decide +kernel, by decide +kernel, (fun h => by cases h), fun _ => (mx_g5 56 rfl rfl), (fun _ _ => mx_g0 (n := 42) 39 rfl), (fun h => by cases h), rfl, by decide, fun _ => ⟨_, rfl⟩⟩
set_option maxRecDepth 20000 in
theorem mx_mo140 : mx_MP 140 := ⟨(mx_g5 61 rfl rfl), by decide +kernel, by decide +kernel, by decide +kernel, (fun h => by cases h), fun _ => (mx_g5 60 rfl rfl), (fun _ _ => mx_g0 (n := 42) 40 rfl), (fun h => by cases h), rfl, by decide, fun _ => ⟨_, rfl⟩⟩
set_option maxRecDepth 20000 in
theorem mx_mo141 : mx_MP 141 := ⟨(mx_g5 66 rfl rfl), by decide +kernel, by decide +kernel, by decide +kernel, (fun h => by cases h), fun _ => (mx_g5 65 rfl rfl), (fun _ _ => mx_g0 (n := 42) 41 rfl), (fun h => by cases h), rfl, by decide, fun _ => ⟨_, rfl⟩⟩
set_option maxRecDepth 20000 in
theorem mx_mo142 : mx_MP 142 := ⟨(mx_g5 71 rfl rfl), by decide +kernel, by decide +kernel, by decide +kernel, (fun h => by cases h), fun _ => (mx_g5 70 rfl rfl), (fun _ _ => mx_g0 (n := 42) 42 rfl), (fun h => by cases h), rfl, by decide, fun _ => ⟨_, rfl⟩⟩
set_option maxRecDepth 20000 in
theorem mx_mo143 : mx_MP 143 := ⟨(mx_g5 76 rfl rfl), by decide +kernel, by decide +kernel, by decide +kernel, (fun h => by cases h), fun _ => (mx_g5 75 rfl rfl), (fun _ _ => mx_g0 (n := 42) 43 rfl), (fun h => by cases h), rfl, by decide, fun _ => ⟨_, rfl⟩⟩
set_option maxRecDepth 20000 in
theorem mx_mo144 : mx_MP 144 := ⟨(mx_g5 82 rfl rfl), by decide +kernel, by decide +kernel, by decide +kernel, (fun h => by cases h), fun _ => (mx_g5 81 rfl rfl), (fun _ _ => mx_g0 (n := 42) 44 rfl), (fun h => by cases h), rfl, by decide, fun _ => ⟨_, rfl⟩⟩
set_option maxRecDepth 20000 in
theorem mx_mo145 : mx_MP 145 := ⟨(mx_g5 87 rfl rfl), by decide +kernel, by decide +kernel, by decide +kernel, (fun h => by cases h), fun _ => (mx_g5 86 rfl rfl), (fun _ _ => mx_g0 (n := 42) 45 rfl), (fun h => by cases h), rfl, by decide, fun _ => ⟨_, rfl⟩⟩
set_option maxRecDepth 20000 in
theorem mx_mo146 : mx_MP 146 := ⟨(mx_g5 91 rfl rfl), by decide +kernel, by decide +kernel, by decide +kernel, (fun h => by cases h), fun _ => (mx_g5 89 rfl rfl), (fun _ _ => (mx_g5 90 rfl rfl)), (fun h => by cases h), rfl, by decide, fun _ => ⟨_, rfl⟩⟩
set_option maxRecDepth 20000 in
theorem mx_mo147 : mx_MP 147 := ⟨(mx_g5 95 rfl rfl), by decide +kernel, by decide +kernel, by decide +kernel, (fun h => by cases h), fun _ => (mx_g5 94 rfl rfl), (fun _ _ => mx_g0 (n := 42) 46 rfl), (fun h => by cases h), rfl, by decide, fun _ => ⟨_, rfl⟩⟩
set_option maxRecDepth 20000 in
theorem mx_mo148 : mx_MP 148 := ⟨(mx_g5 99 rfl rfl), by decide +kernel, by decide +kernel, by decide +kernel, (fun h => by cases h), fun _ => (mx_g5 97 rfl rfl), (fun _ _ => (mx_g5 98 rfl rfl)), (fun h => by cases h), rfl, by decide, fun _ => ⟨_, rfl⟩⟩
set_option maxRecDepth 20000 in
theorem mx_mo149 : mx_MP 149 := ⟨(mx_g5 103 rfl rfl), by decide +kernel, by decide +kernel, by decide +kernel, (fun h => by cases h), fun _ => (mx_g5 102 rfl rfl), (fun _ _ => mx_g0 (n := 42) 47 rfl), (fun h => by cases h), rfl, by decide, fun _ => ⟨_, rfl⟩⟩
set_option maxRecDepth 20000 in
theorem mx_mo150 : mx_MP 150 := ⟨(mx_g5 107 rfl rfl), by decide +kernel, by decide +kernel, by decide +kernel, (fun h => by cases h), fun _ => (mx_g5 105 rfl rfl), (fun _ _ => (mx_g5 106 rfl rfl)), (fun h => by cases h), rfl, by decide, fun _ => ⟨_, rfl⟩⟩
set_option maxRecDepth 20000 in
theorem mx_mo151 : mx_MP 151 := ⟨(mx_g5 111 rfl rfl), by decide +kernel, by decide +kernel, by decide +kernel, (fun h => by cases h), fun _ => (mx_g5 110 rfl rfl), (fun _ _ => mx_g0 (n := 42) 48 rfl), (fun h => by cases h), rfl, by decide, fun _ => ⟨_, rfl⟩⟩
set_option maxRecDepth 20000 in
theorem mx_mo152 : mx_MP 152 := ⟨(mx_g5 115 rfl rfl), by decide +kernel, by decide +kernel, by decide +kernel, (fun h => by cases h), fun _ => (mx_g5 114 rfl rfl), (fun _ _ => mx_g0 (n := 42) 49 rfl), (fun h => by cases h), rfl, by decide, fun _ => ⟨_, rfl⟩⟩
set_option maxRecDepth 20000 in
theorem mx_mo153 : mx_MP 153 := ⟨(mx_g5 119 rfl rfl), by decide +kernel, by decide +kernel, by decide +kernel, (fun h => by cases h), fun _ => (mx_g5 118 rfl rfl), (fun _ _ => mx_g0 (n := 42) 50 rfl), (fun h => by cases h), rfl, by decide, fun _ => ⟨_, rfl⟩⟩
set_option maxRecDepth 20000 in
theorem mx_mo154 : mx_MP 154 := ⟨(mx_g5 123 rfl rfl), by decide +kernel, by decide +kernel, by decide +kernel, (fun h => by cases h), fun _ => (mx_g5 121 rfl rfl), (fun _ _ => (mx_g5 122 rfl rfl)), (fun h => by cases h), rfl, by decide, fun _ => ⟨_, rfl⟩⟩
set_option maxRecDepth 20000 in
theorem mx_mo155 : mx_MP 155 := ⟨(mx_g5 127 rfl rfl), by decide +kernel, by decide +kernel, by decide +kernel, (fun h => by cases h), fun _ => (mx_g5 125 rfl rfl), (fun _ _ => (mx_g5 126 rfl rfl)), (fun h => by cases h), rfl, by decide, fun _ => ⟨_, rfl⟩⟩
set_option maxRecDepth 20000 in
theorem mx_mo156 : mx_MP 156 := ⟨(mx_g5 131 rfl rfl), by decide +kernel, by decide +kernel, by decide +kernel, (fun h => by cases h), fun _ => (mx_g5 129 rfl rfl), (fun _ _ => (mx_g5 130 rfl rfl)), (fun h => by cases h), rfl, by decide, fun _ => ⟨_, rfl⟩⟩
set_option maxRecDepth 20000 in
theorem mx_mo157 : mx_MP 157 := ⟨(mx_g5 135 rfl rfl), by decide +kernel, by decide +kernel, by decide +kernel, (fun h => by cases h), fun _ => (mx_g5 133 rfl rfl), (fun _ _ => (mx_g5 134 rfl rfl)), (fun h => by cases h), rfl, by decide, fun _ => ⟨_, rfl⟩⟩
set_option maxRecDepth 20000 in
theorem mx_mo158 : mx_MP 158 := ⟨(mx_g5 139 rfl rfl), by decide +kernel, by decide +kernel, by decide +kernel, (fun h => by cases h), fun _ => (mx_g5 138 rfl rfl), (fun _ _ => mx_g0 (n := 42) 51 rfl), (fun h => by cases h), rfl, by decide, fun _ => ⟨_, rfl⟩⟩
set_option maxRecDepth 20000 in
theorem mx_mo159 : mx_MP 159 := ⟨(mx_g5 143 rfl rfl), by decide +kernel, by decide +kernel, by decide +kernel, (fun h => by cases h), fun _ => (mx_g5 141 rfl rfl), (fun _ _ => (mx_g5 142 rfl rfl)), (fun h => by cases h), rfl, by decide, fun _ => ⟨_, rfl⟩⟩
set_option maxRecDepth 20000 in
theorem mx_mo160 : mx_MP 160 := ⟨(mx_g5 147 rfl rfl), by decide +kernel, by decide +kernel, by decide +kernel, (fun h => by cases h), fun _ => (mx_g5 145 rfl rfl), (fun _ _ => (mx_g5 146 rfl rfl)), (fun h => by cases h), rfl, by decide, fun _ => ⟨_, rfl⟩⟩
set_option maxRecDepth 20000 in
theorem mx_mo161 : mx_MP 161 := ⟨(mx_g5 151 rfl rfl), by decide +kernel, by decide +kernel, by decide +kernel, (fun h => by cases h), fun _ => (mx_g5 149 rfl rfl), (fun _ _ => (mx_g5 150 rfl rfl)), (fun h => by cases h), rfl, by decide, fun _ => ⟨_, rfl⟩⟩
set_option maxRecDepth 20000 in
theorem mx_mo162 : mx_MP 162 := ⟨(mx_g5 155 rfl rfl), by decide +kernel, by decide +kernel, by decide +kernel, (fun h => by cases h), fun _ => (mx_g5 153 rfl rfl), (fun _ _ => (mx_g5 154 rfl rfl)), (fun h => by cases h), rfl, by decide, fun _ => ⟨_, rfl⟩⟩
set_option maxRecDepth 20000 in
theorem mx_mo163 : mx_MP 163 := ⟨(mx_g5 159 rfl rfl), by decide +kernel, by decide +kernel, by decide +kernel, (fun h => by cases h), fun _ => (mx_g5 157 rfl rfl), (fun _ _ => (mx_g5 158 rfl rfl)), (fun h => by cases h), rfl, by decide, fun _ => ⟨_, rfl⟩⟩
set_option maxRecDepth 20000 in
theorem mx_mo164 : mx_MP 164 := ⟨(mx_g5 163 rfl rfl), by decide +kernel, by decide +kernel, by decide +kernel, (fun h => by cases h), fun _ => (mx_g5 161 rfl rfl), (fun _ _ => (mx_g5 162 rfl rfl)), (fun h => by cases h), rfl, by decide, fun _ => ⟨_, rfl⟩⟩
set_option maxRecDepth 20000 in
theorem mx_mo165 : mx_MP 165 := ⟨(mx_g5 167 rfl rfl), by decide +kernel, by decide +kernel, by decide +kernel, (fun h => by cases h), fun _ => (mx_g5 165 rfl rfl), (fun _ _ => (mx_g5 166 rfl rfl)), (fun h => by cases h), rfl, by decide, fun _ => ⟨_, rfl⟩⟩
set_option maxRecDepth 20000 in
theorem mx_mo166 : mx_MP 166 := ⟨(mx_g4 29 rfl rfl), by decide +kernel, by decide +kernel, by decide +kernel, fun _ => (mx_g4 28 rfl rfl), (fun h => by cases h), (fun h => by cases h), (fun h => by cases h), rfl, by decide, (fun h => by cases h)⟩
set_option maxRecDepth 20000 in
theorem mx_mo167 : mx_MP 167 := ⟨(mx_g4 52 rfl rfl), by decide +kernel, by decide +kernel, by decide +kernel, fun _ => (mx_g4 51 rfl rfl), (fun h => by cases h), (fun h => by cases h), (fun h => by cases h), rfl, by decide, (fun h => by cases h)⟩
theorem mx_mp0 (j : Nat) (h : j < 16) : mx_MP (0 + j) := by
  match j, h with
  | 0, _ => exact mx_mo0
  | 1, _ => exact mx_mo1
  | 2, _ => exact mx_mo2
  | 3, _ => exact mx_mo3
  | 4, _ => exact mx_mo4
  | 5, _ => exact mx_mo5
  | 6, _ => exact mx_mo6
  | 7, _ => exact mx_mo7
  | 8, _ => exact mx_mo8
  | 9, _ => exact mx_mo9
  | 10, _ => exact mx_mo10
  | 11, _ => exact mx_mo11
  | 12, _ => exact mx_mo12
  | 13, _ => exact mx_mo13
  | 14, _ => exact mx_mo14
  | 15, _ => exact mx_mo15
  | n + 16, h => omega
theorem mx_mp1 (j : Nat) (h : j < 16) : mx_MP (16 + j) := by
  match j, h with
  | 0, _ => exact mx_mo16
  | 1, _ => exact mx_mo17
  | 2, _ => exact mx_mo18
  | 3, _ => exact mx_mo19
  | 4, _ => exact mx_mo20
  | 5, _ => exact mx_mo21
  | 6, _ => exact mx_mo22
  | 7, _ => exact mx_mo23
  | 8, _ => exact mx_mo24
  | 9, _ => exact mx_mo25
  | 10, _ => exact mx_mo26
  | 11, _ => exact mx_mo27
  | 12, _ => exact mx_mo28
  | 13, _ => exact mx_mo29
  | 14, _ => exact mx_mo30
  | 15, _ => exact mx_mo31
  | n + 16, h => omega
theorem mx_mp2 (j : Nat) (h : j < 16) : mx_MP (32 + j) := by
  match j, h with
  | 0, _ => exact mx_mo32
  | 1, _ => exact mx_mo33
  | 2, _ => exact mx_mo34
  | 3, _ => exact mx_mo35
  | 4, _ => exact mx_mo36
  | 5, _ => exact mx_mo37
  | 6, _ => exact mx_mo38
  | 7, _ => exact mx_mo39
  | 8, _ => exact mx_mo40
  | 9, _ => exact mx_mo41
  | 10, _ => exact mx_mo42
  | 11, _ => exact mx_mo43
  | 12, _ => exact mx_mo44
  | 13, _ => exact mx_mo45
  | 14, _ => exact mx_mo46
  | 15, _ => exact mx_mo47
  | n + 16, h => omega
theorem mx_mp3 (j : Nat) (h : j < 16) : mx_MP (48 + j) := by
  match j, h with
  | 0, _ => exact mx_mo48
  | 1, _ => exact mx_mo49
  | 2, _ => exact mx_mo50
  | 3, _ => exact mx_mo51
  | 4, _ => exact mx_mo52
  | 5, _ => exact mx_mo53
  | 6, _ => exact mx_mo54
  | 7, _ => exact mx_mo55
  | 8, _ => exact mx_mo56
  | 9, _ => exact mx_mo57
  | 10, _ => exact mx_mo58
  | 11, _ => exact mx_mo59
  | 12, _ => exact mx_mo60
  | 13, _ => exact mx_mo61
  | 14, _ => exact mx_mo62
  | 15, _ => exact mx_mo63
  | n + 16, h => omega
theorem mx_mp4 (j : Nat) (h : j < 16) : mx_MP (64 + j) := by
  match j, h with
  | 0, _ => exact mx_mo64
  | 1, _ => exact mx_mo65
  | 2, _ => exact mx_mo66
  | 3, _ => exact mx_mo67
  | 4, _ => exact mx_mo68
  | 5, _ => exact mx_mo69
  | 6, _ => exact mx_mo70
  | 7, _ => exact mx_mo71
  | 8, _ => exact mx_mo72
  | 9, _ => exact mx_mo73
  | 10, _ => exact mx_mo74
  | 11, _ => exact mx_mo75
  | 12, _ => exact mx_mo76
  | 13, _ => exact mx_mo77
  | 14, _ => exact mx_mo78
  | 15, _ => exact mx_mo79
  | n + 16, h => omega
theorem mx_mp5 (j : Nat) (h : j < 16) : mx_MP (80 + j) := by
  match j, h with
  | 0, _ => exact mx_mo80
  | 1, _ => exact mx_mo81
  | 2, _ => exact mx_mo82
  | 3, _ => exact mx_mo83
  | 4, _ => exact mx_mo84
  | 5, _ => exact mx_mo85
  | 6, _ => exact mx_mo86
  | 7, _ => exact mx_mo87
  | 8, _ => exact mx_mo88
  | 9, _ => exact mx_mo89
  | 10, _ => exact mx_mo90
  | 11, _ => exact mx_mo91
  | 12, _ => exact mx_mo92
  | 13, _ => exact mx_mo93
  | 14, _ => exact mx_mo94
  | 15, _ => exact mx_mo95
  | n + 16, h => omega
theorem mx_mp6 (j : Nat) (h : j < 16) : mx_MP (96 + j) := by
  match j, h with
  | 0, _ => exact mx_mo96
  | 1, _ => exact mx_mo97
  | 2, _ => exact mx_mo98
  | 3, _ => exact mx_mo99
  | 4, _ => exact mx_mo100
  | 5, _ => exact mx_mo101
  | 6, _ => exact mx_mo102
  | 7, _ => exact mx_mo103
  | 8, _ => exact mx_mo104
  | 9, _ => exact mx_mo105
  | 10, _ => exact mx_mo106
  | 11, _ => exact mx_mo107
  | 12, _ => exact mx_mo108
  | 13, _ => exact mx_mo109
  | 14, _ => exact mx_mo110
  | 15, _ => exact mx_mo111
  | n + 16, h => omega
theorem mx_mp7 (j : Nat) (h : j < 16) : mx_MP (112 + j) := by
  match j, h with
  | 0, _ => exact mx_mo112
  | 1, _ => exact mx_mo113
  | 2, _ => exact mx_mo114
  | 3, _ => exact mx_mo115
  | 4, _ => exact mx_mo116
  | 5, _ => exact mx_mo117
  | 6, _ => exact mx_mo118
  | 7, _ => exact mx_mo119
  | 8, _ => exact mx_mo120
  | 9, _ => exact mx_mo121
  | 10, _ => exact mx_mo122
  | 11, _ => exact mx_mo123
  | 12, _ => exact mx_mo124
  | 13, _ => exact mx_mo125
  | 14, _ => exact mx_mo126
  | 15, _ => exact mx_mo127
  | n + 16, h => omega
theorem mx_mp8 (j : Nat) (h : j < 16) : mx_MP (128 + j) := by
  match j, h with
  | 0, _ => exact mx_mo128
  | 1, _ => exact mx_mo129
  | 2, _ => exact mx_mo130
  | 3, _ => exact mx_mo131
  | 4, _ => exact mx_mo132
  | 5, _ => exact mx_mo133
  | 6, _ => exact mx_mo134
  | 7, _ => exact mx_mo135
  | 8, _ => exact mx_mo136
  | 9, _ => exact mx_mo137
  | 10, _ => exact mx_mo138
  | 11, _ => exact mx_mo139
  | 12, _ => exact mx_mo140
  | 13, _ => exact mx_mo141
  | 14, _ => exact mx_mo142
  | 15, _ => exact mx_mo143
  | n + 16, h => omega
theorem mx_mp9 (j : Nat) (h : j < 16) : mx_MP (144 + j) := by
  match j, h with
  | 0, _ => exact mx_mo144
  | 1, _ => exact mx_mo145
  | 2, _ => exact mx_mo146
  | 3, _ => exact mx_mo147
  | 4, _ => exact mx_mo148
  | 5, _ => exact mx_mo149
  | 6, _ => exact mx_mo150
  | 7, _ => exact mx_mo151
  | 8, _ => exact mx_mo152
  | 9, _ => exact mx_mo153
  | 10, _ => exact mx_mo154
  | 11, _ => exact mx_mo155
  | 12, _ => exact mx_mo156
  | 13, _ => exact mx_mo157
  | 14, _ => exact mx_mo158
  | 15, _ => exact mx_mo159
  | n + 16, h => omega
theorem mx_mp10 (j : Nat) (h : j < 8) : mx_MP (160 + j) := by
  match j, h with
  | 0, _ => exact mx_mo160
  | 1, _ => exact mx_mo161
  | 2, _ => exact mx_mo162
  | 3, _ => exact mx_mo163
  | 4, _ => exact mx_mo164
  | 5, _ => exact mx_mo165
  | 6, _ => exact mx_mo166
  | 7, _ => exact mx_mo167
  | n + 8, h => omega
theorem mx_meth_ok {y : Nat} (h : y < mx_NM) : mx_MP y := by
  have h : y < 168 := h
  by_cases h0 : y < 16
  · have e := mx_mp0 (y - 0) (by omega)
    rwa [show 0 + (y - 0) = y by omega] at e
  by_cases h16 : y < 32
  · have e := mx_mp1 (y - 16) (by omega)
    rwa [show 16 + (y - 16) = y by omega] at e
  by_cases h32 : y < 48
  · have e := mx_mp2 (y - 32) (by omega)
    rwa [show 32 + (y - 32) = y by omega] at e
  by_cases h48 : y < 64
  · have e := mx_mp3 (y - 48) (by omega)
    rwa [show 48 + (y - 48) = y by omega] at e
  by_cases h64 : y < 80
  · have e := mx_mp4 (y - 64) (by omega)
    rwa [show 64 + (y - 64) = y by omega] at e
  by_cases h80 : y < 96
  · have e := mx_mp5 (y - 80) (by omega)
    rwa [show 80 + (y - 80) = y by omega] at e
  by_cases h96 : y < 112
  · have e := mx_mp6 (y - 96) (by omega)
    rwa [show 96 + (y - 96) = y by omega] at e
  by_cases h112 : y < 128
  · have e := mx_mp7 (y - 112) (by omega)
    rwa [show 112 + (y - 112) = y by omega] at e
  by_cases h128 : y < 144
  · have e := mx_mp8 (y - 128) (by omega)
    rwa [show 128 + (y - 128) = y by omega] at e
  by_cases h144 : y < 160
  · have e := mx_mp9 (y - 144) (by omega)
    rwa [show 144 + (y - 144) = y by omega] at e
  have e := mx_mp10 (y - 160) (by omega)
  rwa [show 160 + (y - 160) = y by omega] at e
theorem mx_init_ok {y : Nat} (h : y < mx_NM) (hi : mx_mi y = true) : mx_mr y = none ∧ (mx_my y).name = "<init>" := by
  have ha : (List.range 168).all (fun y => !mx_mi y || decide (mx_mr y = none)) = true := by decide +kernel
  have h2 := List.all_eq_true.mp ha y (List.mem_range.mpr h)
  rw [hi] at h2
  exact ⟨by simpa using h2, (mx_meth_ok h).2.2.2.2.2.2.2.1 hi⟩
def mx_calT : List (List (Nat × Nat × Bool)) := [[(11, 29, false), (18, 77, false), (25, 96, false), (34, 109, false), (41, 113, false), (48, 30, false), (52, 4, false), (60, 34, false), (66, 6, false), (70, 35, false), (74, 36, false), (82, 32, false), (95, 72, false), (99, 78, false), (102, 12, false), (106, 74, false), (109, 82, false), (112, 75, false), (115, 83, false), (118, 76, false), (142, 79, false), (146, 100, false), (149, 106, false), (152, 107, false), (155, 84, false), (158, 80, false), (162, 81, false), (171, 52, false), (180, 18, false), (187, 108, false), (194, 53, false), (197, 45, false), (201, 85, false), (205, 87, true), (209, 88, false), (215, 89, false), (218, 111, false), (235, 115, false), (238, 92, false), (244, 95, false), (250, 28, false), (257, 112, false), (261, 97, false), (264, 110, false), (268, 8, false), (271, 2, false), (274, 7, false)],
  [(17, 33, false), (22, 31, false), (30, 2, true), (34, 37, false)],
  [(35, 36, false), (46, 37, false), (49, 34, false), (53, 35, false)],
  [(38, 43, false), (42, 45, false)],
  [(21, 41, false), (26, 49, false), (30, 42, false)],
  [(24, 48, false), (31, 56, false), (40, 57, false), (43, 60, false), (46, 62, false), (49, 65, false), (52, 66, false), (55, 61, false), (58, 67, false), (61, 63, false), (64, 68, false), (68, 69, false), (71, 70, false), (81, 58, false), (87, 51, false), (91, 49, false), (94, 59, false), (97, 8, true), (100, 50, false), (104, 64, false), (110, 43, false), (113, 44, false), (120, 46, false), (124, 7, true), (127, 2, true)],
  [(11, 33, false), (20, 47, false), (29, 54, false), (50, 38, false), (61, 55, false), (71, 48, false), (74, 73, false)],
  [(11, 41, false), (24, 71, false), (29, 113, false), (36, 81, false), (40, 51, false), (46, 80, false), (55, 76, false), (66, 79, false), (92, 86, false), (96, 39, false), (100, 89, false), (106, 88, false), (109, 90, false), (122, 91, false), (129, 85, false), (132, 87, false), (138, 114, false), (141, 82, false), (147, 93, false), (150, 94, false), (154, 167, false), (160, 40, false)],
  [(25, 80, false), (33, 45, false), (41, 84, false), (49, 18, true), (53, 98, false), (58, 99, false), (62, 101, false), (65, 105, false), (69, 100, false), (90, 102, false), (93, 81, false), (102, 51, false), (106, 104, false), (110, 103, false), (117, 44, false), (128, 114, false)],
  [(29, 28, true)],
  [(22, 166, false)],
  [(116, 120, false), (120, 118, false), (124, 123, false), (132, 122, false), (142, 128, false), (146, 129, false), (152, 130, false), (159, 131, false), (162, 132, false), (165, 133, false), (169, 137, false), (172, 136, false), (178, 140, false), (183, 139, false), (188, 141, false), (196, 143, false), (203, 142, false), (207, 144, false), (213, 135, false), (216, 138, false), (219, 145, false), (226, 127, false), (229, 125, false), (233, 134, false), (239, 147, false), (242, 149, false), (245, 152, false), (249, 151, false), (252, 153, false), (255, 158, false)],
  [(9, 0, false), (12, 116, false), (15, 1, false), (19, 117, false), (20, 3, false), (24, 119, false), (25, 5, false), (29, 121, false), (30, 9, false), (34, 124, false), (35, 10, false), (39, 125, false), (40, 11, false), (44, 126, false), (45, 13, false), (49, 146, false), (50, 14, false), (53, 154, false), (54, 15, false), (57, 155, false), (58, 16, false), (61, 156, false), (62, 17, false), (65, 157, false), (66, 19, false), (70, 159, false), (71, 20, false), (74, 160, false), (75, 21, false), (79, 161, false), (80, 22, false), (84, 150, false), (85, 23, false), (88, 162, false), (89, 24, false), (92, 163, false), (93, 25, false), (96, 148, false), (97, 26, false), (100, 164, false), (101, 27, false), (104, 165, false)],
  []]
def mx_cal (own idx : Nat) : Option (Nat × Bool) := ((mx_calT[own]?).getD []).lookup idx
set_option maxRecDepth 20000 in
theorem mx_cal_o0 : ∀ e ∈ ((mx_calT[0]?).getD []), (fun (e : Nat × Nat × Bool) => e.2.1 < mx_NM ∧ Cond.initialized (mx_my e.2.1).cls ∈ mx_GT ∧ (e.2.2 = false → Cond.methodLink (mx_own 0) e.1 (mx_my e.2.1) ∈ mx_GT) ∧ (e.2.2 = true → ∃ host, (mx_own 0, e.1, mx_my e.2.1, host) ∈ mx_nm)) e := mx_fc ⟨by decide, (mx_g1 2 rfl rfl), fun _ => (mx_g1 24 rfl rfl), fun h => by cases h⟩ (mx_fc ⟨by decide, (mx_g1 4 rfl rfl), fun _ => (mx_g1 89 rfl rfl), fun h => by cases h⟩ (mx_fc ⟨by decide, (mx_g1 10 rfl rfl), fun _ => (mx_g2 37 rfl rfl), fun h => by cases h⟩ (mx_fc ⟨by decide, (mx_g1 11 rfl rfl), fun _ => (mx_g2 59 rfl rfl), fun h => by cases h⟩ (mx_fc ⟨by decide, (mx_g1 9 rfl rfl), fun _ => (mx_g2 84 rfl rfl), fun h => by cases h⟩ (mx_fc ⟨by decide, (mx_g1 2 rfl rfl), fun _ => (mx_g2 105 rfl rfl), fun h => by cases h⟩ (mx_fc ⟨by decide, (mx_g1 1 rfl rfl), fun _ => (mx_g2 119 rfl rfl), fun h => by cases h⟩ (mx_fc ⟨by decide, (mx_g1 3 rfl rfl), fun _ => (mx_g2 122 rfl rfl), fun h => by cases h⟩ (mx_fc ⟨by decide, (mx_g1 1 rfl rfl), fun _ => (mx_g2 130 rfl rfl), fun h => by cases h⟩ (mx_fc ⟨by decide, (mx_g1 3 rfl rfl), fun _ => (mx_g2 140 rfl rfl), fun h => by cases h⟩ (mx_fc ⟨by decide, (mx_g1 3 rfl rfl), fun _ => (mx_g2 148 rfl rfl), fun h => by cases h⟩ (mx_fc ⟨by decide, (mx_g1 2 rfl rfl), fun _ => (mx_g2 156 rfl rfl), fun h => by cases h⟩ (mx_fc ⟨by decide, (mx_g1 6 rfl rfl), fun _ => (mx_g2 169 rfl rfl), fun h => by cases h⟩ (mx_fc ⟨by decide, (mx_g1 4 rfl rfl), fun _ => (mx_g3 49 rfl rfl), fun h => by cases h⟩ (mx_fc ⟨by decide, (mx_g1 1 rfl rfl), fun _ => (mx_g3 57 rfl rfl), fun h => by cases h⟩ (mx_fc ⟨by decide, (mx_g1 6 rfl rfl), fun _ => (mx_g3 123 rfl rfl), fun h => by cases h⟩ (mx_fc ⟨by decide, (mx_g1 4 rfl rfl), fun _ => (mx_g3 131 rfl rfl), fun h => by cases h⟩ (mx_fc ⟨by decide, (mx_g1 6 rfl rfl), fun _ => (mx_g3 136 rfl rfl), fun h => by cases h⟩ (mx_fc ⟨by decide, (mx_g1 4 rfl rfl), fun _ => (mx_g3 140 rfl rfl), fun h => by cases h⟩ (mx_fc ⟨by decide, (mx_g1 6 rfl rfl), fun _ => (mx_g3 149 rfl rfl), fun h => by cases h⟩ (mx_fc ⟨by decide, (mx_g1 4 rfl rfl), fun _ => (mx_g3 153 rfl rfl), fun h => by cases h⟩ (mx_fc ⟨by decide, (mx_g1 10 rfl rfl), fun _ => (mx_g3 158 rfl rfl), fun h => by cases h⟩ (mx_fc ⟨by decide, (mx_g1 10 rfl rfl), fun _ => (mx_g3 159 rfl rfl), fun h => by cases h⟩ (mx_fc ⟨by decide, (mx_g1 10 rfl rfl), fun _ => (mx_g3 167 rfl rfl), fun h => by cases h⟩ (mx_fc ⟨by decide, (mx_g1 4 rfl rfl), fun _ => (mx_g3 175 rfl rfl), fun h => by cases h⟩ (mx_fc ⟨by decide, (mx_g1 4 rfl rfl), fun _ => (mx_g3 180 rfl rfl), fun h => by cases h⟩ (mx_fc ⟨by decide, (mx_g1 4 rfl rfl), fun _ => (mx_g3 181 rfl rfl), fun h => by cases h⟩ (mx_fc ⟨by decide, (mx_g1 7 rfl rfl), fun _ => (mx_g3 182 rfl rfl), fun h => by cases h⟩ (mx_fc ⟨by decide, (mx_g1 1 rfl rfl), fun _ => (mx_g3 186 rfl rfl), fun h => by cases h⟩ (mx_fc ⟨by decide, (mx_g1 10 rfl rfl), fun _ => (mx_g3 189 rfl rfl), fun h => by cases h⟩ (mx_fc ⟨by decide, (mx_g1 7 rfl rfl), fun _ => (mx_g3 203 rfl rfl), fun h => by cases h⟩ (mx_fc ⟨by decide, (mx_g1 5 rfl rfl), fun _ => (mx_g3 211 rfl rfl), fun h => by cases h⟩ (mx_fc ⟨by decide, (mx_g1 4 rfl rfl), fun _ => (mx_g3 216 rfl rfl), fun h => by cases h⟩ (mx_fc ⟨by decide, (mx_g1 4 rfl rfl), (fun h => by cases h), fun _ => ⟨"PluginHall", List.mem_of_getElem? (i := 5) rfl⟩⟩ (mx_fc ⟨by decide, (mx_g1 4 rfl rfl), fun _ => (mx_g4 9 rfl rfl), fun h => by cases h⟩ (mx_fc ⟨by decide, (mx_g1 4 rfl rfl), fun _ => (mx_g4 10 rfl rfl), fun h => by cases h⟩ (mx_fc ⟨by decide, (mx_g1 11 rfl rfl), fun _ => (mx_g4 11 rfl rfl), fun h => by cases h⟩ (mx_fc ⟨by decide, (mx_g1 9 rfl rfl), fun _ => (mx_g4 23 rfl rfl), fun h => by cases h⟩ (mx_fc ⟨by decide, (mx_g1 4 rfl rfl), fun _ => (mx_g4 34 rfl rfl), fun h => by cases h⟩ (mx_fc ⟨by decide, (mx_g1 4 rfl rfl), fun _ => (mx_g4 61 rfl rfl), fun h => by cases h⟩ (mx_fc ⟨by decide, (mx_g1 1 rfl rfl), fun _ => (mx_g4 66 rfl rfl), fun h => by cases h⟩ (mx_fc ⟨by decide, (mx_g1 11 rfl rfl), fun _ => (mx_g4 69 rfl rfl), fun h => by cases h⟩ (mx_fc ⟨by decide, (mx_g1 10 rfl rfl), fun _ => (mx_g3 61 rfl rfl), fun h => by cases h⟩ (mx_fc ⟨by decide, (mx_g1 11 rfl rfl), fun _ => (mx_g3 119 rfl rfl), fun h => by cases h⟩ (mx_fc ⟨by decide, (mx_g1 1 rfl rfl), fun _ => (mx_g2 137 rfl rfl), fun h => by cases h⟩ (mx_fc ⟨by decide, (mx_g1 1 rfl rfl), fun _ => (mx_g2 133 rfl rfl), fun h => by cases h⟩ (mx_fc ⟨by decide, (mx_g1 1 rfl rfl), fun _ => (mx_g2 134 rfl rfl), fun h => by cases h⟩ (mx_f0)))))))))))))))))))))))))))))))))))))))))))))))
set_option maxRecDepth 20000 in
theorem mx_cal_o1 : ∀ e ∈ ((mx_calT[1]?).getD []), (fun (e : Nat × Nat × Bool) => e.2.1 < mx_NM ∧ Cond.initialized (mx_my e.2.1).cls ∈ mx_GT ∧ (e.2.2 = false → Cond.methodLink (mx_own 1) e.1 (mx_my e.2.1) ∈ mx_GT) ∧ (e.2.2 = true → ∃ host, (mx_own 1, e.1, mx_my e.2.1, host) ∈ mx_nm)) e := mx_fc ⟨by decide, (mx_g1 3 rfl rfl), fun _ => (mx_g1 30 rfl rfl), fun h => by cases h⟩ (mx_fc ⟨by decide, (mx_g1 2 rfl rfl), fun _ => (mx_g2 109 rfl rfl), fun h => by cases h⟩ (mx_fc ⟨by decide, (mx_g1 1 rfl rfl), (fun h => by cases h), fun _ => ⟨"PluginHall", List.mem_of_getElem? (i := 0) rfl⟩⟩ (mx_fc ⟨by decide, (mx_g1 3 rfl rfl), fun _ => (mx_g2 160 rfl rfl), fun h => by cases h⟩ (mx_f0))))
set_option maxRecDepth 20000 in
theorem mx_cal_o2 : ∀ e ∈ ((mx_calT[2]?).getD []), (fun (e : Nat × Nat × Bool) => e.2.1 < mx_NM ∧ Cond.initialized (mx_my e.2.1).cls ∈ mx_GT ∧ (e.2.2 = false → Cond.methodLink (mx_own 2) e.1 (mx_my e.2.1) ∈ mx_GT) ∧ (e.2.2 = true → ∃ host, (mx_own 2, e.1, mx_my e.2.1, host) ∈ mx_nm)) e := mx_fc ⟨by decide, (mx_g1 3 rfl rfl), fun _ => (mx_g2 164 rfl rfl), fun h => by cases h⟩ (mx_fc ⟨by decide, (mx_g1 3 rfl rfl), fun _ => (mx_g2 177 rfl rfl), fun h => by cases h⟩ (mx_fc ⟨by decide, (mx_g1 3 rfl rfl), fun _ => (mx_g2 178 rfl rfl), fun h => by cases h⟩ (mx_fc ⟨by decide, (mx_g1 3 rfl rfl), fun _ => (mx_g2 179 rfl rfl), fun h => by cases h⟩ (mx_f0))))
set_option maxRecDepth 20000 in
theorem mx_cal_o3 : ∀ e ∈ ((mx_calT[3]?).getD []), (fun (e : Nat × Nat × Bool) => e.2.1 < mx_NM ∧ Cond.initialized (mx_my e.2.1).cls ∈ mx_GT ∧ (e.2.2 = false → Cond.methodLink (mx_own 3) e.1 (mx_my e.2.1) ∈ mx_GT) ∧ (e.2.2 = true → ∃ host, (mx_own 3, e.1, mx_my e.2.1, host) ∈ mx_nm)) e := mx_fc ⟨by decide, (mx_g1 5 rfl rfl), fun _ => (mx_g3 26 rfl rfl), fun h => by cases h⟩ (mx_fc ⟨by decide, (mx_g1 5 rfl rfl), fun _ => (mx_g3 13 rfl rfl), fun h => by cases h⟩ (mx_f0))
set_option maxRecDepth 20000 in
theorem mx_cal_o4 : ∀ e ∈ ((mx_calT[4]?).getD []), (fun (e : Nat × Nat × Bool) => e.2.1 < mx_NM ∧ Cond.initialized (mx_my e.2.1).cls ∈ mx_GT ∧ (e.2.2 = false → Cond.methodLink (mx_own 4) e.1 (mx_my e.2.1) ∈ mx_GT) ∧ (e.2.2 = true → ∃ host, (mx_own 4, e.1, mx_my e.2.1, host) ∈ mx_nm)) e := mx_fc ⟨by decide, (mx_g1 5 rfl rfl), fun _ => (mx_g1 156 rfl rfl), fun h => by cases h⟩ (mx_fc ⟨by decide, (mx_g1 7 rfl rfl), fun _ => (mx_g2 220 rfl rfl), fun h => by cases h⟩ (mx_fc ⟨by decide, (mx_g1 5 rfl rfl), fun _ => (mx_g2 221 rfl rfl), fun h => by cases h⟩ (mx_f0)))
set_option maxRecDepth 20000 in
theorem mx_cal_o5 : ∀ e ∈ ((mx_calT[5]?).getD []), (fun (e : Nat × Nat × Bool) => e.2.1 < mx_NM ∧ Cond.initialized (mx_my e.2.1).cls ∈ mx_GT ∧ (e.2.2 = false → Cond.methodLink (mx_own 5) e.1 (mx_my e.2.1) ∈ mx_GT) ∧ (e.2.2 = true → ∃ host, (mx_own 5, e.1, mx_my e.2.1, host) ∈ mx_nm)) e := mx_fc ⟨by decide, (mx_g1 7 rfl rfl), fun _ => (mx_g2 184 rfl rfl), fun h => by cases h⟩ (mx_fc ⟨by decide, (mx_g1 8 rfl rfl), fun _ => (mx_g2 188 rfl rfl), fun h => by cases h⟩ (mx_fc ⟨by decide, (mx_g1 8 rfl rfl), fun _ => (mx_g2 192 rfl rfl), fun h => by cases h⟩ (mx_fc ⟨by decide, (mx_g1 8 rfl rfl), fun _ => (mx_g2 207 rfl rfl), fun h => by cases h⟩ (mx_fc ⟨by decide, (mx_g1 8 rfl rfl), fun _ => (mx_g2 225 rfl rfl), fun h => by cases h⟩ (mx_fc ⟨by decide, (mx_g1 8 rfl rfl), fun _ => (mx_g2 237 rfl rfl), fun h => by cases h⟩ (mx_fc ⟨by decide, (mx_g1 8 rfl rfl), fun _ => (mx_g3 5 rfl rfl), fun h => by cases h⟩ (mx_fc ⟨by decide, (mx_g1 8 rfl rfl), fun _ => (mx_g2 211 rfl rfl), fun h => by cases h⟩ (mx_fc ⟨by decide, (mx_g1 8 rfl rfl), fun _ => (mx_g3 18 rfl rfl), fun h => by cases h⟩ (mx_fc ⟨by decide, (mx_g1 8 rfl rfl), fun _ => (mx_g2 229 rfl rfl), fun h => by cases h⟩ (mx_fc ⟨by decide, (mx_g1 8 rfl rfl), fun _ => (mx_g3 28 rfl rfl), fun h => by cases h⟩ (mx_fc ⟨by decide, (mx_g1 8 rfl rfl), fun _ => (mx_g3 36 rfl rfl), fun h => by cases h⟩ (mx_fc ⟨by decide, (mx_g1 8 rfl rfl), fun _ => (mx_g3 40 rfl rfl), fun h => by cases h⟩ (mx_fc ⟨by decide, (mx_g1 8 rfl rfl), fun _ => (mx_g2 200 rfl rfl), fun h => by cases h⟩ (mx_fc ⟨by decide, (mx_g1 7 rfl rfl), fun _ => (mx_g3 32 rfl rfl), fun h => by cases h⟩ (mx_fc ⟨by decide, (mx_g1 7 rfl rfl), fun _ => (mx_g2 196 rfl rfl), fun h => by cases h⟩ (mx_fc ⟨by decide, (mx_g1 8 rfl rfl), fun _ => (mx_g2 204 rfl rfl), fun h => by cases h⟩ (mx_fc ⟨by decide, (mx_g1 1 rfl rfl), (fun h => by cases h), fun _ => ⟨"PluginHall", List.mem_of_getElem? (i := 1) rfl⟩⟩ (mx_fc ⟨by decide, (mx_g1 7 rfl rfl), fun _ => (mx_g2 216 rfl rfl), fun h => by cases h⟩ (mx_fc ⟨by decide, (mx_g1 8 rfl rfl), fun _ => (mx_g2 233 rfl rfl), fun h => by cases h⟩ (mx_fc ⟨by decide, (mx_g1 5 rfl rfl), fun _ => (mx_g3 1 rfl rfl), fun h => by cases h⟩ (mx_fc ⟨by decide, (mx_g1 5 rfl rfl), fun _ => (mx_g3 9 rfl rfl), fun h => by cases h⟩ (mx_fc ⟨by decide, (mx_g1 5 rfl rfl), fun _ => (mx_g3 22 rfl rfl), fun h => by cases h⟩ (mx_fc ⟨by decide, (mx_g1 1 rfl rfl), (fun h => by cases h), fun _ => ⟨"PluginHall", List.mem_of_getElem? (i := 2) rfl⟩⟩ (mx_fc ⟨by decide, (mx_g1 1 rfl rfl), (fun h => by cases h), fun _ => ⟨"PluginHall", List.mem_of_getElem? (i := 3) rfl⟩⟩ (mx_f0)))))))))))))))))))))))))
set_option maxRecDepth 20000 in
theorem mx_cal_o6 : ∀ e ∈ ((mx_calT[6]?).getD []), (fun (e : Nat × Nat × Bool) => e.2.1 < mx_NM ∧ Cond.initialized (mx_my e.2.1).cls ∈ mx_GT ∧ (e.2.2 = false → Cond.methodLink (mx_own 6) e.1 (mx_my e.2.1) ∈ mx_GT) ∧ (e.2.2 = true → ∃ host, (mx_own 6, e.1, mx_my e.2.1, host) ∈ mx_nm)) e := mx_fc ⟨by decide, (mx_g1 3 rfl rfl), fun _ => (mx_g1 147 rfl rfl), fun h => by cases h⟩ (mx_fc ⟨by decide, (mx_g1 7 rfl rfl), fun _ => (mx_g1 150 rfl rfl), fun h => by cases h⟩ (mx_fc ⟨by decide, (mx_g1 8 rfl rfl), fun _ => (mx_g1 172 rfl rfl), fun h => by cases h⟩ (mx_fc ⟨by decide, (mx_g1 3 rfl rfl), fun _ => (mx_g2 173 rfl rfl), fun h => by cases h⟩ (mx_fc ⟨by decide, (mx_g1 8 rfl rfl), fun _ => (mx_g2 180 rfl rfl), fun h => by cases h⟩ (mx_fc ⟨by decide, (mx_g1 7 rfl rfl), fun _ => (mx_g3 45 rfl rfl), fun h => by cases h⟩ (mx_fc ⟨by decide, (mx_g1 6 rfl rfl), fun _ => (mx_g3 46 rfl rfl), fun h => by cases h⟩ (mx_f0)))))))
set_option maxRecDepth 20000 in
theorem mx_cal_o7 : ∀ e ∈ ((mx_calT[7]?).getD []), (fun (e : Nat × Nat × Bool) => e.2.1 < mx_NM ∧ Cond.initialized (mx_my e.2.1).cls ∈ mx_GT ∧ (e.2.2 = false → Cond.methodLink (mx_own 7) e.1 (mx_my e.2.1) ∈ mx_GT) ∧ (e.2.2 = true → ∃ host, (mx_own 7, e.1, mx_my e.2.1, host) ∈ mx_nm)) e := mx_fc ⟨by decide, (mx_g1 5 rfl rfl), fun _ => (mx_g1 95 rfl rfl), fun h => by cases h⟩ (mx_fc ⟨by decide, (mx_g1 6 rfl rfl), fun _ => (mx_g1 142 rfl rfl), fun h => by cases h⟩ (mx_fc ⟨by decide, (mx_g1 9 rfl rfl), fun _ => (mx_g2 5 rfl rfl), fun h => by cases h⟩ (mx_fc ⟨by decide, (mx_g1 4 rfl rfl), fun _ => (mx_g3 73 rfl rfl), fun h => by cases h⟩ (mx_fc ⟨by decide, (mx_g1 7 rfl rfl), fun _ => (mx_g3 77 rfl rfl), fun h => by cases h⟩ (mx_fc ⟨by decide, (mx_g1 4 rfl rfl), fun _ => (mx_g3 179 rfl rfl), fun h => by cases h⟩ (mx_fc ⟨by decide, (mx_g1 6 rfl rfl), fun _ => (mx_g4 65 rfl rfl), fun h => by cases h⟩ (mx_fc ⟨by decide, (mx_g1 4 rfl rfl), fun _ => (mx_g3 53 rfl rfl), fun h => by cases h⟩ (mx_fc ⟨by decide, (mx_g1 4 rfl rfl), fun _ => (mx_g3 220 rfl rfl), fun h => by cases h⟩ (mx_fc ⟨by decide, (mx_g1 3 rfl rfl), fun _ => (mx_g3 224 rfl rfl), fun h => by cases h⟩ (mx_fc ⟨by decide, (mx_g1 4 rfl rfl), fun _ => (mx_g3 236 rfl rfl), fun h => by cases h⟩ (mx_fc ⟨by decide, (mx_g1 4 rfl rfl), fun _ => (mx_g3 232 rfl rfl), fun h => by cases h⟩ (mx_fc ⟨by decide, (mx_g1 4 rfl rfl), fun _ => (mx_g3 239 rfl rfl), fun h => by cases h⟩ (mx_fc ⟨by decide, (mx_g1 4 rfl rfl), fun _ => (mx_g4 3 rfl rfl), fun h => by cases h⟩ (mx_fc ⟨by decide, (mx_g1 4 rfl rfl), fun _ => (mx_g4 7 rfl rfl), fun h => by cases h⟩ (mx_fc ⟨by decide, (mx_g1 4 rfl rfl), fun _ => (mx_g4 8 rfl rfl), fun h => by cases h⟩ (mx_fc ⟨by decide, (mx_g1 9 rfl rfl), fun _ => (mx_g3 135 rfl rfl), fun h => by cases h⟩ (mx_fc ⟨by decide, (mx_g1 4 rfl rfl), fun _ => (mx_g3 144 rfl rfl), fun h => by cases h⟩ (mx_fc ⟨by decide, (mx_g1 4 rfl rfl), fun _ => (mx_g4 38 rfl rfl), fun h => by cases h⟩ (mx_fc ⟨by decide, (mx_g1 4 rfl rfl), fun _ => (mx_g4 42 rfl rfl), fun h => by cases h⟩ (mx_fc ⟨by decide, (mx_g1 13 rfl rfl), fun _ => (mx_g4 50 rfl rfl), fun h => by cases h⟩ (mx_fc ⟨by decide, (mx_g1 3 rfl rfl), fun _ => (mx_g4 46 rfl rfl), fun h => by cases h⟩ (mx_f0))))))))))))))))))))))
set_option maxRecDepth 20000 in
theorem mx_cal_o8 : ∀ e ∈ ((mx_calT[8]?).getD []), (fun (e : Nat × Nat × Bool) => e.2.1 < mx_NM ∧ Cond.initialized (mx_my e.2.1).cls ∈ mx_GT ∧ (e.2.2 = false → Cond.methodLink (mx_own 8) e.1 (mx_my e.2.1) ∈ mx_GT) ∧ (e.2.2 = true → ∃ host, (mx_own 8, e.1, mx_my e.2.1, host) ∈ mx_nm)) e := mx_fc ⟨by decide, (mx_g1 4 rfl rfl), fun _ => (mx_g3 69 rfl rfl), fun h => by cases h⟩ (mx_fc ⟨by decide, (mx_g1 5 rfl rfl), fun _ => (mx_g3 79 rfl rfl), fun h => by cases h⟩ (mx_fc ⟨by decide, (mx_g1 4 rfl rfl), fun _ => (mx_g3 193 rfl rfl), fun h => by cases h⟩ (mx_fc ⟨by decide, (mx_g1 1 rfl rfl), (fun h => by cases h), fun _ => ⟨"PluginHall", List.mem_of_getElem? (i := 4) rfl⟩⟩ (mx_fc ⟨by decide, (mx_g1 10 rfl rfl), fun _ => (mx_g3 65 rfl rfl), fun h => by cases h⟩ (mx_fc ⟨by decide, (mx_g1 10 rfl rfl), fun _ => (mx_g3 81 rfl rfl), fun h => by cases h⟩ (mx_fc ⟨by decide, (mx_g1 10 rfl rfl), fun _ => (mx_g3 90 rfl rfl), fun h => by cases h⟩ (mx_fc ⟨by decide, (mx_g1 10 rfl rfl), fun _ => (mx_g3 111 rfl rfl), fun h => by cases h⟩ (mx_fc ⟨by decide, (mx_g1 10 rfl rfl), fun _ => (mx_g3 85 rfl rfl), fun h => by cases h⟩ (mx_fc ⟨by decide, (mx_g1 10 rfl rfl), fun _ => (mx_g3 94 rfl rfl), fun h => by cases h⟩ (mx_fc ⟨by decide, (mx_g1 4 rfl rfl), fun _ => (mx_g3 98 rfl rfl), fun h => by cases h⟩ (mx_fc ⟨by decide, (mx_g1 7 rfl rfl), fun _ => (mx_g3 99 rfl rfl), fun h => by cases h⟩ (mx_fc ⟨by decide, (mx_g1 10 rfl rfl), fun _ => (mx_g3 105 rfl rfl), fun h => by cases h⟩ (mx_fc ⟨by decide, (mx_g1 10 rfl rfl), fun _ => (mx_g3 100 rfl rfl), fun h => by cases h⟩ (mx_fc ⟨by decide, (mx_g1 5 rfl rfl), fun _ => (mx_g3 110 rfl rfl), fun h => by cases h⟩ (mx_fc ⟨by decide, (mx_g1 9 rfl rfl), fun _ => (mx_g3 115 rfl rfl), fun h => by cases h⟩ (mx_f0))))))))))))))))
set_option maxRecDepth 20000 in
theorem mx_cal_o9 : ∀ e ∈ ((mx_calT[9]?).getD []), (fun (e : Nat × Nat × Bool) => e.2.1 < mx_NM ∧ Cond.initialized (mx_my e.2.1).cls ∈ mx_GT ∧ (e.2.2 = false → Cond.methodLink (mx_own 9) e.1 (mx_my e.2.1) ∈ mx_GT) ∧ (e.2.2 = true → ∃ host, (mx_own 9, e.1, mx_my e.2.1, host) ∈ mx_nm)) e := mx_fc ⟨by decide, (mx_g1 1 rfl rfl), (fun h => by cases h), fun _ => ⟨"PluginHall", List.mem_of_getElem? (i := 6) rfl⟩⟩ (mx_f0)
set_option maxRecDepth 20000 in
theorem mx_cal_o10 : ∀ e ∈ ((mx_calT[10]?).getD []), (fun (e : Nat × Nat × Bool) => e.2.1 < mx_NM ∧ Cond.initialized (mx_my e.2.1).cls ∈ mx_GT ∧ (e.2.2 = false → Cond.methodLink (mx_own 10) e.1 (mx_my e.2.1) ∈ mx_GT) ∧ (e.2.2 = true → ∃ host, (mx_own 10, e.1, mx_my e.2.1, host) ∈ mx_nm)) e := mx_fc ⟨by decide, (mx_g1 13 rfl rfl), fun _ => (mx_g4 27 rfl rfl), fun h => by cases h⟩ (mx_f0)
set_option maxRecDepth 20000 in
theorem mx_cal_o11 : ∀ e ∈ ((mx_calT[11]?).getD []), (fun (e : Nat × Nat × Bool) => e.2.1 < mx_NM ∧ Cond.initialized (mx_my e.2.1).cls ∈ mx_GT ∧ (e.2.2 = false → Cond.methodLink (mx_own 11) e.1 (mx_my e.2.1) ∈ mx_GT) ∧ (e.2.2 = true → ∃ host, (mx_own 11, e.1, mx_my e.2.1, host) ∈ mx_nm)) e := mx_fc ⟨by decide, (mx_g1 12 rfl rfl), fun _ => (mx_g4 219 rfl rfl), fun h => by cases h⟩ (mx_fc ⟨by decide, (mx_g1 12 rfl rfl), fun _ => (mx_g4 211 rfl rfl), fun h => by cases h⟩ (mx_fc ⟨by decide, (mx_g1 12 rfl rfl), fun _ => (mx_g4 229 rfl rfl), fun h => by cases h⟩ (mx_fc ⟨by decide, (mx_g1 12 rfl rfl), fun _ => (mx_g4 226 rfl rfl), fun h => by cases h⟩ (mx_fc ⟨by decide, (mx_g1 12 rfl rfl), fun _ => (mx_g5 8 rfl rfl), fun h => by cases h⟩ (mx_fc ⟨by decide, (mx_g1 12 rfl rfl), fun _ => (mx_g5 12 rfl rfl), fun h => by cases h⟩ (mx_fc ⟨by decide, (mx_g1 12 rfl rfl), fun _ => (mx_g5 16 rfl rfl), fun h => by cases h⟩ (mx_fc ⟨by decide, (mx_g1 12 rfl rfl), fun _ => (mx_g5 20 rfl rfl), fun h => by cases h⟩ (mx_fc ⟨by decide, (mx_g1 12 rfl rfl), fun _ => (mx_g5 24 rfl rfl), fun h => by cases h⟩ (mx_fc ⟨by decide, (mx_g1 12 rfl rfl), fun _ => (mx_g5 28 rfl rfl), fun h => by cases h⟩ (mx_fc ⟨by decide, (mx_g1 12 rfl rfl), fun _ => (mx_g5 45 rfl rfl), fun h => by cases h⟩ (mx_fc ⟨by decide, (mx_g1 12 rfl rfl), fun _ => (mx_g5 41 rfl rfl), fun h => by cases h⟩ (mx_fc ⟨by decide, (mx_g1 12 rfl rfl), fun _ => (mx_g5 58 rfl rfl), fun h => by cases h⟩ (mx_fc ⟨by decide, (mx_g1 12 rfl rfl), fun _ => (mx_g5 54 rfl rfl), fun h => by cases h⟩ (mx_fc ⟨by decide, (mx_g1 12 rfl rfl), fun _ => (mx_g5 63 rfl rfl), fun h => by cases h⟩ (mx_fc ⟨by decide, (mx_g1 12 rfl rfl), fun _ => (mx_g5 73 rfl rfl), fun h => by cases h⟩ (mx_fc ⟨by decide, (mx_g1 12 rfl rfl), fun _ => (mx_g5 68 rfl rfl), fun h => by cases h⟩ (mx_fc ⟨by decide, (mx_g1 12 rfl rfl), fun _ => (mx_g5 79 rfl rfl), fun h => by cases h⟩ (mx_fc ⟨by decide, (mx_g1 12 rfl rfl), fun _ => (mx_g5 37 rfl rfl), fun h => by cases h⟩ (mx_fc ⟨by decide, (mx_g1 12 rfl rfl), fun _ => (mx_g5 49 rfl rfl), fun h => by cases h⟩ (mx_fc ⟨by decide, (mx_g1 12 rfl rfl), fun _ => (mx_g5 84 rfl rfl), fun h => by cases h⟩ (mx_fc ⟨by decide, (mx_g1 12 rfl rfl), fun _ => (mx_g5 4 rfl rfl), fun h => by cases h⟩ (mx_fc ⟨by decide, (mx_g1 12 rfl rfl), fun _ => (mx_g5 32 rfl rfl), fun h => by cases h⟩ (mx_fc ⟨by decide, (mx_g1 12 rfl rfl), fun _ => (mx_g5 33 rfl rfl), fun h => by cases h⟩ (mx_fc ⟨by decide, (mx_g1 12 rfl rfl), fun _ => (mx_g5 92 rfl rfl), fun h => by cases h⟩ (mx_fc ⟨by decide, (mx_g1 12 rfl rfl), fun _ => (mx_g5 100 rfl rfl), fun h => by cases h⟩ (mx_fc ⟨by decide, (mx_g1 12 rfl rfl), fun _ => (mx_g5 112 rfl rfl), fun h => by cases h⟩ (mx_fc ⟨by decide, (mx_g1 12 rfl rfl), fun _ => (mx_g5 108 rfl rfl), fun h => by cases h⟩ (mx_fc ⟨by decide, (mx_g1 12 rfl rfl), fun _ => (mx_g5 116 rfl rfl), fun h => by cases h⟩ (mx_fc ⟨by decide, (mx_g1 12 rfl rfl), fun _ => (mx_g5 136 rfl rfl), fun h => by cases h⟩ (mx_f0))))))))))))))))))))))))))))))
set_option maxRecDepth 20000 in
theorem mx_cal_o12 : ∀ e ∈ ((mx_calT[12]?).getD []), (fun (e : Nat × Nat × Bool) => e.2.1 < mx_NM ∧ Cond.initialized (mx_my e.2.1).cls ∈ mx_GT ∧ (e.2.2 = false → Cond.methodLink (mx_own 12) e.1 (mx_my e.2.1) ∈ mx_GT) ∧ (e.2.2 = true → ∃ host, (mx_own 12, e.1, mx_my e.2.1, host) ∈ mx_nm)) e := mx_fc ⟨by decide, (mx_g1 1 rfl rfl), fun _ => (mx_g1 16 rfl rfl), fun h => by cases h⟩ (mx_fc ⟨by decide, (mx_g1 12 rfl rfl), fun _ => (mx_g4 76 rfl rfl), fun h => by cases h⟩ (mx_fc ⟨by decide, (mx_g1 1 rfl rfl), fun _ => (mx_g2 101 rfl rfl), fun h => by cases h⟩ (mx_fc ⟨by decide, (mx_g1 12 rfl rfl), fun _ => (mx_g4 207 rfl rfl), fun h => by cases h⟩ (mx_fc ⟨by decide, (mx_g1 1 rfl rfl), fun _ => (mx_g2 115 rfl rfl), fun h => by cases h⟩ (mx_fc ⟨by decide, (mx_g1 12 rfl rfl), fun _ => (mx_g4 215 rfl rfl), fun h => by cases h⟩ (mx_fc ⟨by decide, (mx_g1 1 rfl rfl), fun _ => (mx_g2 126 rfl rfl), fun h => by cases h⟩ (mx_fc ⟨by decide, (mx_g1 12 rfl rfl), fun _ => (mx_g4 222 rfl rfl), fun h => by cases h⟩ (mx_fc ⟨by decide, (mx_g1 1 rfl rfl), fun _ => (mx_g2 144 rfl rfl), fun h => by cases h⟩ (mx_fc ⟨by decide, (mx_g1 12 rfl rfl), fun _ => (mx_g4 232 rfl rfl), fun h => by cases h⟩ (mx_fc ⟨by decide, (mx_g1 1 rfl rfl), fun _ => (mx_g2 152 rfl rfl), fun h => by cases h⟩ (mx_fc ⟨by decide, (mx_g1 12 rfl rfl), fun _ => (mx_g4 236 rfl rfl), fun h => by cases h⟩ (mx_fc ⟨by decide, (mx_g1 1 rfl rfl), fun _ => (mx_g2 165 rfl rfl), fun h => by cases h⟩ (mx_fc ⟨by decide, (mx_g1 12 rfl rfl), fun _ => (mx_g5 0 rfl rfl), fun h => by cases h⟩ (mx_fc ⟨by decide, (mx_g1 1 rfl rfl), fun _ => (mx_g3 127 rfl rfl), fun h => by cases h⟩ (mx_fc ⟨by decide, (mx_g1 12 rfl rfl), fun _ => (mx_g5 88 rfl rfl), fun h => by cases h⟩ (mx_fc ⟨by decide, (mx_g1 1 rfl rfl), fun _ => (mx_g3 145 rfl rfl), fun h => by cases h⟩ (mx_fc ⟨by decide, (mx_g1 12 rfl rfl), fun _ => (mx_g5 120 rfl rfl), fun h => by cases h⟩ (mx_fc ⟨by decide, (mx_g1 1 rfl rfl), fun _ => (mx_g3 154 rfl rfl), fun h => by cases h⟩ (mx_fc ⟨by decide, (mx_g1 12 rfl rfl), fun _ => (mx_g5 124 rfl rfl), fun h => by cases h⟩ (mx_fc ⟨by decide, (mx_g1 1 rfl rfl), fun _ => (mx_g3 163 rfl rfl), fun h => by cases h⟩ (mx_fc ⟨by decide, (mx_g1 12 rfl rfl), fun _ => (mx_g5 128 rfl rfl), fun h => by cases h⟩ (mx_fc ⟨by decide, (mx_g1 1 rfl rfl), fun _ => (mx_g3 171 rfl rfl), fun h => by cases h⟩ (mx_fc ⟨by decide, (mx_g1 12 rfl rfl), fun _ => (mx_g5 132 rfl rfl), fun h => by cases h⟩ (mx_fc ⟨by decide, (mx_g1 1 rfl rfl), fun _ => (mx_g3 195 rfl rfl), fun h => by cases h⟩ (mx_fc ⟨by decide, (mx_g1 12 rfl rfl), fun _ => (mx_g5 140 rfl rfl), fun h => by cases h⟩ (mx_fc ⟨by decide, (mx_g1 1 rfl rfl), fun _ => (mx_g3 199 rfl rfl), fun h => by cases h⟩ (mx_fc ⟨by decide, (mx_g1 12 rfl rfl), fun _ => (mx_g5 144 rfl rfl), fun h => by cases h⟩ (mx_fc ⟨by decide, (mx_g1 1 rfl rfl), fun _ => (mx_g3 207 rfl rfl), fun h => by cases h⟩ (mx_fc ⟨by decide, (mx_g1 12 rfl rfl), fun _ => (mx_g5 148 rfl rfl), fun h => by cases h⟩ (mx_fc ⟨by decide, (mx_g1 1 rfl rfl), fun _ => (mx_g3 212 rfl rfl), fun h => by cases h⟩ (mx_fc ⟨by decide, (mx_g1 12 rfl rfl), fun _ => (mx_g5 104 rfl rfl), fun h => by cases h⟩ (mx_fc ⟨by decide, (mx_g1 1 rfl rfl), fun _ => (mx_g4 15 rfl rfl), fun h => by cases h⟩ (mx_fc ⟨by decide, (mx_g1 12 rfl rfl), fun _ => (mx_g5 152 rfl rfl), fun h => by cases h⟩ (mx_fc ⟨by decide, (mx_g1 1 rfl rfl), fun _ => (mx_g4 19 rfl rfl), fun h => by cases h⟩ (mx_fc ⟨by decide, (mx_g1 12 rfl rfl), fun _ => (mx_g5 156 rfl rfl), fun h => by cases h⟩ (mx_fc ⟨by decide, (mx_g1 1 rfl rfl), fun _ => (mx_g4 30 rfl rfl), fun h => by cases h⟩ (mx_fc ⟨by decide, (mx_g1 12 rfl rfl), fun _ => (mx_g5 96 rfl rfl), fun h => by cases h⟩ (mx_fc ⟨by decide, (mx_g1 1 rfl rfl), fun _ => (mx_g4 53 rfl rfl), fun h => by cases h⟩ (mx_fc ⟨by decide, (mx_g1 12 rfl rfl), fun _ => (mx_g5 160 rfl rfl), fun h => by cases h⟩ (mx_fc ⟨by decide, (mx_g1 1 rfl rfl), fun _ => (mx_g4 57 rfl rfl), fun h => by cases h⟩ (mx_fc ⟨by decide, (mx_g1 12 rfl rfl), fun _ => (mx_g5 164 rfl rfl), fun h => by cases h⟩ (mx_f0))))))))))))))))))))))))))))))))))))))))))
set_option maxRecDepth 20000 in
theorem mx_cal_o13 : ∀ e ∈ ((mx_calT[13]?).getD []), (fun (e : Nat × Nat × Bool) => e.2.1 < mx_NM ∧ Cond.initialized (mx_my e.2.1).cls ∈ mx_GT ∧ (e.2.2 = false → Cond.methodLink (mx_own 13) e.1 (mx_my e.2.1) ∈ mx_GT) ∧ (e.2.2 = true → ∃ host, (mx_own 13, e.1, mx_my e.2.1, host) ∈ mx_nm)) e := mx_f0
theorem mx_cal_ok {own idx y : Nat} {nst : Bool} (h : mx_cal own idx = some (y, nst)) : y < mx_NM ∧ Cond.initialized (mx_my y).cls ∈ mx_GT ∧ (nst = false → Cond.methodLink (mx_own own) idx (mx_my y) ∈ mx_GT) ∧ (nst = true → ∃ host, (mx_own own, idx, mx_my y, host) ∈ mx_nm) := by
  have hm := mx_lk h
  match own, hm with
  | 0, hm => exact mx_cal_o0 _ hm
  | 1, hm => exact mx_cal_o1 _ hm
  | 2, hm => exact mx_cal_o2 _ hm
  | 3, hm => exact mx_cal_o3 _ hm
  | 4, hm => exact mx_cal_o4 _ hm
  | 5, hm => exact mx_cal_o5 _ hm
  | 6, hm => exact mx_cal_o6 _ hm
  | 7, hm => exact mx_cal_o7 _ hm
  | 8, hm => exact mx_cal_o8 _ hm
  | 9, hm => exact mx_cal_o9 _ hm
  | 10, hm => exact mx_cal_o10 _ hm
  | 11, hm => exact mx_cal_o11 _ hm
  | 12, hm => exact mx_cal_o12 _ hm
  | 13, hm => exact mx_cal_o13 _ hm
  | n + 14, hm => exact absurd hm (by simp [mx_calT])
def mx_obT : List (Nat × Nat) := [(0, 3), (1, 3), (3, 3), (10, 3), (7, 3), (9, 3), (6, 3), (5, 3), (8, 3), (4, 3), (2, 3), (11, 1)]
def mx_obi (own idx : Nat) : Bool := mx_obT.contains (own, idx)
theorem mx_obo : ∀ e ∈ mx_obT, (fun (e : Nat × Nat) => Cond.methodLink (mx_own e.1) e.2 objectInit ∈ mx_GT) e := mx_fc (mx_g1 19 rfl rfl) (mx_fc (mx_g1 27 rfl rfl) (mx_fc (mx_g1 98 rfl rfl) (mx_fc (mx_g2 8 rfl rfl) (mx_fc (mx_g1 92 rfl rfl) (mx_fc (mx_g2 62 rfl rfl) (mx_fc (mx_g1 145 rfl rfl) (mx_fc (mx_g1 175 rfl rfl) (mx_fc (mx_g2 40 rfl rfl) (mx_fc (mx_g1 153 rfl rfl) (mx_fc (mx_g1 33 rfl rfl) (mx_fc (mx_g4 79 rfl rfl) (mx_f0))))))))))))
theorem mx_obi_ok {own idx : Nat} (h : mx_obi own idx = true) : Cond.methodLink (mx_own own) idx objectInit ∈ mx_GT ∧ Cond.instanceMethod objectInit ∈ mx_GT ∧ Cond.code objectInit ⟨#[0xb1]⟩ 1 none ∈ mx_GT := ⟨mx_obo (own, idx) (List.contains_iff_mem.mp h), (mx_g1 20 rfl rfl), (mx_g1 21 rfl rfl)⟩
end
section
/-! THE CODE: written by wip/whole/gen.py out of the listing -/
def mx_isw : Jvm.ClassFile.Instr → Bool | .tableswitch .. => true | .lookupswitch .. => true | _ => false
def mx_ilen : Jvm.ClassFile.Instr → Nat
  | .bipush _ => 2 | .sipush _ => 3 | .ldc _ => 2 | .ldc2_w _ => 3 | .iload _ => 2 | .lload _ => 2 | .aload _ => 2 | .istore _ => 2 | .lstore _ => 2 | .astore _ => 2 | .iinc _ _ => 3
  | .goto _ => 3 | .ifCond _ _ => 3 | .if_icmp _ _ => 3 | .getfield _ => 3 | .putfield _ => 3 | .new _ => 3 | .newarray _ => 2 | .anewarray _ => 3 | .invokestatic _ => 3 | .invokevirtual _ => 3 | .invokespecial _ => 3
  | _ => 1
def mx_chk (b : ByteArray) (e : Nat × Jvm.ClassFile.Instr) : Bool := match decode b e.1 with
  | .ok (i, len) => decide (i = e.2) && (mx_isw i || Nat.beq len (mx_ilen i))
  | _ => false
theorem mx_chk_ok {b : ByteArray} {pc : Nat} {i : Jvm.ClassFile.Instr} (h : mx_chk b (pc, i) = true) : ∃ len, decode b pc = .ok (i, len) ∧ (mx_isw i = true ∨ len = mx_ilen i) := by
  unfold mx_chk at h
  split at h
  · rename_i i2 len hd
    simp only [Bool.and_eq_true, decide_eq_true_eq, Bool.or_eq_true, Nat.beq_eq] at h
    obtain ⟨rfl, h2⟩ := h
    exact ⟨len, hd, h2⟩
  · cases h
def mx_ct0 : List (List (Nat × Jvm.ClassFile.Instr)) := [[(0, .aload_n 0), (1, .invokespecial 3), (4, .aload_n 0), (5, .new 9), (8, .dup), (9, .invokespecial 11), (12, .putfield 12), (15, .aload_n 0)],
  [(16, .new 16), (19, .dup), (20, .invokespecial 18), (23, .putfield 19), (26, .aload_n 0), (27, .new 23), (30, .dup), (31, .aload_n 0)],
  [(32, .getfield 19), (35, .invokespecial 25), (38, .putfield 28), (41, .aload_n 0), (42, .new 32), (45, .dup), (46, .invokespecial 34)],
  [(49, .putfield 35), (52, .aload_n 0), (53, .new 39), (56, .dup), (57, .bipush 32), (59, .invokespecial 41), (62, .putfield 44)],
  [(65, .return_)]]
def mx_ct1 : List (List (Nat × Jvm.ClassFile.Instr)) := [[(0, .aload_n 0), (1, .getfield 12), (4, .lload_n 1), (5, .invokevirtual 48), (8, .ireturn)]]
def mx_ct2 : List (List (Nat × Jvm.ClassFile.Instr)) := [[(0, .lload_n 0), (1, .bipush 8), (3, .iload_n 2), (4, .imul), (5, .lushr), (6, .l2i), (7, .sipush 255), (10, .iand), (11, .ireturn)]]
def mx_ct3 : List (List (Nat × Jvm.ClassFile.Instr)) := [[(0, .iload_n 1), (1, .invokestatic 52), (4, .ifCond .eq 19), (7, .iload_n 2), (8, .ifCond .lt 15), (11, .iload_n 2), (12, .iload_n 3), (13, .if_icmp .gt 10)],
  [(16, .iload_n 3), (17, .sipush 255), (20, .if_icmp .le 5), (23, .iconst (-1)), (24, .ireturn), (25, .aload_n 0), (26, .getfield 12), (29, .getfield 56)],
  [(32, .iload_n 1), (33, .iload_n 2), (34, .iload_n 3), (35, .invokevirtual 60), (38, .ireturn)]]
def mx_ct4 : List (List (Nat × Jvm.ClassFile.Instr)) := [[(0, .iload_n 0), (1, .ifCond .lt 13), (4, .iload_n 0), (5, .bipush 8), (7, .if_icmp .ge 7), (10, .iconst 1), (11, .goto 4), (14, .iconst 0), (15, .ireturn)]]
def mx_ct5 : List (List (Nat × Jvm.ClassFile.Instr)) := [[(0, .lload_n 1), (1, .invokestatic 66), (4, .ifCond .eq 18), (7, .iload_n 3), (8, .ifCond .lt 14), (11, .iload_n 3), (12, .bipush 6), (14, .if_icmp .gt 8)],
  [(17, .iload_n 3), (18, .iconst 3), (19, .if_icmp .ne 5), (22, .iconst (-1)), (23, .ireturn), (24, .aload_n 0), (25, .getfield 12), (28, .getfield 56), (31, .lload_n 1)],
  [(32, .iload_n 3), (33, .invokevirtual 70), (36, .ireturn)]]
def mx_ct6 : List (List (Nat × Jvm.ClassFile.Instr)) := [[(0, .iconst 0), (1, .istore_n 2), (2, .iload_n 2), (3, .bipush 8), (5, .if_icmp .ge 20), (8, .lload_n 0), (9, .iload_n 2), (10, .invokestatic 271), (13, .invokestatic 274)],
  [(16, .ifCond .eq 9), (19, .iinc 2 1), (22, .goto (-20)), (25, .iload_n 2), (26, .bipush 8), (28, .if_icmp .eq 18), (31, .iload_n 2)],
  [(32, .ifCond .le 18), (35, .lload_n 0), (36, .bipush 8), (38, .iload_n 2), (39, .imul), (40, .lushr), (41, .lconst 0), (42, .lcmp), (43, .ifCond .ne 7), (46, .iconst 1), (47, .goto 4)],
  [(50, .iconst 0), (51, .ireturn)]]
def mx_ct7 : List (List (Nat × Jvm.ClassFile.Instr)) := [[(0, .iload_n 0), (1, .invokestatic 268), (4, .ifCond .ne 21), (7, .iload_n 0), (8, .bipush 48), (10, .if_icmp .lt 9), (13, .iload_n 0), (14, .bipush 57)],
  [(16, .if_icmp .le 9), (19, .iload_n 0), (20, .bipush 46), (22, .if_icmp .ne 7), (25, .iconst 1), (26, .goto 4), (29, .iconst 0), (30, .ireturn)]]
def mx_ct8 : List (List (Nat × Jvm.ClassFile.Instr)) := [[(0, .iload_n 0), (1, .bipush 97), (3, .if_icmp .lt 13), (6, .iload_n 0), (7, .bipush 122), (9, .if_icmp .gt 7), (12, .iconst 1), (13, .goto 4)],
  [(16, .iconst 0), (17, .ireturn)]]
def mx_ct9 : List (List (Nat × Jvm.ClassFile.Instr)) := [[(0, .iload_n 1), (1, .ifCond .lt 21), (4, .iload_n 1), (5, .iconst 2), (6, .if_icmp .gt 16), (9, .lload_n 2), (10, .lconst 0), (11, .lcmp), (12, .ifCond .eq 12), (15, .lload_n 2)],
  [(16, .invokestatic 66), (19, .ifCond .ne 5), (22, .iconst 0), (23, .ireturn), (24, .aload_n 0), (25, .getfield 12), (28, .getfield 56), (31, .iload_n 1)],
  [(32, .lload_n 2), (33, .invokevirtual 74), (36, .iconst 1), (37, .ireturn)]]
def mx_ct10 : List (List (Nat × Jvm.ClassFile.Instr)) := [[(0, .aload_n 0), (1, .getfield 12), (4, .getfield 78), (7, .istore_n 1), (8, .aload_n 0), (9, .getfield 12), (12, .invokevirtual 82), (15, .iload_n 1)],
  [(16, .ireturn)]]
def mx_ct11 : List (List (Nat × Jvm.ClassFile.Instr)) := [[(0, .iload_n 1), (1, .invokestatic 52), (4, .ifCond .eq 14), (7, .iload_n 2), (8, .ifCond .lt 10), (11, .iload_n 2), (12, .sipush 255), (15, .if_icmp .le 5)],
  [(18, .iconst (-1)), (19, .ireturn), (20, .aload_n 0), (21, .getfield 19), (24, .getfield 85), (27, .iload_n 1), (28, .aaload), (29, .astore_n 3), (30, .aload_n 3), (31, .getfield 89)],
  [(34, .ifCond .eq 6), (37, .bipush (-3)), (39, .ireturn), (40, .aload_n 3), (41, .aload_n 0), (42, .getfield 12), (45, .iload_n 2), (46, .invokevirtual 95)],
  [(49, .aload_n 0), (50, .getfield 12), (53, .invokevirtual 82), (56, .aload_n 0), (57, .getfield 19), (60, .invokevirtual 99), (63, .aload_n 0)],
  [(64, .invokevirtual 102), (67, .pop), (68, .aload_n 3), (69, .invokevirtual 106), (72, .ireturn)]]
def mx_ct12 : List (List (Nat × Jvm.ClassFile.Instr)) := [[(0, .aload_n 0), (1, .getfield 28), (4, .aload_n 0), (5, .getfield 44), (8, .invokevirtual 261), (11, .istore_n 1), (12, .aload_n 0), (13, .getfield 35)],
  [(16, .aload_n 0), (17, .getfield 28), (20, .getfield 247), (23, .invokevirtual 264), (26, .iload_n 1), (27, .ireturn)]]
def mx_ct13 : List (List (Nat × Jvm.ClassFile.Instr)) := [[(0, .iload_n 1), (1, .invokestatic 52), (4, .ifCond .eq 18), (7, .aload_n 0), (8, .getfield 19), (11, .getfield 85), (14, .iload_n 1), (15, .aaload)],
  [(16, .getfield 89), (19, .ifCond .ne 5), (22, .iconst (-1)), (23, .ireturn), (24, .aload_n 0), (25, .getfield 19), (28, .iload_n 1), (29, .invokevirtual 109)],
  [(32, .aload_n 0), (33, .getfield 19), (36, .getfield 85), (39, .iload_n 1), (40, .aaload), (41, .invokevirtual 112), (44, .aload_n 0), (45, .getfield 19)],
  [(48, .invokevirtual 99), (51, .aload_n 0), (52, .getfield 19), (55, .invokevirtual 115), (58, .aload_n 0), (59, .invokevirtual 102), (62, .ireturn)]]
def mx_ct14 : List (List (Nat × Jvm.ClassFile.Instr)) := [[(0, .iload_n 1), (1, .invokestatic 52), (4, .ifCond .eq 13), (7, .iload_n 2), (8, .ifCond .lt 9), (11, .iload_n 2), (12, .bipush 7), (14, .if_icmp .le 5)],
  [(17, .iconst (-1)), (18, .ireturn), (19, .aload_n 0), (20, .getfield 19), (23, .getfield 85), (26, .iload_n 1), (27, .aaload), (28, .astore_n 3), (29, .aload_n 3), (30, .getfield 89)],
  [(33, .ifCond .ne 5), (36, .iconst 0), (37, .ireturn), (38, .iload_n 2), (39, .tableswitch 79 0 6 #[41, 46, 51, 56, 61, 66, 71])],
  [],
  [],
  [(80, .aload_n 3), (81, .invokevirtual 118), (84, .ireturn), (85, .aload_n 3), (86, .getfield 121), (89, .ireturn), (90, .aload_n 3), (91, .invokevirtual 106), (94, .ireturn), (95, .aload_n 3)],
  [(96, .getfield 124), (99, .ireturn), (100, .aload_n 3), (101, .getfield 127), (104, .ireturn), (105, .aload_n 3), (106, .getfield 130), (109, .ireturn), (110, .aload_n 3), (111, .getfield 133)],
  [(114, .getfield 137), (117, .ireturn), (118, .aload_n 0), (119, .getfield 19), (122, .iload_n 1), (123, .invokevirtual 142), (126, .ireturn)]]
def mx_ct15 : List (List (Nat × Jvm.ClassFile.Instr)) := [[(0, .aload_n 0), (1, .getfield 28), (4, .lload_n 1), (5, .invokevirtual 146), (8, .iconst (-1)), (9, .if_icmp .ne 7), (12, .iconst (-1)), (13, .goto 11)],
  [(16, .aload_n 0), (17, .getfield 28), (20, .lload_n 1), (21, .invokevirtual 149), (24, .ireturn)]]
def mx_ct16 : List (List (Nat × Jvm.ClassFile.Instr)) := [[(0, .aload_n 0), (1, .getfield 28), (4, .lload_n 1), (5, .invokevirtual 146), (8, .iconst (-1)), (9, .if_icmp .ne 7), (12, .iconst (-1)), (13, .goto 12)],
  [(16, .aload_n 0), (17, .getfield 28), (20, .lload_n 1), (21, .iload_n 3), (22, .invokevirtual 152), (25, .ireturn)]]
def mx_ct17 : List (List (Nat × Jvm.ClassFile.Instr)) := [[(0, .aload_n 0), (1, .getfield 19), (4, .iload_n 1), (5, .invokevirtual 155), (8, .ifCond .ne 5), (11, .iconst (-1)), (12, .ireturn), (13, .aload_n 0), (14, .getfield 19)],
  [(17, .iload_n 1), (18, .invokevirtual 158), (21, .astore_n 3), (22, .iload_n 2), (23, .tableswitch 85 0 4 #[33, 49, 54, 63, 68])],
  [],
  [(56, .aload_n 0), (57, .getfield 19), (60, .iload_n 1), (61, .invokevirtual 162)],
  [(64, .aload_n 3), (65, .getfield 166), (68, .invokevirtual 171), (71, .ireturn), (72, .aload_n 3), (73, .getfield 174), (76, .ireturn), (77, .iload_n 1), (78, .aload_n 3), (79, .getfield 177)],
  [(82, .invokestatic 180), (85, .ireturn), (86, .aload_n 3), (87, .getfield 184), (90, .ireturn), (91, .aload_n 0), (92, .getfield 28), (95, .iload_n 1)],
  [(96, .invokevirtual 187), (99, .ifCond .eq 7), (102, .iconst 1), (103, .goto 4), (106, .iconst 0), (107, .ireturn), (108, .iconst (-1)), (109, .ireturn)]]
def mx_ct18 : List (List (Nat × Jvm.ClassFile.Instr)) := [[(0, .iload_n 1), (1, .iconst (-1)), (2, .if_icmp .ne 7), (5, .iconst (-1)), (6, .goto 12), (9, .iload_n 0), (10, .bipush 16), (12, .idiv), (13, .bipush 16), (15, .imul)],
  [(16, .iload_n 1), (17, .iadd), (18, .ireturn)]]
def mx_ct19 : List (List (Nat × Jvm.ClassFile.Instr)) := [[(0, .aload_n 0), (1, .getfield 19), (4, .iload_n 1), (5, .invokevirtual 158), (8, .getfield 190), (11, .lreturn)]]
def mx_ct20 : List (List (Nat × Jvm.ClassFile.Instr)) := [[(0, .aload_n 0), (1, .getfield 19), (4, .iload_n 1), (5, .invokevirtual 155), (8, .ifCond .ne 5), (11, .iconst (-1)), (12, .ireturn), (13, .aload_n 0), (14, .getfield 19)],
  [(17, .iload_n 1), (18, .invokevirtual 162), (21, .aload_n 0), (22, .getfield 19), (25, .iload_n 1), (26, .invokevirtual 158), (29, .getfield 166)],
  [(32, .iload_n 2), (33, .invokevirtual 194), (36, .istore_n 3), (37, .iload_n 3), (38, .iconst (-1)), (39, .if_icmp .ne 7), (42, .iconst (-1)), (43, .goto 8), (46, .iload_n 1), (47, .iload_n 3)],
  [(48, .invokestatic 180), (51, .ireturn)]]
def mx_ct21 : List (List (Nat × Jvm.ClassFile.Instr)) := [[(0, .aload_n 0), (1, .getfield 19), (4, .iload_n 1), (5, .invokevirtual 158), (8, .lload_n 2), (9, .invokevirtual 197), (12, .lreturn)]]
def mx_ct22 : List (List (Nat × Jvm.ClassFile.Instr)) := [[(0, .aload_n 0), (1, .getfield 28), (4, .iload_n 1), (5, .invokevirtual 187), (8, .ifCond .ne 5), (11, .iconst (-1)), (12, .ireturn), (13, .aload_n 0), (14, .getfield 19)],
  [(17, .iload_n 1), (18, .invokevirtual 158), (21, .astore 4), (23, .aload 4), (25, .lload_n 2), (26, .invokevirtual 197), (29, .lstore 5), (31, .lload 5)],
  [(33, .lconst 0), (34, .lcmp), (35, .ifCond .gt 6), (38, .bipush (-4)), (40, .ireturn), (41, .aload_n 0), (42, .getfield 19), (45, .iload_n 1), (46, .bipush 16)],
  [(48, .idiv), (49, .lload 5), (51, .invokevirtual 201), (54, .istore 7), (56, .iload 7), (58, .iconst (-1)), (59, .if_icmp .ne 6), (62, .bipush (-5))],
  [(64, .ireturn), (65, .aload_n 0), (66, .getfield 19), (69, .iload 7), (71, .iconst 0), (72, .invokevirtual 205), (75, .ifCond .ne 6), (78, .bipush (-6))],
  [(80, .ireturn), (81, .aload_n 0), (82, .getfield 19), (85, .iload 7), (87, .invokevirtual 209), (90, .bipush (-5)), (92, .iand), (93, .lookupswitch 33 #[(1, 27), (2, 30)])],
  [],
  [(120, .bipush (-7)), (122, .ireturn), (123, .bipush (-8)), (125, .ireturn), (126, .aload_n 0), (127, .getfield 35)],
  [(130, .iload_n 1), (131, .iload_n 1), (132, .aload 4), (134, .getfield 212), (137, .invokestatic 180), (140, .iload 7), (142, .invokestatic 215)],
  [(145, .invokevirtual 218), (148, .ireturn)]]
def mx_ct23 : List (List (Nat × Jvm.ClassFile.Instr)) := [[(0, .iload_n 1), (1, .ifCond .lt 14), (4, .iload_n 1), (5, .aload_n 0), (6, .getfield 35), (9, .getfield 221), (12, .if_icmp .lt 5), (15, .iconst (-1))],
  [(16, .ireturn), (17, .iload_n 2), (18, .tableswitch 64 0 2 #[26, 36, 46])],
  [(44, .aload_n 0), (45, .getfield 35)],
  [(48, .getfield 224), (51, .iload_n 1), (52, .iaload), (53, .ireturn), (54, .aload_n 0), (55, .getfield 35), (58, .getfield 228), (61, .iload_n 1), (62, .iaload), (63, .ireturn)],
  [(64, .aload_n 0), (65, .getfield 35), (68, .getfield 231), (71, .iload_n 1), (72, .baload), (73, .ifCond .eq 7), (76, .iconst 0), (77, .goto 4)],
  [(80, .iconst 1), (81, .ireturn), (82, .iconst (-1)), (83, .ireturn)]]
def mx_ct24 : List (List (Nat × Jvm.ClassFile.Instr)) := [[(0, .aload_n 0), (1, .getfield 44), (4, .iload_n 1), (5, .invokevirtual 235), (8, .ireturn)]]
def mx_ct25 : List (List (Nat × Jvm.ClassFile.Instr)) := [[(0, .aload_n 0), (1, .getfield 19), (4, .invokevirtual 238), (7, .ireturn)]]
def mx_ct26 : List (List (Nat × Jvm.ClassFile.Instr)) := [[(0, .aload_n 0), (1, .getfield 19), (4, .getfield 241), (7, .iload_n 1), (8, .invokevirtual 235), (11, .ireturn)]]
def mx_ct27 : List (List (Nat × Jvm.ClassFile.Instr)) := [[(0, .iload_n 1), (1, .tableswitch 147 0 9 #[55, 64, 73, 82, 93, 104, 112, 120, 128, 139])],
  [],
  [],
  [(56, .aload_n 0), (57, .getfield 19), (60, .iconst 1), (61, .invokevirtual 244)],
  [(64, .ireturn), (65, .aload_n 0), (66, .getfield 19), (69, .iconst 2), (70, .invokevirtual 244), (73, .ireturn), (74, .aload_n 0), (75, .getfield 19), (78, .iconst 3), (79, .invokevirtual 244)],
  [(82, .ireturn), (83, .aload_n 0), (84, .getfield 28), (87, .getfield 247), (90, .invokestatic 250), (93, .ireturn), (94, .aload_n 0), (95, .getfield 28)],
  [(98, .getfield 254), (101, .invokestatic 250), (104, .ireturn), (105, .aload_n 0), (106, .getfield 35), (109, .getfield 221)],
  [(112, .ireturn), (113, .aload_n 0), (114, .getfield 35), (117, .invokevirtual 257), (120, .ireturn), (121, .aload_n 0), (122, .getfield 44), (125, .getfield 260)],
  [(128, .ireturn), (129, .aload_n 0), (130, .getfield 19), (133, .getfield 241), (136, .getfield 260), (139, .ireturn), (140, .aload_n 0), (141, .getfield 12)],
  [(144, .getfield 78), (147, .ireturn), (148, .iconst (-1)), (149, .ireturn)]]
def mx_ct28 : List (List (Nat × Jvm.ClassFile.Instr)) := [[(0, .iconst 0), (1, .istore_n 1), (2, .aload_n 0), (3, .astore_n 2), (4, .aload_n 2), (5, .arraylength), (6, .istore_n 3), (7, .iconst 0), (8, .istore 4), (10, .iload 4), (12, .iload_n 3), (13, .if_icmp .ge 23)],
  [(16, .aload_n 2), (17, .iload 4), (19, .baload), (20, .istore 5), (22, .iload 5), (24, .ifCond .eq 6), (27, .iinc 1 1), (30, .iinc 4 1)],
  [(33, .goto (-23)), (36, .iload_n 1), (37, .ireturn)]]
def mx_ct29 : List (List (Nat × Jvm.ClassFile.Instr)) := [[(0, .aload_n 0), (1, .invokespecial 3), (4, .aload_n 0), (5, .sipush 200), (8, .newarray .byte), (10, .putfield 11), (13, .aload_n 0), (14, .new 15)],
  [(17, .dup), (18, .invokespecial 17), (21, .putfield 18), (24, .return_)]]
def mx_ct30 : List (List (Nat × Jvm.ClassFile.Instr)) := [[(0, .lload_n 1), (1, .invokestatic 22), (4, .istore_n 3), (5, .iload_n 3), (6, .ifCond .ne 5), (9, .iconst (-1)), (10, .ireturn), (11, .aload_n 0), (12, .getfield 26), (15, .iload_n 3)],
  [(16, .iadd), (17, .sipush 200), (20, .if_icmp .le 6), (23, .bipush (-2)), (25, .ireturn), (26, .iconst 0), (27, .istore 4), (29, .iload 4), (31, .iload_n 3)],
  [(32, .if_icmp .ge 28), (35, .aload_n 0), (36, .getfield 11), (39, .aload_n 0), (40, .getfield 26), (43, .iload 4), (45, .iadd), (46, .lload_n 1), (47, .iload 4)],
  [(49, .invokestatic 30), (52, .i2b), (53, .bastore), (54, .iinc 4 1), (57, .goto (-28)), (60, .aload_n 0), (61, .dup), (62, .getfield 26)],
  [(65, .iload_n 3), (66, .iadd), (67, .putfield 26), (70, .aload_n 0), (71, .getfield 26), (74, .ireturn)]]
def mx_ct31 : List (List (Nat × Jvm.ClassFile.Instr)) := [[(0, .iconst 0), (1, .istore_n 2), (2, .iload_n 2), (3, .bipush 8), (5, .if_icmp .ge 29), (8, .lload_n 0), (9, .iload_n 2), (10, .invokestatic 30), (13, .ifCond .eq 21)],
  [(16, .lload_n 0), (17, .iload_n 2), (18, .invokestatic 30), (21, .bipush 127), (23, .if_icmp .le 5), (26, .iconst 0), (27, .ireturn), (28, .iinc 2 1), (31, .goto (-29))],
  [(34, .iload_n 2), (35, .ireturn)]]
def mx_ct32 : List (List (Nat × Jvm.ClassFile.Instr)) := [[(0, .aload_n 0), (1, .iconst 0), (2, .putfield 26), (5, .aload_n 0), (6, .getfield 18), (9, .invokevirtual 34), (12, .return_)]]
def mx_ct33 : List (List (Nat × Jvm.ClassFile.Instr)) := [[(0, .aload_n 0), (1, .invokespecial 3), (4, .aload_n 0), (5, .iconst 3), (6, .newarray .int), (8, .putfield 11), (11, .aload_n 0), (12, .iconst 3), (13, .newarray .int), (15, .putfield 15)],
  [(18, .aload_n 0), (19, .iconst 3), (20, .newarray .int), (22, .putfield 18), (25, .aload_n 0), (26, .iconst 4), (27, .newarray .long), (29, .putfield 21)],
  [(32, .aload_n 0), (33, .iconst 4), (34, .newarray .int), (36, .putfield 25), (39, .return_)]]
def mx_ct34 : List (List (Nat × Jvm.ClassFile.Instr)) := [[(0, .aload_n 0), (1, .getfield 28), (4, .iconst 3), (5, .if_icmp .lt 6), (8, .bipush (-2)), (10, .ireturn), (11, .aload_n 0), (12, .getfield 11), (15, .aload_n 0)],
  [(16, .getfield 28), (19, .iload_n 1), (20, .iastore), (21, .aload_n 0), (22, .getfield 15), (25, .aload_n 0), (26, .getfield 28), (29, .iload_n 2), (30, .iastore), (31, .aload_n 0)],
  [(32, .getfield 18), (35, .aload_n 0), (36, .getfield 28), (39, .iload_n 3), (40, .iastore), (41, .aload_n 0), (42, .dup), (43, .getfield 28), (46, .iconst 1), (47, .iadd)],
  [(48, .putfield 28), (51, .aload_n 0), (52, .getfield 28), (55, .ireturn)]]
def mx_ct35 : List (List (Nat × Jvm.ClassFile.Instr)) := [[(0, .aload_n 0), (1, .getfield 32), (4, .iconst 4), (5, .if_icmp .lt 6), (8, .bipush (-2)), (10, .ireturn), (11, .aload_n 0), (12, .getfield 21), (15, .aload_n 0)],
  [(16, .getfield 32), (19, .lload_n 1), (20, .lastore), (21, .aload_n 0), (22, .getfield 25), (25, .aload_n 0), (26, .getfield 32), (29, .iload_n 3), (30, .iastore), (31, .aload_n 0)],
  [(32, .dup), (33, .getfield 32), (36, .iconst 1), (37, .iadd), (38, .putfield 32), (41, .aload_n 0), (42, .getfield 32), (45, .ireturn)]]
def mx_ct36 : List (List (Nat × Jvm.ClassFile.Instr)) := [[(0, .aload_n 0), (1, .iload_n 1), (2, .putfield 39), (5, .aload_n 0), (6, .iload_n 1), (7, .ifCond .ne 7), (10, .lconst 0), (11, .goto 4), (14, .lload_n 2), (15, .putfield 42)],
  [(18, .return_)]]
def mx_ct37 : List (List (Nat × Jvm.ClassFile.Instr)) := [[(0, .aload_n 0), (1, .iconst 0), (2, .putfield 28), (5, .aload_n 0), (6, .iconst 0), (7, .putfield 32), (10, .aload_n 0), (11, .iconst 0), (12, .lconst 0), (13, .invokevirtual 35)],
  [(16, .return_)]]
def mx_ct38 : List (List (Nat × Jvm.ClassFile.Instr)) := [[(0, .aload_n 0), (1, .invokevirtual 46), (4, .iconst 0), (5, .istore_n 2), (6, .iload_n 2), (7, .aload_n 1), (8, .getfield 28), (11, .if_icmp .ge 32), (14, .aload_n 0), (15, .aload_n 1)],
  [(16, .getfield 11), (19, .iload_n 2), (20, .iaload), (21, .aload_n 1), (22, .getfield 15), (25, .iload_n 2), (26, .iaload), (27, .aload_n 1), (28, .getfield 18), (31, .iload_n 2)],
  [(32, .iaload), (33, .invokevirtual 49), (36, .pop), (37, .iinc 2 1), (40, .goto (-34)), (43, .iconst 0), (44, .istore_n 2), (45, .iload_n 2), (46, .aload_n 1), (47, .getfield 32)],
  [(50, .if_icmp .ge 26), (53, .aload_n 0), (54, .aload_n 1), (55, .getfield 21), (58, .iload_n 2), (59, .laload), (60, .aload_n 1), (61, .getfield 25)],
  [(64, .iload_n 2), (65, .iaload), (66, .invokevirtual 53), (69, .pop), (70, .iinc 2 1), (73, .goto (-28)), (76, .aload_n 0), (77, .aload_n 1), (78, .getfield 39)],
  [(81, .aload_n 1), (82, .getfield 42), (85, .invokevirtual 35), (88, .return_)]]
def mx_ct39 : List (List (Nat × Jvm.ClassFile.Instr)) := [[(0, .iconst 0), (1, .istore_n 3), (2, .iload_n 3), (3, .aload_n 0), (4, .getfield 32), (7, .if_icmp .ge 22), (10, .aload_n 0), (11, .getfield 21), (14, .iload_n 3), (15, .laload)],
  [(16, .lload_n 1), (17, .lcmp), (18, .ifCond .ne 5), (21, .iload_n 3), (22, .ireturn), (23, .iinc 3 1), (26, .goto (-24)), (29, .iconst (-1)), (30, .ireturn)]]
def mx_ct40 : List (List (Nat × Jvm.ClassFile.Instr)) := [[(0, .iconst 0), (1, .istore_n 2), (2, .iload_n 2), (3, .aload_n 0), (4, .getfield 28), (7, .if_icmp .ge 21), (10, .aload_n 0), (11, .getfield 11), (14, .iload_n 2), (15, .iaload)],
  [(16, .iload_n 1), (17, .if_icmp .ne 5), (20, .iconst 1), (21, .ireturn), (22, .iinc 2 1), (25, .goto (-23)), (28, .iconst 0), (29, .ireturn)]]
def mx_ct41 : List (List (Nat × Jvm.ClassFile.Instr)) := [[(0, .aload_n 0), (1, .invokespecial 3), (4, .aload_n 0), (5, .iconst 4), (6, .newarray .long), (8, .putfield 11), (11, .aload_n 0), (12, .iconst 4), (13, .newarray .long), (15, .putfield 15)],
  [(18, .aload_n 0), (19, .iconst (-1)), (20, .putfield 18), (23, .aload_n 0), (24, .iconst (-1)), (25, .putfield 22), (28, .aload_n 0), (29, .iconst (-1)), (30, .putfield 25)],
  [(33, .return_)]]
def mx_ct42 : List (List (Nat × Jvm.ClassFile.Instr)) := [[(0, .aload_n 0), (1, .iload_n 2), (2, .putfield 18), (5, .aload_n 0), (6, .aload_n 1), (7, .getfield 18), (10, .putfield 22), (13, .aload_n 0), (14, .aload_n 1), (15, .getfield 28)],
  [(18, .iconst 1), (19, .iadd), (20, .putfield 28), (23, .aload_n 0), (24, .aload_n 0), (25, .getfield 28), (28, .iconst 1), (29, .if_icmp .ne 7)],
  [(32, .iload_n 2), (33, .goto 7), (36, .aload_n 1), (37, .getfield 25), (40, .putfield 25), (43, .aload_n 0), (44, .lconst 0), (45, .putfield 31)],
  [(48, .aload_n 0), (49, .iconst 0), (50, .putfield 35), (53, .return_)]]
def mx_ct43 : List (List (Nat × Jvm.ClassFile.Instr)) := [[(0, .aload_n 0), (1, .getfield 35), (4, .iconst 4), (5, .if_icmp .ge 7), (8, .iconst 1), (9, .goto 4), (12, .iconst 0), (13, .ireturn)]]
def mx_ct44 : List (List (Nat × Jvm.ClassFile.Instr)) := [[(0, .aload_n 0), (1, .lload_n 1), (2, .invokevirtual 42), (5, .lconst 0), (6, .lcmp), (7, .ifCond .lt 7), (10, .iconst 1), (11, .goto 4), (14, .iconst 0), (15, .ireturn)]]
def mx_ct45 : List (List (Nat × Jvm.ClassFile.Instr)) := [[(0, .iconst 0), (1, .istore_n 3), (2, .iload_n 3), (3, .aload_n 0), (4, .getfield 35), (7, .if_icmp .ge 27), (10, .aload_n 0), (11, .getfield 11), (14, .iload_n 3), (15, .laload)],
  [(16, .lload_n 1), (17, .lcmp), (18, .ifCond .ne 10), (21, .aload_n 0), (22, .getfield 15), (25, .iload_n 3), (26, .laload), (27, .lreturn), (28, .iinc 3 1), (31, .goto (-29))],
  [(34, .ldc2_w 46), (37, .lreturn)]]
def mx_ct46 : List (List (Nat × Jvm.ClassFile.Instr)) := [[(0, .aload_n 0), (1, .invokevirtual 38), (4, .ifCond .eq 33), (7, .aload_n 0), (8, .getfield 11), (11, .aload_n 0), (12, .getfield 35), (15, .lload_n 1)],
  [(16, .lastore), (17, .aload_n 0), (18, .getfield 15), (21, .aload_n 0), (22, .getfield 35), (25, .lload_n 3), (26, .lastore), (27, .aload_n 0), (28, .dup), (29, .getfield 35)],
  [(32, .iconst 1), (33, .iadd), (34, .putfield 35), (37, .return_)]]
def mx_ct47 : List (List (Nat × Jvm.ClassFile.Instr)) := [[(0, .aload_n 0), (1, .invokespecial 3), (4, .aload_n 0), (5, .aload_n 1), (6, .putfield 9), (9, .aload_n 0), (10, .bipush 16), (12, .anewarray 15), (15, .putfield 17)],
  [(18, .iconst 0), (19, .istore_n 2), (20, .iload_n 2), (21, .bipush 16), (23, .if_icmp .ge 22), (26, .aload_n 0), (27, .getfield 17), (30, .iload_n 2), (31, .new 15)],
  [(34, .dup), (35, .invokespecial 21), (38, .aastore), (39, .iinc 2 1), (42, .goto (-22)), (45, .return_)]]
def mx_ct48 : List (List (Nat × Jvm.ClassFile.Instr)) := [[(0, .aload_n 0), (1, .iconst 0), (2, .putfield 22), (5, .return_)]]
def mx_ct49 : List (List (Nat × Jvm.ClassFile.Instr)) := [[(0, .aload_n 0), (1, .getfield 22), (4, .bipush 16), (6, .if_icmp .ge 7), (9, .iconst 1), (10, .goto 4), (13, .iconst 0), (14, .ireturn)]]
def mx_ct50 : List (List (Nat × Jvm.ClassFile.Instr)) := [[(0, .aload_n 0), (1, .invokevirtual 26), (4, .ifCond .ne 5), (7, .aload_n 1), (8, .areturn), (9, .aload_n 0), (10, .getfield 17), (13, .aload_n 0), (14, .getfield 22)],
  [(17, .aaload), (18, .astore_n 2), (19, .aload_n 2), (20, .aload_n 1), (21, .aload_n 0), (22, .getfield 22), (25, .invokevirtual 30), (28, .aload_n 0), (29, .dup), (30, .getfield 22)],
  [(33, .iconst 1), (34, .iadd), (35, .putfield 22), (38, .aload_n 2), (39, .areturn)]]
def mx_ct51 : List (List (Nat × Jvm.ClassFile.Instr)) := [[(0, .iload_n 1), (1, .ifCond .lt 20), (4, .iload_n 1), (5, .aload_n 0), (6, .getfield 22), (9, .if_icmp .ge 12), (12, .aload_n 0), (13, .getfield 17)],
  [(16, .iload_n 1), (17, .aaload), (18, .goto 7), (21, .aload_n 0), (22, .getfield 9), (25, .areturn)]]
def mx_ct52 : List (List (Nat × Jvm.ClassFile.Instr)) := [[(0, .iconst 0), (1, .istore_n 2), (2, .iconst 0), (3, .istore_n 3), (4, .iload_n 3), (5, .aload_n 0), (6, .getfield 22), (9, .if_icmp .ge 25), (12, .aload_n 0), (13, .getfield 17)],
  [(16, .iload_n 3), (17, .aaload), (18, .getfield 34), (21, .iload_n 1), (22, .if_icmp .ne 6), (25, .iinc 2 1), (28, .iinc 3 1), (31, .goto (-27))],
  [(34, .iload_n 2), (35, .ireturn)]]
def mx_ct53 : List (List (Nat × Jvm.ClassFile.Instr)) := [[(0, .iconst 0), (1, .istore_n 3), (2, .iconst 0), (3, .istore 4), (5, .iload 4), (7, .aload_n 0), (8, .getfield 22), (11, .if_icmp .ge 34), (14, .aload_n 0), (15, .getfield 17)],
  [(18, .iload 4), (20, .aaload), (21, .getfield 34), (24, .iload_n 1), (25, .if_icmp .ne 14), (28, .iload_n 3), (29, .iload_n 2), (30, .if_icmp .ne 6)],
  [(33, .iload 4), (35, .ireturn), (36, .iinc 3 1), (39, .iinc 4 1), (42, .goto (-37)), (45, .iconst (-1)), (46, .ireturn)]]
def mx_ct54 : List (List (Nat × Jvm.ClassFile.Instr)) := [[(0, .aload_n 0), (1, .invokespecial 3), (4, .aload_n 0), (5, .aload_n 1), (6, .putfield 9), (9, .aload_n 0), (10, .aload_n 1), (11, .getfield 15), (14, .putfield 21)],
  [(17, .return_)]]
def mx_ct55 : List (List (Nat × Jvm.ClassFile.Instr)) := [[(0, .aload_n 0), (1, .getfield 9), (4, .invokevirtual 24), (7, .aload_n 0), (8, .aload_n 0), (9, .getfield 9), (12, .getfield 15), (15, .putfield 21)],
  [(18, .aload_n 0), (19, .iconst 0), (20, .putfield 27), (23, .iconst 0), (24, .istore_n 3), (25, .iload_n 3), (26, .iload_n 2), (27, .if_icmp .ge 27), (30, .iload_n 3), (31, .aload_n 1)],
  [(32, .arraylength), (33, .if_icmp .ge 21), (36, .aload_n 0), (37, .aload_n 1), (38, .iload_n 3), (39, .baload), (40, .invokevirtual 31), (43, .ifCond .ne 5), (46, .iload_n 3), (47, .ireturn)],
  [(48, .iinc 3 1), (51, .goto (-26)), (54, .aload_n 0), (55, .getfield 27), (58, .ifCond .ne 17), (61, .aload_n 0), (62, .getfield 21)],
  [(65, .getfield 35), (68, .ifCond .ne 7), (71, .iconst (-1)), (72, .goto 4), (75, .iload_n 2), (76, .ireturn)]]
def mx_ct56 : List (List (Nat × Jvm.ClassFile.Instr)) := [[(0, .aload_n 0), (1, .getfield 27), (4, .tableswitch 144 0 9 #[56, 62, 68, 74, 80, 86, 107, 113, 119, 138])],
  [],
  [],
  [(60, .aload_n 0), (61, .iload_n 1), (62, .invokevirtual 40)],
  [(65, .ireturn), (66, .aload_n 0), (67, .iload_n 1), (68, .invokevirtual 43), (71, .ireturn), (72, .aload_n 0), (73, .iload_n 1), (74, .invokevirtual 46), (77, .ireturn), (78, .aload_n 0), (79, .iload_n 1)],
  [(80, .invokevirtual 49), (83, .ireturn), (84, .aload_n 0), (85, .iload_n 1), (86, .invokevirtual 52), (89, .ireturn), (90, .iload_n 1), (91, .bipush 34), (93, .if_icmp .ne 16)],
  [(96, .aload_n 0), (97, .bipush 6), (99, .invokevirtual 55), (102, .ifCond .eq 7), (105, .iconst 1), (106, .goto 4), (109, .iconst 0), (110, .ireturn), (111, .aload_n 0)],
  [(112, .iload_n 1), (113, .invokevirtual 58), (116, .ireturn), (117, .aload_n 0), (118, .iload_n 1), (119, .invokevirtual 61), (122, .ireturn), (123, .iload_n 1), (124, .bipush 62), (126, .if_icmp .ne 14)],
  [(129, .aload_n 0), (130, .invokevirtual 64), (133, .ifCond .eq 7), (136, .iconst 1), (137, .goto 4), (140, .iconst 0), (141, .ireturn), (142, .aload_n 0), (143, .iload_n 1)],
  [(144, .invokevirtual 68), (147, .ireturn), (148, .aload_n 0), (149, .iload_n 1), (150, .invokevirtual 71), (153, .ireturn)]]
def mx_ct57 : List (List (Nat × Jvm.ClassFile.Instr)) := [[(0, .iload_n 1), (1, .bipush 60), (3, .if_icmp .ne 37), (6, .aload_n 0), (7, .getfield 21), (10, .getfield 35), (13, .ifCond .gt 13)],
  [(16, .aload_n 0), (17, .getfield 9), (20, .invokevirtual 91), (23, .ifCond .eq 15), (26, .aload_n 0), (27, .iconst 1), (28, .invokevirtual 81), (31, .ifCond .eq 7)],
  [(34, .iconst 1), (35, .goto 4), (38, .iconst 0), (39, .ireturn), (40, .iload_n 1), (41, .invokestatic 94), (44, .ireturn)]]
def mx_ct58 : List (List (Nat × Jvm.ClassFile.Instr)) := [[(0, .aload_n 0), (1, .iload_n 1), (2, .putfield 27), (5, .iconst 1), (6, .ireturn)]]
def mx_ct59 : List (List (Nat × Jvm.ClassFile.Instr)) := [[(0, .iload_n 0), (1, .bipush 32), (3, .if_icmp .eq 9), (6, .iload_n 0), (7, .bipush 10), (9, .if_icmp .ne 7), (12, .iconst 1), (13, .goto 4)],
  [(16, .iconst 0), (17, .ireturn)]]
def mx_ct60 : List (List (Nat × Jvm.ClassFile.Instr)) := [[(0, .iload_n 1), (1, .bipush 47), (3, .if_icmp .ne 28), (6, .aload_n 0), (7, .getfield 21), (10, .getfield 35), (13, .ifCond .le 16)],
  [(16, .aload_n 0), (17, .bipush 9), (19, .invokevirtual 55), (22, .ifCond .eq 7), (25, .iconst 1), (26, .goto 4), (29, .iconst 0), (30, .ireturn), (31, .iload_n 1)],
  [(32, .invokestatic 97), (35, .ifCond .eq 24), (38, .aload_n 0), (39, .getfield 9), (42, .invokevirtual 91), (45, .ifCond .eq 14)],
  [(48, .aload_n 0), (49, .getfield 21), (52, .getfield 35), (55, .iconst 4), (56, .if_icmp .lt 5), (59, .iconst 0), (60, .ireturn), (61, .aload_n 0), (62, .aload_n 0), (63, .getfield 9)],
  [(66, .aload_n 0), (67, .getfield 21), (70, .invokevirtual 100), (73, .putfield 21), (76, .aload_n 0), (77, .iconst 2), (78, .invokevirtual 55)],
  [(81, .pop), (82, .aload_n 0), (83, .iload_n 1), (84, .invokevirtual 46), (87, .ireturn)]]
def mx_ct61 : List (List (Nat × Jvm.ClassFile.Instr)) := [[(0, .aload_n 0), (1, .lconst 0), (2, .putfield 74), (5, .aload_n 0), (6, .iconst 0), (7, .putfield 78), (10, .aload_n 0), (11, .iload_n 1), (12, .invokevirtual 81), (15, .ireturn)]]
def mx_ct62 : List (List (Nat × Jvm.ClassFile.Instr)) := [[(0, .iload_n 1), (1, .invokestatic 97), (4, .ifCond .ne 9), (7, .aload_n 0), (8, .iload_n 1), (9, .invokevirtual 61), (12, .ireturn), (13, .aload_n 0), (14, .iload_n 1), (15, .invokevirtual 104)],
  [(18, .istore_n 2), (19, .aload_n 0), (20, .getfield 21), (23, .aload_n 0), (24, .getfield 74), (27, .putfield 107), (30, .iload_n 2), (31, .ireturn)]]
def mx_ct63 : List (List (Nat × Jvm.ClassFile.Instr)) := [[(0, .iload_n 1), (1, .lookupswitch 40 #[(47, 27), (62, 34)])],
  [(28, .aload_n 0), (29, .bipush 8), (31, .invokevirtual 81)],
  [(34, .ireturn), (35, .aload_n 0), (36, .iconst 0), (37, .invokevirtual 81), (40, .ireturn), (41, .iload_n 1), (42, .invokestatic 94), (45, .ifCond .eq 15)],
  [(48, .aload_n 0), (49, .iconst 3), (50, .invokevirtual 81), (53, .ifCond .eq 7), (56, .iconst 1), (57, .goto 4), (60, .iconst 0), (61, .ireturn)]]
def mx_ct64 : List (List (Nat × Jvm.ClassFile.Instr)) := [[(0, .aload_n 0), (1, .getfield 78), (4, .bipush 8), (6, .if_icmp .lt 5), (9, .iconst 0), (10, .ireturn), (11, .aload_n 0), (12, .dup), (13, .getfield 74)],
  [(16, .iload_n 1), (17, .i2l), (18, .bipush 8), (20, .aload_n 0), (21, .getfield 78), (24, .imul), (25, .lshl), (26, .lor), (27, .putfield 74), (30, .aload_n 0), (31, .dup)],
  [(32, .getfield 78), (35, .iconst 1), (36, .iadd), (37, .putfield 78), (40, .iconst 1), (41, .ireturn)]]
def mx_ct65 : List (List (Nat × Jvm.ClassFile.Instr)) := [[(0, .iload_n 1), (1, .invokestatic 97), (4, .ifCond .ne 9), (7, .aload_n 0), (8, .iload_n 1), (9, .invokevirtual 61), (12, .ireturn), (13, .aload_n 0), (14, .getfield 21)],
  [(17, .invokevirtual 110), (20, .ifCond .eq 23), (23, .aload_n 0), (24, .iconst 4), (25, .invokevirtual 55), (28, .ifCond .eq 15), (31, .aload_n 0)],
  [(32, .iload_n 1), (33, .invokevirtual 104), (36, .ifCond .eq 7), (39, .iconst 1), (40, .goto 4), (43, .iconst 0), (44, .ireturn)]]
def mx_ct66 : List (List (Nat × Jvm.ClassFile.Instr)) := [[(0, .iload_n 1), (1, .invokestatic 97), (4, .ifCond .eq 40), (7, .aload_n 0), (8, .iload_n 1), (9, .invokevirtual 104), (12, .ifCond .eq 30), (15, .aload_n 0)],
  [(16, .getfield 78), (19, .bipush 8), (21, .if_icmp .lt 17), (24, .aload_n 0), (25, .getfield 21), (28, .aload_n 0), (29, .getfield 74)],
  [(32, .invokevirtual 113), (35, .ifCond .ne 7), (38, .iconst 1), (39, .goto 4), (42, .iconst 0), (43, .ireturn), (44, .iload_n 1), (45, .bipush 61), (47, .if_icmp .ne 17)],
  [(50, .aload_n 0), (51, .getfield 21), (54, .aload_n 0), (55, .getfield 74), (58, .invokevirtual 113), (61, .ifCond .eq 5)],
  [(64, .iconst 0), (65, .ireturn), (66, .aload_n 0), (67, .aload_n 0), (68, .getfield 74), (71, .putfield 117), (74, .aload_n 0), (75, .iconst 5), (76, .invokevirtual 81), (79, .ireturn)]]
def mx_ct67 : List (List (Nat × Jvm.ClassFile.Instr)) := [[(0, .iload_n 1), (1, .bipush 34), (3, .if_icmp .ne 25), (6, .aload_n 0), (7, .getfield 21), (10, .aload_n 0), (11, .getfield 117), (14, .aload_n 0), (15, .getfield 74)],
  [(18, .invokevirtual 120), (21, .aload_n 0), (22, .bipush 7), (24, .invokevirtual 81), (27, .ireturn), (28, .iload_n 1), (29, .invokestatic 124)],
  [(32, .ifCond .eq 15), (35, .aload_n 0), (36, .iload_n 1), (37, .invokevirtual 104), (40, .ifCond .eq 7), (43, .iconst 1), (44, .goto 4), (47, .iconst 0)],
  [(48, .ireturn)]]
def mx_ct68 : List (List (Nat × Jvm.ClassFile.Instr)) := [[(0, .aload_n 0), (1, .aload_n 0), (2, .getfield 9), (5, .aload_n 0), (6, .getfield 21), (9, .getfield 84), (12, .invokevirtual 87), (15, .putfield 21)],
  [(18, .aload_n 0), (19, .iconst 0), (20, .invokevirtual 81), (23, .ireturn)]]
def mx_ct69 : List (List (Nat × Jvm.ClassFile.Instr)) := [[(0, .aload_n 0), (1, .getfield 74), (4, .aload_n 0), (5, .getfield 21), (8, .getfield 107), (11, .lcmp), (12, .ifCond .ne 9), (15, .aload_n 0)],
  [(16, .iload_n 1), (17, .invokevirtual 71), (20, .ireturn), (21, .iload_n 1), (22, .aload_n 0), (23, .getfield 21), (26, .getfield 107), (29, .aload_n 0), (30, .getfield 78)],
  [(33, .invokestatic 127), (36, .if_icmp .ne 15), (39, .aload_n 0), (40, .iload_n 1), (41, .invokevirtual 104), (44, .ifCond .eq 7), (47, .iconst 1)],
  [(48, .goto 4), (51, .iconst 0), (52, .ireturn)]]
def mx_ct70 : List (List (Nat × Jvm.ClassFile.Instr)) := [[(0, .iload_n 1), (1, .bipush 62), (3, .if_icmp .ne 8), (6, .aload_n 0), (7, .invokevirtual 64), (10, .ireturn), (11, .iload_n 1), (12, .invokestatic 94), (15, .ifCond .eq 16)],
  [(18, .aload_n 0), (19, .bipush 10), (21, .invokevirtual 81), (24, .ifCond .eq 7), (27, .iconst 1), (28, .goto 4), (31, .iconst 0)],
  [(32, .ireturn)]]
def mx_ct71 : List (List (Nat × Jvm.ClassFile.Instr)) := [[(0, .aload_n 0), (1, .invokespecial 3), (4, .aload_n 0), (5, .new 9), (8, .dup), (9, .invokespecial 11), (12, .putfield 12), (15, .aload_n 0)],
  [(16, .new 18), (19, .dup), (20, .aload_n 1), (21, .invokespecial 20), (24, .putfield 23), (27, .aload_n 0), (28, .new 27), (31, .dup)],
  [(32, .aload_n 0), (33, .getfield 23), (36, .invokespecial 29), (39, .putfield 32), (42, .return_)]]
def mx_ct72 : List (List (Nat × Jvm.ClassFile.Instr)) := [[(0, .aload_n 0), (1, .iconst 1), (2, .putfield 36), (5, .aload_n 0), (6, .iload_n 2), (7, .putfield 40), (10, .aload_n 0), (11, .iconst 0), (12, .putfield 44), (15, .aload_n 0)],
  [(16, .getfield 12), (19, .aload_n 1), (20, .getfield 47), (23, .invokevirtual 50), (26, .aload_n 0), (27, .aload_n 0), (28, .getfield 32), (31, .aload_n 1)],
  [(32, .getfield 54), (35, .aload_n 1), (36, .getfield 58), (39, .invokevirtual 61), (42, .putfield 65), (45, .aload_n 0), (46, .iconst (-1)), (47, .putfield 68)],
  [(50, .aload_n 0), (51, .getfield 65), (54, .iconst (-1)), (55, .if_icmp .eq 25), (58, .aload_n 0), (59, .getfield 23), (62, .invokevirtual 71)],
  [(65, .aload_n 0), (66, .aload_n 1), (67, .getfield 54), (70, .aload_n 0), (71, .getfield 65), (74, .invokestatic 74), (77, .putfield 68)],
  [(80, .return_)]]
def mx_ct73 : List (List (Nat × Jvm.ClassFile.Instr)) := [[(0, .iconst 1), (1, .istore_n 2), (2, .iconst 0), (3, .istore_n 3), (4, .iload_n 3), (5, .iload_n 1), (6, .if_icmp .ge 26), (9, .iload_n 3), (10, .aload_n 0), (11, .arraylength), (12, .if_icmp .ge 20), (15, .aload_n 0)],
  [(16, .iload_n 3), (17, .baload), (18, .bipush 10), (20, .if_icmp .ne 6), (23, .iinc 2 1), (26, .iinc 3 1), (29, .goto (-25))],
  [(32, .iload_n 2), (33, .ireturn)]]
def mx_ct74 : List (List (Nat × Jvm.ClassFile.Instr)) := [[(0, .aload_n 0), (1, .getfield 65), (4, .iconst (-1)), (5, .if_icmp .ne 7), (8, .iconst 0), (9, .goto 4), (12, .iconst 1), (13, .ireturn)]]
def mx_ct75 : List (List (Nat × Jvm.ClassFile.Instr)) := [[(0, .aload_n 0), (1, .iconst 0), (2, .putfield 36), (5, .aload_n 0), (6, .getfield 23), (9, .invokevirtual 71), (12, .return_)]]
def mx_ct76 : List (List (Nat × Jvm.ClassFile.Instr)) := [[(0, .aload_n 0), (1, .getfield 36), (4, .ifCond .ne 5), (7, .iconst 0), (8, .ireturn), (9, .aload_n 0), (10, .getfield 77), (13, .ifCond .ne 5)],
  [(16, .iconst 1), (17, .ireturn), (18, .aload_n 0), (19, .getfield 80), (22, .ifCond .eq 7), (25, .iconst 3), (26, .goto 4), (29, .iconst 2), (30, .ireturn)]]
def mx_ct77 : List (List (Nat × Jvm.ClassFile.Instr)) := [[(0, .aload_n 0), (1, .invokespecial 3), (4, .aload_n 0), (5, .new 9), (8, .dup), (9, .invokespecial 11), (12, .putfield 12), (15, .aload_n 0)],
  [(16, .bipush 8), (18, .anewarray 18), (21, .putfield 20), (24, .iconst 0), (25, .istore_n 1), (26, .iload_n 1), (27, .bipush 8), (29, .if_icmp .ge 26)],
  [(32, .aload_n 0), (33, .getfield 20), (36, .iload_n 1), (37, .new 18), (40, .dup), (41, .aload_n 0), (42, .getfield 12), (45, .invokespecial 24)],
  [(48, .aastore), (49, .iinc 1 1), (52, .goto (-26)), (55, .aload_n 0), (56, .new 27), (59, .dup), (60, .bipush 16), (62, .invokespecial 29)],
  [(65, .putfield 32), (68, .return_)]]
def mx_ct78 : List (List (Nat × Jvm.ClassFile.Instr)) := [[(0, .aload_n 0), (1, .getfield 20), (4, .astore_n 1), (5, .aload_n 1), (6, .arraylength), (7, .istore_n 2), (8, .iconst 0), (9, .istore_n 3), (10, .iload_n 3), (11, .iload_n 2), (12, .if_icmp .ge 24), (15, .aload_n 1)],
  [(16, .iload_n 3), (17, .aaload), (18, .astore 4), (20, .aload 4), (22, .aload 4), (24, .getfield 59), (27, .putfield 63), (30, .iinc 3 1)],
  [(33, .goto (-23)), (36, .iconst 0), (37, .istore_n 1), (38, .iload_n 1), (39, .bipush 8), (41, .if_icmp .ge 57), (44, .iconst 0), (45, .istore_n 2), (46, .iload_n 2), (47, .bipush 8)],
  [(49, .if_icmp .ge 43), (52, .aload_n 0), (53, .getfield 20), (56, .iload_n 2), (57, .aaload), (58, .aload_n 0), (59, .getfield 20), (62, .iload_n 2), (63, .aaload)],
  [(64, .getfield 63), (67, .ifCond .eq 15), (70, .aload_n 0), (71, .iload_n 2), (72, .invokevirtual 66), (75, .ifCond .ne 7), (78, .iconst 1), (79, .goto 4)],
  [(82, .iconst 0), (83, .putfield 63), (86, .iinc 2 1), (89, .goto (-43)), (92, .iinc 1 1), (95, .goto (-57))],
  [(98, .return_)]]
def mx_ct79 : List (List (Nat × Jvm.ClassFile.Instr)) := [[(0, .aload_n 0), (1, .getfield 20), (4, .iload_n 1), (5, .aaload), (6, .getfield 70), (9, .astore_n 2), (10, .iconst 0), (11, .istore_n 3), (12, .iload_n 3), (13, .aload_n 2), (14, .getfield 74)],
  [(17, .if_icmp .ge 62), (20, .aload_n 0), (21, .getfield 20), (24, .aload_n 2), (25, .getfield 79), (28, .iload_n 3), (29, .iaload), (30, .aaload), (31, .astore 4)],
  [(33, .aload 4), (35, .getfield 63), (38, .ifCond .eq 31), (41, .aload 4), (43, .getfield 83), (46, .aload_n 2), (47, .getfield 86)],
  [(50, .iload_n 3), (51, .iaload), (52, .if_icmp .lt 17), (55, .aload 4), (57, .getfield 83), (60, .aload_n 2), (61, .getfield 89)],
  [(64, .iload_n 3), (65, .iaload), (66, .if_icmp .le 7), (69, .iload_n 3), (70, .iconst 1), (71, .iadd), (72, .ireturn), (73, .iinc 3 1), (76, .goto (-64)), (79, .iconst 0)],
  [(80, .ireturn)]]
def mx_ct80 : List (List (Nat × Jvm.ClassFile.Instr)) := [[(0, .iload_n 1), (1, .ifCond .lt 25), (4, .iload_n 1), (5, .sipush 128), (8, .if_icmp .ge 18), (11, .aload_n 0), (12, .iload_n 1), (13, .invokevirtual 36)],
  [(16, .iload_n 1), (17, .bipush 16), (19, .irem), (20, .invokevirtual 40), (23, .goto 7), (26, .aload_n 0), (27, .getfield 12), (30, .areturn)]]
def mx_ct81 : List (List (Nat × Jvm.ClassFile.Instr)) := [[(0, .aload_n 0), (1, .getfield 20), (4, .iload_n 1), (5, .bipush 16), (7, .idiv), (8, .bipush 7), (10, .iand), (11, .aaload), (12, .getfield 51), (15, .areturn)]]
def mx_ct82 : List (List (Nat × Jvm.ClassFile.Instr)) := [[(0, .aload_n 0), (1, .getfield 20), (4, .iload_n 1), (5, .aaload), (6, .getfield 113), (9, .ifCond .eq 21), (12, .aload_n 0), (13, .getfield 20)],
  [(16, .iload_n 1), (17, .aaload), (18, .iconst 0), (19, .putfield 113), (22, .aload_n 0), (23, .getfield 32), (26, .iload_n 1), (27, .invokevirtual 138), (30, .return_)]]
def mx_ct83 : List (List (Nat × Jvm.ClassFile.Instr)) := [[(0, .iconst 0), (1, .istore_n 1), (2, .iload_n 1), (3, .bipush 8), (5, .if_icmp .ge 26), (8, .aload_n 0), (9, .getfield 20), (12, .iload_n 1), (13, .aaload), (14, .getfield 63)],
  [(17, .ifCond .ne 8), (20, .aload_n 0), (21, .iload_n 1), (22, .invokevirtual 141), (25, .iinc 1 1), (28, .goto (-26)), (31, .return_)]]
def mx_ct84 : List (List (Nat × Jvm.ClassFile.Instr)) := [[(0, .aload_n 0), (1, .iload_n 1), (2, .invokevirtual 46), (5, .getfield 47), (8, .ifCond .le 7), (11, .iconst 1), (12, .goto 4), (15, .iconst 0)],
  [(16, .ireturn)]]
def mx_ct85 : List (List (Nat × Jvm.ClassFile.Instr)) := [[(0, .aload_n 0), (1, .getfield 20), (4, .iload_n 1), (5, .aaload), (6, .getfield 70), (9, .astore 4), (11, .iconst 0), (12, .istore 5), (14, .iload 5)],
  [(16, .aload 4), (18, .getfield 74), (21, .if_icmp .ge 33), (24, .aload_n 0), (25, .aload 4), (27, .getfield 79), (30, .iload 5)],
  [(32, .iaload), (33, .lload_n 2), (34, .invokevirtual 92), (37, .istore 6), (39, .iload 6), (41, .iconst (-1)), (42, .if_icmp .eq 6), (45, .iload 6), (47, .ireturn)],
  [(48, .iinc 5 1), (51, .goto (-37)), (54, .aload_n 0), (55, .iload_n 1), (56, .lload_n 2), (57, .invokevirtual 92), (60, .ireturn)]]
def mx_ct86 : List (List (Nat × Jvm.ClassFile.Instr)) := [[(0, .aload_n 0), (1, .getfield 20), (4, .iload_n 1), (5, .aaload), (6, .getfield 70), (9, .lload_n 2), (10, .invokevirtual 96), (13, .istore 4), (15, .iload 4)],
  [(17, .iconst (-1)), (18, .if_icmp .ne 7), (21, .iconst (-1)), (22, .goto 9), (25, .iload_n 1), (26, .iconst 4), (27, .imul), (28, .iload 4), (30, .iadd), (31, .ireturn)]]
def mx_ct87 : List (List (Nat × Jvm.ClassFile.Instr)) := [[(0, .aload_n 0), (1, .iload_n 1), (2, .invokevirtual 106), (5, .iconst 4), (6, .iand), (7, .ifCond .ne 15), (10, .aload_n 0), (11, .iload_n 1), (12, .invokestatic 100), (15, .iload_n 2)],
  [(16, .invokevirtual 109), (19, .ifCond .eq 7), (22, .iconst 1), (23, .goto 4), (26, .iconst 0), (27, .ireturn)]]
def mx_ct88 : List (List (Nat × Jvm.ClassFile.Instr)) := [[(0, .aload_n 0), (1, .getfield 20), (4, .iload_n 1), (5, .invokestatic 100), (8, .aaload), (9, .getfield 70), (12, .getfield 103), (15, .iload_n 1)],
  [(16, .iconst 4), (17, .irem), (18, .iaload), (19, .ireturn)]]
def mx_ct89 : List (List (Nat × Jvm.ClassFile.Instr)) := [[(0, .iload_n 0), (1, .iconst 4), (2, .idiv), (3, .ireturn)]]
def mx_ct90 : List (List (Nat × Jvm.ClassFile.Instr)) := [[(0, .aload_n 0), (1, .getfield 20), (4, .iload_n 1), (5, .aaload), (6, .astore_n 3), (7, .aload_n 3), (8, .getfield 113), (11, .ifCond .ne 10), (14, .aload_n 3), (15, .getfield 116)],
  [(18, .ifCond .eq 5), (21, .iconst 1), (22, .ireturn), (23, .iload_n 2), (24, .bipush 8), (26, .if_icmp .lt 5), (29, .iconst 0), (30, .ireturn), (31, .aload_n 3)],
  [(32, .iconst 1), (33, .putfield 116), (36, .aload_n 3), (37, .dup), (38, .getfield 119), (41, .iconst 1), (42, .iadd), (43, .putfield 119), (46, .aload_n 3), (47, .aload_n 0)],
  [(48, .iload_n 1), (49, .iload_n 2), (50, .invokevirtual 122), (53, .putfield 113), (56, .aload_n 3), (57, .iconst 0), (58, .putfield 116), (61, .aload_n 3), (62, .getfield 113)],
  [(65, .ireturn)]]
def mx_ct91 : List (List (Nat × Jvm.ClassFile.Instr)) := [[(0, .aload_n 0), (1, .getfield 20), (4, .iload_n 1), (5, .aaload), (6, .getfield 70), (9, .astore_n 3), (10, .aload_n 3), (11, .getfield 125), (14, .lconst 0), (15, .lcmp)],
  [(16, .ifCond .eq 34), (19, .aload_n 0), (20, .iload_n 1), (21, .aload_n 3), (22, .getfield 125), (25, .invokevirtual 129), (28, .istore 4), (30, .iload 4)],
  [(32, .iconst (-1)), (33, .if_icmp .eq 15), (36, .aload_n 0), (37, .iload 4), (39, .iload_n 2), (40, .iconst 1), (41, .iadd), (42, .invokevirtual 132), (45, .ifCond .ne 5)],
  [(48, .iconst 0), (49, .ireturn), (50, .aload_n 3), (51, .getfield 135), (54, .iconst 2), (55, .if_icmp .eq 7), (58, .iconst 1), (59, .goto 4), (62, .iconst 0), (63, .ireturn)]]
def mx_ct92 : List (List (Nat × Jvm.ClassFile.Instr)) := [[(0, .aload_n 0), (1, .getfield 32), (4, .getfield 144), (7, .istore_n 1), (8, .iconst 0), (9, .istore_n 2), (10, .iload_n 2), (11, .bipush 8), (13, .if_icmp .ge 24)],
  [(16, .aload_n 0), (17, .invokevirtual 147), (20, .istore_n 3), (21, .iload_n 3), (22, .iconst (-1)), (23, .if_icmp .eq 8), (26, .aload_n 0), (27, .iload_n 3), (28, .invokevirtual 141), (31, .iinc 2 1)],
  [(34, .goto (-24)), (37, .aload_n 0), (38, .getfield 32), (41, .getfield 144), (44, .iload_n 1), (45, .isub), (46, .ireturn)]]
def mx_ct93 : List (List (Nat × Jvm.ClassFile.Instr)) := [[(0, .iconst (-1)), (1, .istore_n 1), (2, .bipush 7), (4, .istore_n 2), (5, .iload_n 2), (6, .ifCond .lt 37), (9, .aload_n 0), (10, .getfield 20), (13, .iload_n 2), (14, .aaload), (15, .getfield 113)],
  [(18, .ifCond .eq 19), (21, .aload_n 0), (22, .iload_n 2), (23, .invokevirtual 150), (26, .ifCond .ne 5), (29, .iload_n 2), (30, .ireturn), (31, .iload_n 1)],
  [(32, .iload_n 2), (33, .invokestatic 154), (36, .istore_n 1), (37, .iinc 2 (-1)), (40, .goto (-35)), (43, .iload_n 1), (44, .ireturn)]]
def mx_ct94 : List (List (Nat × Jvm.ClassFile.Instr)) := [[(0, .iconst 0), (1, .istore_n 2), (2, .iload_n 2), (3, .bipush 8), (5, .if_icmp .ge 44), (8, .iload_n 2), (9, .iload_n 1), (10, .if_icmp .eq 33), (13, .aload_n 0), (14, .getfield 20)],
  [(17, .iload_n 2), (18, .aaload), (19, .getfield 113), (22, .ifCond .eq 21), (25, .aload_n 0), (26, .getfield 20), (29, .iload_n 2), (30, .aaload), (31, .getfield 70)],
  [(34, .iload_n 1), (35, .invokevirtual 160), (38, .ifCond .eq 5), (41, .iconst 1), (42, .ireturn), (43, .iinc 2 1), (46, .goto (-44))],
  [(49, .iconst 0), (50, .ireturn)]]
def mx_ct95 : List (List (Nat × Jvm.ClassFile.Instr)) := [[(0, .iconst 0), (1, .istore_n 2), (2, .aload_n 0), (3, .getfield 20), (6, .astore_n 3), (7, .aload_n 3), (8, .arraylength), (9, .istore 4), (11, .iconst 0), (12, .istore 5), (14, .iload 5)],
  [(16, .iload 4), (18, .if_icmp .ge 27), (21, .aload_n 3), (22, .iload 5), (24, .aaload), (25, .astore 6), (27, .aload 6), (29, .invokevirtual 55)],
  [(32, .iload_n 1), (33, .if_icmp .lt 6), (36, .iinc 2 1), (39, .iinc 5 1), (42, .goto (-28)), (45, .iload_n 2), (46, .ireturn)]]
def mx_ct96 : List (List (Nat × Jvm.ClassFile.Instr)) := [[(0, .aload_n 0), (1, .invokespecial 3), (4, .aload_n 0), (5, .aload_n 1), (6, .putfield 9), (9, .aload_n 0), (10, .sipush 128), (13, .newarray .boolean), (15, .putfield 15)],
  [(18, .aload_n 0), (19, .sipush 128), (22, .newarray .boolean), (24, .putfield 19), (27, .aload_n 0), (28, .sipush 128), (31, .newarray .boolean)],
  [(33, .putfield 22), (36, .return_)]]
def mx_ct97 : List (List (Nat × Jvm.ClassFile.Instr)) := [[(0, .aload_n 0), (1, .invokevirtual 53), (4, .iconst 0), (5, .istore_n 2), (6, .iload_n 2), (7, .sipush 128), (10, .if_icmp .ge 51), (13, .aload_n 0), (14, .getfield 22)],
  [(17, .iload_n 2), (18, .aload_n 0), (19, .getfield 19), (22, .iload_n 2), (23, .baload), (24, .bastore), (25, .aload_n 0), (26, .getfield 19), (29, .iload_n 2), (30, .aload_n 0), (31, .iload_n 2)],
  [(32, .ldc2_w 56), (35, .invokevirtual 58), (38, .ifCond .eq 15), (41, .aload_n 0), (42, .iload_n 2), (43, .invokevirtual 62), (46, .ifCond .eq 7)],
  [(49, .iconst 1), (50, .goto 4), (53, .iconst 0), (54, .bastore), (55, .iinc 2 1), (58, .goto (-52)), (61, .aload_n 0), (62, .aload_n 1), (63, .invokevirtual 65)],
  [(66, .ireturn)]]
def mx_ct98 : List (List (Nat × Jvm.ClassFile.Instr)) := [[(0, .iconst 0), (1, .istore_n 1), (2, .iload_n 1), (3, .sipush 128), (6, .if_icmp .ge 16), (9, .aload_n 0), (10, .getfield 15), (13, .iload_n 1), (14, .iconst 0), (15, .bastore)],
  [(16, .iinc 1 1), (19, .goto (-17)), (22, .iconst 0), (23, .istore_n 1), (24, .iload_n 1), (25, .sipush 128), (28, .if_icmp .ge 61), (31, .aload_n 0)],
  [(32, .getfield 9), (35, .iload_n 1), (36, .invokevirtual 25), (39, .ldc2_w 31), (42, .invokevirtual 33), (45, .lstore_n 2), (46, .aload_n 0), (47, .getfield 15)],
  [(50, .iload_n 1), (51, .lload_n 2), (52, .lconst 0), (53, .lcmp), (54, .ifCond .le 27), (57, .aload_n 0), (58, .iload_n 1), (59, .ldc2_w 39), (62, .invokevirtual 58)],
  [(65, .ifCond .eq 16), (68, .aload_n 0), (69, .lload_n 2), (70, .invokevirtual 69), (73, .iconst (-1)), (74, .if_icmp .ne 7), (77, .iconst 1), (78, .goto 4)],
  [(81, .iconst 0), (82, .bastore), (83, .iinc 1 1), (86, .goto (-62)), (89, .return_)]]
def mx_ct99 : List (List (Nat × Jvm.ClassFile.Instr)) := [[(0, .aload_n 0), (1, .getfield 9), (4, .iload_n 1), (5, .invokevirtual 25), (8, .astore 4), (10, .aload 4), (12, .getfield 73), (15, .iconst 1)],
  [(16, .if_icmp .ne 35), (19, .aload 4), (21, .getfield 76), (24, .lload_n 2), (25, .lcmp), (26, .ifCond .ne 25), (29, .aload_n 0), (30, .getfield 9)],
  [(33, .getfield 80), (36, .iload_n 1), (37, .bipush 16), (39, .idiv), (40, .aaload), (41, .getfield 84), (44, .ifCond .eq 7), (47, .iconst 1)],
  [(48, .goto 4), (51, .iconst 0), (52, .ireturn)]]
def mx_ct100 : List (List (Nat × Jvm.ClassFile.Instr)) := [[(0, .iconst 0), (1, .istore_n 3), (2, .iload_n 3), (3, .sipush 128), (6, .if_icmp .ge 39), (9, .aload_n 0), (10, .getfield 15), (13, .iload_n 3), (14, .baload), (15, .ifCond .eq 24)],
  [(18, .aload_n 0), (19, .getfield 9), (22, .iload_n 3), (23, .invokevirtual 25), (26, .ldc2_w 31), (29, .invokevirtual 33)],
  [(32, .lload_n 1), (33, .lcmp), (34, .ifCond .ne 5), (37, .iload_n 3), (38, .ireturn), (39, .iinc 3 1), (42, .goto (-40)), (45, .iconst (-1)), (46, .ireturn)]]
def mx_ct101 : List (List (Nat × Jvm.ClassFile.Instr)) := [[(0, .aload_n 0), (1, .aload_n 0), (2, .getfield 9), (5, .iload_n 1), (6, .invokevirtual 25), (9, .ldc2_w 39), (12, .invokevirtual 33), (15, .invokevirtual 69)],
  [(18, .istore_n 2), (19, .iload_n 2), (20, .iconst (-1)), (21, .if_icmp .ne 5), (24, .iconst 0), (25, .ireturn), (26, .aload_n 0), (27, .iload_n 2), (28, .invokevirtual 90), (31, .ifCond .ne 5)],
  [(34, .iconst 1), (35, .ireturn), (36, .aload_n 0), (37, .getfield 9), (40, .iload_n 1), (41, .invokevirtual 93), (44, .astore_n 3), (45, .iconst 0), (46, .istore 4)],
  [(48, .iload 4), (50, .aload_n 3), (51, .getfield 97), (54, .if_icmp .ge 41), (57, .aload_n 3), (58, .iload 4), (60, .invokevirtual 102), (63, .getfield 103)],
  [(66, .iload_n 1), (67, .bipush 16), (69, .irem), (70, .if_icmp .ne 19), (73, .aload_n 0), (74, .aload_n 3), (75, .iload 4), (77, .invokevirtual 102)],
  [(80, .iload_n 2), (81, .invokevirtual 106), (84, .ifCond .ne 5), (87, .iconst 0), (88, .ireturn), (89, .iinc 4 1), (92, .goto (-44)), (95, .iconst 1)],
  [(96, .ireturn)]]
def mx_ct102 : List (List (Nat × Jvm.ClassFile.Instr)) := [[(0, .aload_n 0), (1, .getfield 9), (4, .iload_n 1), (5, .invokevirtual 93), (8, .astore_n 2), (9, .iconst 0), (10, .istore_n 3), (11, .iload_n 3), (12, .aload_n 2), (13, .getfield 97)],
  [(16, .if_icmp .ge 23), (19, .aload_n 2), (20, .iload_n 3), (21, .invokevirtual 102), (24, .iload_n 1), (25, .invokestatic 110), (28, .ifCond .eq 5), (31, .iconst 1)],
  [(32, .ireturn), (33, .iinc 3 1), (36, .goto (-25)), (39, .iconst 0), (40, .ireturn)]]
def mx_ct103 : List (List (Nat × Jvm.ClassFile.Instr)) := [[(0, .aload_n 0), (1, .getfield 103), (4, .iload_n 1), (5, .bipush 16), (7, .irem), (8, .if_icmp .ne 30), (11, .aload_n 0), (12, .getfield 76), (15, .ldc2_w 121)],
  [(18, .lcmp), (19, .ifCond .ne 19), (22, .aload_n 0), (23, .ldc2_w 113), (26, .invokevirtual 33), (29, .lconst 0), (30, .lcmp), (31, .ifCond .le 7)],
  [(34, .iconst 1), (35, .goto 4), (38, .iconst 0), (39, .ireturn)]]
def mx_ct104 : List (List (Nat × Jvm.ClassFile.Instr)) := [[(0, .aload_n 0), (1, .getfield 9), (4, .iload_n 2), (5, .invokevirtual 93), (8, .astore_n 3), (9, .iconst 0), (10, .istore 4), (12, .iload 4), (14, .aload_n 3), (15, .getfield 97)],
  [(18, .if_icmp .ge 74), (21, .aload_n 3), (22, .iload 4), (24, .invokevirtual 102), (27, .astore 5), (29, .aload 5), (31, .iload_n 2)],
  [(32, .invokestatic 110), (35, .ifCond .eq 51), (38, .aload 5), (40, .ldc2_w 113), (43, .invokevirtual 33), (46, .aload_n 1), (47, .getfield 76)],
  [(50, .lcmp), (51, .ifCond .ne 35), (54, .aload 5), (56, .ldc2_w 115), (59, .invokevirtual 33), (62, .lstore 6)],
  [(64, .lload 6), (66, .lconst 0), (67, .lcmp), (68, .ifCond .le 12), (71, .aload_n 1), (72, .lload 6), (74, .invokevirtual 117), (77, .ifCond .eq 7)],
  [(80, .iconst 1), (81, .goto 4), (84, .iconst 0), (85, .ireturn), (86, .iinc 4 1), (89, .goto (-77)), (92, .iconst 0), (93, .ireturn)]]
def mx_ct105 : List (List (Nat × Jvm.ClassFile.Instr)) := [[(0, .aload_n 1), (1, .getfield 123), (4, .istore_n 2), (5, .iconst 0), (6, .istore_n 3), (7, .iload_n 3), (8, .sipush 128), (11, .if_icmp .ge 32), (14, .aload_n 0), (15, .getfield 22)],
  [(18, .iload_n 3), (19, .baload), (20, .ifCond .eq 17), (23, .aload_n 0), (24, .getfield 19), (27, .iload_n 3), (28, .baload), (29, .ifCond .ne 8)],
  [(32, .aload_n 1), (33, .iload_n 3), (34, .invokevirtual 128), (37, .iinc 3 1), (40, .goto (-33)), (43, .iconst 0), (44, .istore_n 3), (45, .iload_n 3), (46, .sipush 128)],
  [(49, .if_icmp .ge 36), (52, .aload_n 0), (53, .getfield 19), (56, .iload_n 3), (57, .baload), (58, .ifCond .eq 21), (61, .aload_n 0), (62, .getfield 22)],
  [(65, .iload_n 3), (66, .baload), (67, .ifCond .ne 12), (70, .aload_n 1), (71, .iload_n 3), (72, .sipush 128), (75, .iadd), (76, .invokevirtual 128), (79, .iinc 3 1)],
  [(82, .goto (-37)), (85, .aload_n 1), (86, .getfield 123), (89, .iload_n 2), (90, .isub), (91, .ireturn)]]
def mx_ct106 : List (List (Nat × Jvm.ClassFile.Instr)) := [[(0, .iconst 0), (1, .istore_n 3), (2, .iconst 0), (3, .istore 4), (5, .iload 4), (7, .sipush 128), (10, .if_icmp .ge 42), (13, .aload_n 0), (14, .getfield 19)],
  [(17, .iload 4), (19, .baload), (20, .ifCond .eq 26), (23, .aload_n 0), (24, .getfield 9), (27, .iload 4), (29, .invokevirtual 25)],
  [(32, .ldc2_w 39), (35, .invokevirtual 33), (38, .lload_n 1), (39, .lcmp), (40, .ifCond .ne 6), (43, .iinc 3 1), (46, .iinc 4 1)],
  [(49, .goto (-44)), (52, .iload_n 3), (53, .ireturn)]]
def mx_ct107 : List (List (Nat × Jvm.ClassFile.Instr)) := [[(0, .iconst 0), (1, .istore 4), (3, .iconst 0), (4, .istore 5), (6, .iload 5), (8, .sipush 128), (11, .if_icmp .ge 51), (14, .aload_n 0), (15, .getfield 19)],
  [(18, .iload 5), (20, .baload), (21, .ifCond .eq 35), (24, .aload_n 0), (25, .getfield 9), (28, .iload 5), (30, .invokevirtual 25)],
  [(33, .ldc2_w 39), (36, .invokevirtual 33), (39, .lload_n 1), (40, .lcmp), (41, .ifCond .ne 15), (44, .iload 4), (46, .iload_n 3), (47, .if_icmp .ne 6)],
  [(50, .iload 5), (52, .ireturn), (53, .iinc 4 1), (56, .iinc 5 1), (59, .goto (-53)), (62, .iconst (-1)), (63, .ireturn)]]
def mx_ct108 : List (List (Nat × Jvm.ClassFile.Instr)) := [[(0, .aload_n 0), (1, .getfield 9), (4, .iload_n 1), (5, .invokevirtual 41), (8, .ifCond .eq 30), (11, .aload_n 0), (12, .getfield 19), (15, .iload_n 1)],
  [(16, .aload_n 0), (17, .getfield 9), (20, .iload_n 1), (21, .invokevirtual 25), (24, .getfield 45), (27, .invokestatic 49), (30, .baload), (31, .ifCond .eq 7)],
  [(34, .iconst 1), (35, .goto 4), (38, .iconst 0), (39, .ireturn)]]
def mx_ct109 : List (List (Nat × Jvm.ClassFile.Instr)) := [[(0, .aload_n 0), (1, .invokespecial 3), (4, .aload_n 0), (5, .bipush 24), (7, .newarray .int), (9, .putfield 11), (12, .aload_n 0), (13, .bipush 24), (15, .newarray .int)],
  [(17, .putfield 15), (20, .aload_n 0), (21, .bipush 24), (23, .newarray .int), (25, .putfield 18), (28, .aload_n 0), (29, .bipush 24), (31, .newarray .boolean)],
  [(33, .putfield 21), (36, .return_)]]
def mx_ct110 : List (List (Nat × Jvm.ClassFile.Instr)) := [[(0, .iconst 0), (1, .istore_n 2), (2, .iload_n 2), (3, .aload_n 0), (4, .getfield 25), (7, .if_icmp .ge 27), (10, .aload_n 1), (11, .aload_n 0), (12, .getfield 15), (15, .iload_n 2)],
  [(16, .iaload), (17, .baload), (18, .ifCond .ne 10), (21, .aload_n 0), (22, .getfield 21), (25, .iload_n 2), (26, .iconst 1), (27, .bastore), (28, .iinc 2 1), (31, .goto (-29))],
  [(34, .return_)]]
def mx_ct111 : List (List (Nat × Jvm.ClassFile.Instr)) := [[(0, .aload_n 0), (1, .getfield 25), (4, .bipush 24), (6, .if_icmp .lt 6), (9, .bipush (-2)), (11, .ireturn), (12, .aload_n 0), (13, .getfield 11)],
  [(16, .aload_n 0), (17, .getfield 25), (20, .iload_n 1), (21, .iastore), (22, .aload_n 0), (23, .getfield 15), (26, .aload_n 0), (27, .getfield 25), (30, .iload_n 2), (31, .iastore)],
  [(32, .aload_n 0), (33, .getfield 18), (36, .aload_n 0), (37, .getfield 25), (40, .iload_n 3), (41, .iastore), (42, .aload_n 0), (43, .dup), (44, .getfield 25), (47, .iconst 1)],
  [(48, .iadd), (49, .putfield 25), (52, .aload_n 0), (53, .getfield 25), (56, .iconst 1), (57, .isub), (58, .ireturn)]]
def mx_ct112 : List (List (Nat × Jvm.ClassFile.Instr)) := [[(0, .aload_n 0), (1, .getfield 25), (4, .aload_n 0), (5, .getfield 21), (8, .invokestatic 29), (11, .isub), (12, .ireturn)]]
def mx_ct113 : List (List (Nat × Jvm.ClassFile.Instr)) := [[(0, .aload_n 0), (1, .invokespecial 3), (4, .aload_n 0), (5, .iload_n 1), (6, .newarray .int), (8, .putfield 9), (11, .return_)]]
def mx_ct114 : List (List (Nat × Jvm.ClassFile.Instr)) := [[(0, .aload_n 0), (1, .getfield 9), (4, .aload_n 0), (5, .getfield 15), (8, .iload_n 1), (9, .iastore), (10, .aload_n 0), (11, .aload_n 0), (12, .getfield 15), (15, .iconst 1)],
  [(16, .iadd), (17, .aload_n 0), (18, .getfield 9), (21, .arraylength), (22, .if_icmp .ge 12), (25, .aload_n 0), (26, .getfield 15), (29, .iconst 1), (30, .iadd), (31, .goto 4)],
  [(34, .iconst 0), (35, .putfield 15), (38, .aload_n 0), (39, .dup), (40, .getfield 19), (43, .iconst 1), (44, .iadd), (45, .putfield 19)],
  [(48, .return_)]]
def mx_ct115 : List (List (Nat × Jvm.ClassFile.Instr)) := [[(0, .iload_n 1), (1, .ifCond .lt 20), (4, .iload_n 1), (5, .aload_n 0), (6, .getfield 9), (9, .arraylength), (10, .if_icmp .ge 11), (13, .iload_n 1), (14, .aload_n 0), (15, .getfield 19)],
  [(18, .if_icmp .lt 5), (21, .iconst (-1)), (22, .ireturn), (23, .aload_n 0), (24, .getfield 9), (27, .aload_n 0), (28, .getfield 15), (31, .iconst 1)],
  [(32, .isub), (33, .iload_n 1), (34, .isub), (35, .aload_n 0), (36, .getfield 9), (39, .arraylength), (40, .invokestatic 22), (43, .iaload), (44, .ireturn)]]
def mx_ct116 : List (List (Nat × Jvm.ClassFile.Instr)) := [[(0, .aload_n 0), (1, .invokespecial 1), (4, .aload_n 0), (5, .sipush 200), (8, .newarray .int), (10, .putfield 7), (13, .aload_n 0), (14, .bipush 9)],
  [(16, .newarray .int), (18, .putfield 13), (21, .aload_n 0), (22, .bipush 27), (24, .newarray .int), (26, .putfield 16), (29, .aload_n 0), (30, .bipush 27)],
  [(32, .newarray .int), (34, .putfield 19), (37, .aload_n 0), (38, .bipush 27), (40, .newarray .int), (42, .putfield 22), (45, .aload_n 0), (46, .bipush 9)],
  [(48, .newarray .int), (50, .putfield 25), (53, .aload_n 0), (54, .bipush 36), (56, .newarray .int), (58, .putfield 28), (61, .aload_n 0), (62, .bipush 9)],
  [(64, .newarray .int), (66, .putfield 31), (69, .aload_n 0), (70, .bipush 36), (72, .newarray .long), (74, .putfield 34), (77, .aload_n 0), (78, .bipush 9)],
  [(80, .newarray .long), (82, .putfield 38), (85, .aload_n 0), (86, .bipush 8), (88, .newarray .boolean), (90, .putfield 41), (93, .aload_n 0), (94, .bipush 8)],
  [(96, .newarray .boolean), (98, .putfield 45), (101, .aload_n 0), (102, .bipush 8), (104, .newarray .boolean), (106, .putfield 48), (109, .aload_n 0), (110, .bipush 8)],
  [(112, .newarray .boolean), (114, .putfield 51), (117, .aload_n 0), (118, .bipush 8), (120, .newarray .int), (122, .putfield 54), (125, .aload_n 0), (126, .bipush 8)],
  [(128, .newarray .int), (130, .putfield 57), (133, .aload_n 0), (134, .bipush 8), (136, .newarray .int), (138, .putfield 60), (141, .aload_n 0), (142, .bipush 8)],
  [(144, .newarray .int), (146, .putfield 63), (149, .aload_n 0), (150, .bipush 8), (152, .newarray .int), (154, .putfield 66), (157, .aload_n 0), (158, .bipush 8)],
  [(160, .newarray .int), (162, .putfield 69), (165, .aload_n 0), (166, .sipush 128), (169, .newarray .long), (171, .putfield 72), (174, .aload_n 0), (175, .sipush 512)],
  [(178, .newarray .long), (180, .putfield 75), (183, .aload_n 0), (184, .sipush 512), (187, .newarray .long), (189, .putfield 78)],
  [(192, .aload_n 0), (193, .sipush 128), (196, .newarray .int), (198, .putfield 81), (201, .aload_n 0), (202, .sipush 128), (205, .newarray .int), (207, .putfield 84)],
  [(210, .aload_n 0), (211, .sipush 128), (214, .newarray .int), (216, .putfield 87), (219, .aload_n 0), (220, .sipush 128), (223, .newarray .boolean)],
  [(225, .putfield 90), (228, .aload_n 0), (229, .sipush 128), (232, .newarray .boolean), (234, .putfield 93), (237, .aload_n 0), (238, .bipush 24)],
  [(240, .newarray .int), (242, .putfield 96), (245, .aload_n 0), (246, .bipush 24), (248, .newarray .int), (250, .putfield 99), (253, .aload_n 0), (254, .bipush 24)],
  [(256, .newarray .int), (258, .putfield 102), (261, .aload_n 0), (262, .bipush 32), (264, .newarray .int), (266, .putfield 105), (269, .aload_n 0), (270, .bipush 16)],
  [(272, .newarray .int), (274, .putfield 108), (277, .aload_n 0), (278, .bipush 24), (280, .newarray .boolean), (282, .putfield 111), (285, .return_)]]
def mx_ct117 : List (List (Nat × Jvm.ClassFile.Instr)) := [[(0, .iconst 0), (1, .istore_n 3), (2, .iload_n 3), (3, .bipush 8), (5, .if_icmp .ge 29), (8, .lload_n 1), (9, .iload_n 3), (10, .invokestatic 120), (13, .ifCond .le 21)],
  [(16, .lload_n 1), (17, .iload_n 3), (18, .invokestatic 120), (21, .bipush 127), (23, .if_icmp .le 5), (26, .iconst (-1)), (27, .ireturn), (28, .iinc 3 1), (31, .goto (-29))],
  [(34, .iload_n 3), (35, .ifCond .ne 5), (38, .iconst (-1)), (39, .ireturn), (40, .aload_n 0), (41, .getfield 128), (44, .iload_n 3), (45, .iadd), (46, .sipush 200)],
  [(49, .if_icmp .le 6), (52, .bipush (-2)), (54, .ireturn), (55, .iconst 0), (56, .istore 4), (58, .iload 4), (60, .iload_n 3), (61, .if_icmp .ge 31)],
  [(64, .aload_n 0), (65, .getfield 7), (68, .aload_n 0), (69, .dup), (70, .getfield 128), (73, .dup_x1), (74, .iconst 1), (75, .iadd), (76, .putfield 128), (79, .lload_n 1)],
  [(80, .iload 4), (82, .invokestatic 120), (85, .iastore), (86, .iinc 4 1), (89, .goto (-31)), (92, .aload_n 0), (93, .getfield 128)],
  [(96, .ireturn)]]
def mx_ct118 : List (List (Nat × Jvm.ClassFile.Instr)) := [[(0, .lload_n 0), (1, .bipush 8), (3, .iload_n 2), (4, .imul), (5, .lshr), (6, .ldc2_w 114), (9, .land), (10, .l2i), (11, .ireturn)]]
def mx_ct119 : List (List (Nat × Jvm.ClassFile.Instr)) := [[(0, .iload_n 1), (1, .iconst 0), (2, .bipush 7), (4, .invokestatic 116), (7, .ifCond .eq 25), (10, .iload_n 2), (11, .iconst 0), (12, .sipush 255), (15, .invokestatic 116)],
  [(18, .ifCond .eq 14), (21, .iload_n 3), (22, .iload_n 2), (23, .sipush 255), (26, .invokestatic 116), (29, .ifCond .ne 5)],
  [(32, .iconst (-1)), (33, .ireturn), (34, .aload_n 0), (35, .getfield 13), (38, .bipush 8), (40, .iaload), (41, .iconst 3), (42, .if_icmp .ne 6), (45, .bipush (-2)), (47, .ireturn)],
  [(48, .bipush 24), (50, .aload_n 0), (51, .getfield 13), (54, .bipush 8), (56, .dup2), (57, .iaload), (58, .dup_x2), (59, .iconst 1), (60, .iadd), (61, .iastore), (62, .iadd), (63, .istore 4)],
  [(65, .aload_n 0), (66, .getfield 16), (69, .iload 4), (71, .iload_n 1), (72, .iastore), (73, .aload_n 0), (74, .getfield 19), (77, .iload 4), (79, .iload_n 2)],
  [(80, .iastore), (81, .aload_n 0), (82, .getfield 22), (85, .iload 4), (87, .iload_n 3), (88, .iastore), (89, .aload_n 0), (90, .getfield 13), (93, .bipush 8), (95, .iaload)],
  [(96, .ireturn)]]
def mx_ct120 : List (List (Nat × Jvm.ClassFile.Instr)) := [[(0, .iload_n 0), (1, .iload_n 1), (2, .if_icmp .lt 12), (5, .iload_n 0), (6, .iload_n 2), (7, .if_icmp .gt 7), (10, .iconst 1), (11, .goto 4), (14, .iconst 0), (15, .ireturn)]]
def mx_ct121 : List (List (Nat × Jvm.ClassFile.Instr)) := [[(0, .lload_n 1), (1, .invokestatic 132), (4, .ifCond .eq 18), (7, .iload_n 3), (8, .iconst 0), (9, .bipush 6), (11, .invokestatic 116), (14, .ifCond .eq 8)],
  [(17, .iload_n 3), (18, .iconst 3), (19, .if_icmp .ne 5), (22, .iconst (-1)), (23, .ireturn), (24, .aload_n 0), (25, .getfield 25), (28, .bipush 8), (30, .iaload), (31, .iconst 4)],
  [(32, .if_icmp .ne 6), (35, .bipush (-2)), (37, .ireturn), (38, .aload_n 0), (39, .getfield 34), (42, .bipush 32), (44, .aload_n 0), (45, .getfield 25)],
  [(48, .bipush 8), (50, .iaload), (51, .iadd), (52, .lload_n 1), (53, .lastore), (54, .aload_n 0), (55, .getfield 28), (58, .bipush 32), (60, .aload_n 0), (61, .getfield 25)],
  [(64, .bipush 8), (66, .iaload), (67, .iadd), (68, .iload_n 3), (69, .iastore), (70, .aload_n 0), (71, .getfield 25), (74, .bipush 8), (76, .dup2), (77, .iaload), (78, .iconst 1), (79, .iadd)],
  [(80, .dup_x2), (81, .iastore), (82, .ireturn)]]
def mx_ct122 : List (List (Nat × Jvm.ClassFile.Instr)) := [[(0, .iconst 0), (1, .istore_n 2), (2, .iload_n 2), (3, .bipush 8), (5, .if_icmp .ge 20), (8, .lload_n 0), (9, .iload_n 2), (10, .invokestatic 120), (13, .invokestatic 124)],
  [(16, .ifCond .eq 9), (19, .iinc 2 1), (22, .goto (-20)), (25, .iload_n 2), (26, .ifCond .le 24), (29, .iload_n 2), (30, .bipush 8)],
  [(32, .if_icmp .eq 14), (35, .lload_n 0), (36, .bipush 8), (38, .iload_n 2), (39, .imul), (40, .lushr), (41, .lconst 0), (42, .lcmp), (43, .ifCond .ne 7), (46, .iconst 1), (47, .goto 4)],
  [(50, .iconst 0), (51, .ireturn)]]
def mx_ct123 : List (List (Nat × Jvm.ClassFile.Instr)) := [[(0, .iload_n 0), (1, .bipush 97), (3, .bipush 122), (5, .invokestatic 116), (8, .ifCond .ne 20), (11, .iload_n 0), (12, .bipush 48), (14, .bipush 57)],
  [(16, .invokestatic 116), (19, .ifCond .ne 9), (22, .iload_n 0), (23, .bipush 46), (25, .if_icmp .ne 7), (28, .iconst 1), (29, .goto 4)],
  [(32, .iconst 0), (33, .ireturn)]]
def mx_ct124 : List (List (Nat × Jvm.ClassFile.Instr)) := [[(0, .iload_n 1), (1, .iconst 0), (2, .iconst 2), (3, .invokestatic 116), (6, .ifCond .eq 16), (9, .lload_n 2), (10, .lconst 0), (11, .lcmp), (12, .ifCond .eq 12), (15, .lload_n 2)],
  [(16, .invokestatic 132), (19, .ifCond .ne 5), (22, .iconst 0), (23, .ireturn), (24, .aload_n 0), (25, .getfield 31), (28, .bipush 8), (30, .iload_n 1), (31, .iastore)],
  [(32, .aload_n 0), (33, .getfield 38), (36, .bipush 8), (38, .lload_n 2), (39, .lastore), (40, .iconst 1), (41, .ireturn)]]
def mx_ct125 : List (List (Nat × Jvm.ClassFile.Instr)) := [[(0, .aload_n 0), (1, .getfield 128), (4, .istore_n 1), (5, .aload_n 0), (6, .iconst 0), (7, .putfield 128), (10, .aload_n 0), (11, .getfield 13), (14, .bipush 8)],
  [(16, .iconst 0), (17, .iastore), (18, .aload_n 0), (19, .getfield 25), (22, .bipush 8), (24, .iconst 0), (25, .iastore), (26, .aload_n 0), (27, .getfield 31), (30, .bipush 8)],
  [(32, .iconst 0), (33, .iastore), (34, .aload_n 0), (35, .getfield 38), (38, .bipush 8), (40, .lconst 0), (41, .lastore), (42, .iload_n 1), (43, .ireturn)]]
def mx_ct126 : List (List (Nat × Jvm.ClassFile.Instr)) := [[(0, .iload_n 1), (1, .iconst 0), (2, .bipush 7), (4, .invokestatic 116), (7, .ifCond .eq 14), (10, .iload_n 2), (11, .iconst 0), (12, .sipush 255), (15, .invokestatic 116)],
  [(18, .ifCond .ne 5), (21, .iconst (-1)), (22, .ireturn), (23, .aload_n 0), (24, .getfield 41), (27, .iload_n 1), (28, .baload), (29, .ifCond .eq 6)],
  [(32, .bipush (-3)), (34, .ireturn), (35, .aload_n 0), (36, .getfield 41), (39, .iload_n 1), (40, .iconst 1), (41, .bastore), (42, .aload_n 0), (43, .getfield 54), (46, .iload_n 1), (47, .iload_n 2)],
  [(48, .iastore), (49, .aload_n 0), (50, .getfield 48), (53, .iload_n 1), (54, .iconst 0), (55, .bastore), (56, .aload_n 0), (57, .getfield 63), (60, .iload_n 1), (61, .iconst 0), (62, .iastore), (63, .aload_n 0)],
  [(64, .getfield 13), (67, .iload_n 1), (68, .aload_n 0), (69, .getfield 13), (72, .bipush 8), (74, .iaload), (75, .iastore), (76, .aload_n 0), (77, .getfield 25)],
  [(80, .iload_n 1), (81, .aload_n 0), (82, .getfield 25), (85, .bipush 8), (87, .iaload), (88, .iastore), (89, .aload_n 0), (90, .getfield 31), (93, .iload_n 1), (94, .aload_n 0), (95, .getfield 31)],
  [(98, .bipush 8), (100, .iaload), (101, .iastore), (102, .aload_n 0), (103, .getfield 38), (106, .iload_n 1), (107, .aload_n 0), (108, .getfield 38), (111, .bipush 8)],
  [(113, .laload), (114, .lastore), (115, .iconst 0), (116, .istore_n 3), (117, .iload_n 3), (118, .iconst 3), (119, .if_icmp .ge 66), (122, .aload_n 0), (123, .getfield 16), (126, .iconst 3), (127, .iload_n 1)],
  [(128, .imul), (129, .iload_n 3), (130, .iadd), (131, .aload_n 0), (132, .getfield 16), (135, .bipush 24), (137, .iload_n 3), (138, .iadd), (139, .iaload), (140, .iastore), (141, .aload_n 0), (142, .getfield 19)],
  [(145, .iconst 3), (146, .iload_n 1), (147, .imul), (148, .iload_n 3), (149, .iadd), (150, .aload_n 0), (151, .getfield 19), (154, .bipush 24), (156, .iload_n 3), (157, .iadd), (158, .iaload), (159, .iastore)],
  [(160, .aload_n 0), (161, .getfield 22), (164, .iconst 3), (165, .iload_n 1), (166, .imul), (167, .iload_n 3), (168, .iadd), (169, .aload_n 0), (170, .getfield 22), (173, .bipush 24), (175, .iload_n 3)],
  [(176, .iadd), (177, .iaload), (178, .iastore), (179, .iinc 3 1), (182, .goto (-65)), (185, .iconst 0), (186, .istore_n 3), (187, .iload_n 3), (188, .iconst 4), (189, .if_icmp .ge 47)],
  [(192, .aload_n 0), (193, .getfield 34), (196, .iconst 4), (197, .iload_n 1), (198, .imul), (199, .iload_n 3), (200, .iadd), (201, .aload_n 0), (202, .getfield 34), (205, .bipush 32), (207, .iload_n 3)],
  [(208, .iadd), (209, .laload), (210, .lastore), (211, .aload_n 0), (212, .getfield 28), (215, .iconst 4), (216, .iload_n 1), (217, .imul), (218, .iload_n 3), (219, .iadd), (220, .aload_n 0), (221, .getfield 28)],
  [(224, .bipush 32), (226, .iload_n 3), (227, .iadd), (228, .iaload), (229, .iastore), (230, .iinc 3 1), (233, .goto (-46)), (236, .aload_n 0), (237, .getfield 57)],
  [(240, .iload_n 1), (241, .aload_n 0), (242, .iload_n 1), (243, .invokevirtual 226), (246, .iastore), (247, .aload_n 0), (248, .getfield 60), (251, .iload_n 1), (252, .aload_n 0), (253, .getfield 57)],
  [(256, .iload_n 1), (257, .iaload), (258, .ifCond .ge 7), (261, .iconst (-1)), (262, .goto 4), (265, .iconst 1), (266, .iastore), (267, .iconst 0), (268, .istore_n 3), (269, .iload_n 3), (270, .aload_n 0), (271, .getfield 57)],
  [(274, .iload_n 1), (275, .iaload), (276, .if_icmp .ge 30), (279, .aload_n 0), (280, .getfield 7), (283, .iload_n 3), (284, .iaload), (285, .bipush 10), (287, .if_icmp .ne 13)],
  [(290, .aload_n 0), (291, .getfield 60), (294, .iload_n 1), (295, .dup2), (296, .iaload), (297, .iconst 1), (298, .iadd), (299, .iastore), (300, .iinc 3 1), (303, .goto (-34))],
  [(306, .aload_n 0), (307, .getfield 57), (310, .iload_n 1), (311, .iaload), (312, .ifCond .lt 10), (315, .aload_n 0), (316, .getfield 66), (319, .iload_n 1)],
  [(320, .iconst 0), (321, .iastore), (322, .aload_n 0), (323, .invokevirtual 229), (326, .pop), (327, .aload_n 0), (328, .invokevirtual 233), (331, .pop), (332, .aload_n 0), (333, .getfield 57)],
  [(336, .iload_n 1), (337, .iaload), (338, .ifCond .ge 7), (341, .iconst 0), (342, .goto 4), (345, .iconst 1), (346, .ireturn)]]
def mx_ct127 : List (List (Nat × Jvm.ClassFile.Instr)) := [[(0, .aload_n 0), (1, .iconst 0), (2, .putfield 136), (5, .aload_n 0), (6, .iconst (-1)), (7, .putfield 139), (10, .aload_n 0), (11, .getfield 66), (14, .iload_n 1), (15, .iconst 0)],
  [(16, .iastore), (17, .iconst 0), (18, .istore_n 2), (19, .iload_n 2), (20, .aload_n 0), (21, .getfield 128), (24, .if_icmp .ge 25), (27, .aload_n 0), (28, .iload_n 1), (29, .aload_n 0), (30, .getfield 7)],
  [(33, .iload_n 2), (34, .iaload), (35, .invokevirtual 142), (38, .ifCond .ne 5), (41, .iload_n 2), (42, .ireturn), (43, .iinc 2 1), (46, .goto (-27))],
  [(49, .aload_n 0), (50, .getfield 136), (53, .ifCond .ne 14), (56, .aload_n 0), (57, .getfield 139), (60, .ifCond .ge 7), (63, .iconst (-1))],
  [(64, .goto 7), (67, .aload_n 0), (68, .getfield 128), (71, .ireturn)]]
def mx_ct128 : List (List (Nat × Jvm.ClassFile.Instr)) := [[(0, .iload_n 2), (1, .bipush 97), (3, .bipush 122), (5, .invokestatic 116), (8, .istore_n 3), (9, .iload_n 2), (10, .bipush 32), (12, .if_icmp .eq 9), (15, .iload_n 2)],
  [(16, .bipush 10), (18, .if_icmp .ne 7), (21, .iconst 1), (22, .goto 4), (25, .iconst 0), (26, .istore 4), (28, .aload_n 0), (29, .getfield 136)],
  [(32, .tableswitch 434 0 9 #[56, 98, 147, 201, 221, 228, 251, 328, 336, 366])],
  [],
  [],
  [(88, .iload 4), (90, .ifCond .eq 5), (93, .iconst 1), (94, .ireturn), (95, .aload_n 0)],
  [(96, .iconst 1), (97, .putfield 136), (100, .iload_n 2), (101, .bipush 60), (103, .if_icmp .ne 25), (106, .aload_n 0), (107, .getfield 139), (110, .ifCond .ge 14)],
  [(113, .aload_n 0), (114, .getfield 66), (117, .iload_n 1), (118, .iaload), (119, .bipush 16), (121, .if_icmp .ge 7), (124, .iconst 1), (125, .goto 4)],
  [(128, .iconst 0), (129, .ireturn), (130, .iload_n 2), (131, .bipush 47), (133, .if_icmp .eq 22), (136, .iload_n 3), (137, .ifCond .eq 16), (140, .aload_n 0), (141, .iload_n 1), (142, .iload_n 2), (143, .invokevirtual 146)],
  [(146, .ifCond .eq 7), (149, .iconst 1), (150, .goto 4), (153, .iconst 0), (154, .ireturn), (155, .aload_n 0), (156, .bipush 9), (158, .putfield 136)],
  [(161, .aload_n 0), (162, .iconst 0), (163, .putfield 149), (166, .aload_n 0), (167, .getfield 139), (170, .ifCond .lt 7), (173, .iconst 1), (174, .goto 4)],
  [(177, .iconst 0), (178, .ireturn), (179, .iload_n 3), (180, .ifCond .ne 11), (183, .aload_n 0), (184, .iload_n 2), (185, .iload 4), (187, .invokevirtual 152), (190, .ireturn), (191, .aload_n 0)],
  [(192, .getfield 149), (195, .bipush 8), (197, .if_icmp .ne 5), (200, .iconst 0), (201, .ireturn), (202, .aload_n 0), (203, .getfield 72), (206, .aload_n 0), (207, .getfield 156)],
  [(210, .dup2), (211, .laload), (212, .iload_n 2), (213, .i2l), (214, .bipush 8), (216, .aload_n 0), (217, .dup), (218, .getfield 149), (221, .dup_x1), (222, .iconst 1), (223, .iadd)],
  [(224, .putfield 149), (227, .imul), (228, .lshl), (229, .lor), (230, .lastore), (231, .iconst 1), (232, .ireturn), (233, .iload_n 3), (234, .ifCond .eq 11), (237, .aload_n 0), (238, .iload_n 2), (239, .invokevirtual 159)],
  [(242, .goto 10), (245, .aload_n 0), (246, .iload_n 2), (247, .iload 4), (249, .invokevirtual 152), (252, .ireturn), (253, .aload_n 0), (254, .iload_n 2), (255, .iload_n 3)],
  [(256, .invokevirtual 162), (259, .ireturn), (260, .aload_n 0), (261, .bipush 6), (263, .putfield 136), (266, .aload_n 0), (267, .iconst 0), (268, .putfield 149), (271, .iload_n 2)],
  [(272, .bipush 34), (274, .if_icmp .ne 7), (277, .iconst 1), (278, .goto 4), (281, .iconst 0), (282, .ireturn), (283, .iload_n 2), (284, .bipush 34), (286, .if_icmp .ne 11)],
  [(289, .aload_n 0), (290, .bipush 7), (292, .putfield 136), (295, .iconst 1), (296, .ireturn), (297, .aload_n 0), (298, .getfield 149), (301, .bipush 8), (303, .if_icmp .eq 10)],
  [(306, .iload_n 2), (307, .invokestatic 124), (310, .ifCond .ne 5), (313, .iconst 0), (314, .ireturn), (315, .aload_n 0), (316, .getfield 78), (319, .iconst 4)],
  [(320, .aload_n 0), (321, .getfield 156), (324, .imul), (325, .aload_n 0), (326, .getfield 87), (329, .aload_n 0), (330, .getfield 156), (333, .iaload), (334, .iadd), (335, .iconst 1)],
  [(336, .isub), (337, .dup2), (338, .laload), (339, .iload_n 2), (340, .i2l), (341, .bipush 8), (343, .aload_n 0), (344, .dup), (345, .getfield 149), (348, .dup_x1), (349, .iconst 1), (350, .iadd), (351, .putfield 149)],
  [(354, .imul), (355, .lshl), (356, .lor), (357, .lastore), (358, .iconst 1), (359, .ireturn), (360, .aload_n 0), (361, .iload_n 2), (362, .iload 4), (364, .invokevirtual 152), (367, .ireturn)],
  [(368, .aload_n 0), (369, .iconst 0), (370, .putfield 136), (373, .aload_n 0), (374, .aload_n 0), (375, .getfield 81), (378, .aload_n 0), (379, .getfield 156), (382, .iaload), (383, .putfield 139)],
  [(386, .iload_n 2), (387, .bipush 62), (389, .if_icmp .ne 7), (392, .iconst 1), (393, .goto 4), (396, .iconst 0), (397, .ireturn), (398, .iload_n 2), (399, .aload_n 0)],
  [(400, .getfield 72), (403, .aload_n 0), (404, .getfield 139), (407, .laload), (408, .aload_n 0), (409, .getfield 149), (412, .invokestatic 120), (415, .if_icmp .eq 5)],
  [(418, .iconst 0), (419, .ireturn), (420, .aload_n 0), (421, .dup), (422, .getfield 149), (425, .iconst 1), (426, .iadd), (427, .putfield 149), (430, .aload_n 0), (431, .getfield 149)],
  [(434, .bipush 8), (436, .if_icmp .eq 22), (439, .aload_n 0), (440, .getfield 72), (443, .aload_n 0), (444, .getfield 139), (447, .laload)],
  [(448, .aload_n 0), (449, .getfield 149), (452, .invokestatic 120), (455, .ifCond .ne 9), (458, .aload_n 0), (459, .bipush 10), (461, .putfield 136)],
  [(464, .iconst 1), (465, .ireturn), (466, .iload 4), (468, .ifCond .eq 5), (471, .iconst 1), (472, .ireturn), (473, .aload_n 0), (474, .iconst 0), (475, .putfield 136), (478, .aload_n 0), (479, .aload_n 0)],
  [(480, .getfield 81), (483, .aload_n 0), (484, .getfield 139), (487, .iaload), (488, .putfield 139), (491, .iload_n 2), (492, .bipush 62), (494, .if_icmp .ne 7)],
  [(497, .iconst 1), (498, .goto 4), (501, .iconst 0), (502, .ireturn)]]
def mx_ct129 : List (List (Nat × Jvm.ClassFile.Instr)) := [[(0, .aload_n 0), (1, .getfield 139), (4, .ifCond .ge 7), (7, .iconst 1), (8, .goto 14), (11, .aload_n 0), (12, .getfield 84), (15, .aload_n 0)],
  [(16, .getfield 139), (19, .iaload), (20, .iconst 1), (21, .iadd), (22, .istore_n 3), (23, .aload_n 0), (24, .getfield 66), (27, .iload_n 1), (28, .iaload), (29, .bipush 16), (31, .if_icmp .eq 8)],
  [(34, .iload_n 3), (35, .iconst 4), (36, .if_icmp .le 5), (39, .iconst 0), (40, .ireturn), (41, .aload_n 0), (42, .bipush 16), (44, .iload_n 1), (45, .imul), (46, .aload_n 0), (47, .getfield 66)],
  [(50, .iload_n 1), (51, .dup2), (52, .iaload), (53, .dup_x2), (54, .iconst 1), (55, .iadd), (56, .iastore), (57, .iadd), (58, .putfield 156), (61, .aload_n 0), (62, .getfield 72)],
  [(65, .aload_n 0), (66, .getfield 156), (69, .iload_n 2), (70, .i2l), (71, .lastore), (72, .aload_n 0), (73, .getfield 81), (76, .aload_n 0), (77, .getfield 156)],
  [(80, .aload_n 0), (81, .getfield 139), (84, .iastore), (85, .aload_n 0), (86, .getfield 84), (89, .aload_n 0), (90, .getfield 156), (93, .iload_n 3), (94, .iastore), (95, .aload_n 0)],
  [(96, .getfield 87), (99, .aload_n 0), (100, .getfield 156), (103, .iconst 0), (104, .iastore), (105, .aload_n 0), (106, .iconst 1), (107, .putfield 149), (110, .aload_n 0), (111, .iconst 2)],
  [(112, .putfield 136), (115, .iconst 1), (116, .ireturn)]]
def mx_ct130 : List (List (Nat × Jvm.ClassFile.Instr)) := [[(0, .aload_n 0), (1, .iload_n 2), (2, .ifCond .eq 7), (5, .iconst 3), (6, .goto 15), (9, .iload_n 1), (10, .bipush 47), (12, .if_icmp .ne 8), (15, .bipush 8)],
  [(17, .goto 4), (20, .iconst 0), (21, .putfield 136), (24, .iload_n 1), (25, .bipush 62), (27, .if_icmp .ne 11), (30, .aload_n 0), (31, .aload_n 0)],
  [(32, .getfield 156), (35, .putfield 139), (38, .iload_n 2), (39, .ifCond .ne 15), (42, .iload_n 1), (43, .bipush 47), (45, .if_icmp .eq 9)],
  [(48, .iload_n 1), (49, .bipush 62), (51, .if_icmp .ne 7), (54, .iconst 1), (55, .goto 4), (58, .iconst 0), (59, .ireturn)]]
def mx_ct131 : List (List (Nat × Jvm.ClassFile.Instr)) := [[(0, .aload_n 0), (1, .getfield 87), (4, .aload_n 0), (5, .getfield 156), (8, .iaload), (9, .iconst 4), (10, .if_icmp .ne 5), (13, .iconst 0), (14, .ireturn), (15, .iconst 4)],
  [(16, .aload_n 0), (17, .getfield 156), (20, .imul), (21, .aload_n 0), (22, .getfield 87), (25, .aload_n 0), (26, .getfield 156), (29, .dup2), (30, .iaload), (31, .dup_x2)],
  [(32, .iconst 1), (33, .iadd), (34, .iastore), (35, .iadd), (36, .istore_n 2), (37, .aload_n 0), (38, .getfield 75), (41, .iload_n 2), (42, .lconst 0), (43, .lastore), (44, .aload_n 0), (45, .getfield 78)],
  [(48, .iload_n 2), (49, .lconst 0), (50, .lastore), (51, .aload_n 0), (52, .iconst 0), (53, .putfield 149), (56, .aload_n 0), (57, .iconst 4), (58, .putfield 136), (61, .aload_n 0), (62, .iload_n 1), (63, .iconst 1)],
  [(64, .invokevirtual 162), (67, .ireturn)]]
def mx_ct132 : List (List (Nat × Jvm.ClassFile.Instr)) := [[(0, .iconst 4), (1, .aload_n 0), (2, .getfield 156), (5, .imul), (6, .aload_n 0), (7, .getfield 87), (10, .aload_n 0), (11, .getfield 156), (14, .iaload), (15, .iadd)],
  [(16, .iconst 1), (17, .isub), (18, .istore_n 3), (19, .aload_n 0), (20, .getfield 87), (23, .aload_n 0), (24, .getfield 156), (27, .dup2), (28, .iaload), (29, .iconst 1), (30, .isub), (31, .iastore)],
  [(32, .iload_n 2), (33, .ifCond .eq 20), (36, .aload_n 0), (37, .getfield 149), (40, .bipush 8), (42, .if_icmp .ge 7), (45, .iconst 1), (46, .goto 35)],
  [(49, .iconst 0), (50, .goto 31), (53, .iload_n 1), (54, .bipush 61), (56, .if_icmp .ne 24), (59, .aload_n 0), (60, .aload_n 0), (61, .getfield 156)],
  [(64, .aload_n 0), (65, .getfield 75), (68, .iload_n 3), (69, .laload), (70, .invokevirtual 165), (73, .ifCond .ne 7), (76, .iconst 1), (77, .goto 4)],
  [(80, .iconst 0), (81, .istore 4), (83, .iload_n 2), (84, .ifCond .eq 67), (87, .iload 4), (89, .ifCond .eq 62), (92, .aload_n 0), (93, .getfield 75)],
  [(96, .iload_n 3), (97, .dup2), (98, .laload), (99, .iload_n 1), (100, .i2l), (101, .bipush 8), (103, .aload_n 0), (104, .dup), (105, .getfield 149), (108, .dup_x1), (109, .iconst 1), (110, .iadd), (111, .putfield 149)],
  [(114, .imul), (115, .lshl), (116, .lor), (117, .lastore), (118, .aload_n 0), (119, .getfield 149), (122, .bipush 8), (124, .if_icmp .lt 20), (127, .aload_n 0)],
  [(128, .aload_n 0), (129, .getfield 156), (132, .aload_n 0), (133, .getfield 75), (136, .iload_n 3), (137, .laload), (138, .invokevirtual 165), (141, .ifCond .ne 7)],
  [(144, .iconst 1), (145, .goto 4), (148, .iconst 0), (149, .istore 4), (151, .aload_n 0), (152, .getfield 87), (155, .aload_n 0), (156, .getfield 156), (159, .dup2)],
  [(160, .iaload), (161, .iconst 1), (162, .iadd), (163, .iastore), (164, .iload_n 2), (165, .ifCond .ne 8), (168, .aload_n 0), (169, .iconst 5), (170, .putfield 136), (173, .iload 4), (175, .ireturn)]]
def mx_ct133 : List (List (Nat × Jvm.ClassFile.Instr)) := [[(0, .iconst 0), (1, .istore 4), (3, .iload 4), (5, .aload_n 0), (6, .getfield 87), (9, .iload_n 1), (10, .iaload), (11, .if_icmp .ge 27), (14, .aload_n 0), (15, .getfield 75)],
  [(18, .iconst 4), (19, .iload_n 1), (20, .imul), (21, .iload 4), (23, .iadd), (24, .laload), (25, .lload_n 2), (26, .lcmp), (27, .ifCond .ne 5), (30, .iconst 1), (31, .ireturn)],
  [(32, .iinc 4 1), (35, .goto (-32)), (38, .iconst 0), (39, .ireturn)]]
def mx_ct134 : List (List (Nat × Jvm.ClassFile.Instr)) := [[(0, .aload_n 0), (1, .getfield 210), (4, .istore_n 1), (5, .aload_n 0), (6, .invokevirtual 213), (9, .iconst 0), (10, .istore_n 2), (11, .iload_n 2), (12, .sipush 128), (15, .if_icmp .ge 28)],
  [(18, .aload_n 0), (19, .getfield 93), (22, .iload_n 2), (23, .aload_n 0), (24, .getfield 90), (27, .iload_n 2), (28, .baload), (29, .bastore), (30, .aload_n 0), (31, .getfield 90)],
  [(34, .iload_n 2), (35, .iconst 0), (36, .bastore), (37, .iinc 2 1), (40, .goto (-29)), (43, .iconst 0), (44, .istore_n 2), (45, .iload_n 2), (46, .sipush 128)],
  [(49, .if_icmp .ge 20), (52, .aload_n 0), (53, .getfield 90), (56, .iload_n 2), (57, .aload_n 0), (58, .iload_n 2), (59, .invokevirtual 216), (62, .bastore), (63, .iinc 2 1)],
  [(66, .goto (-21)), (69, .iconst 0), (70, .istore_n 2), (71, .iload_n 2), (72, .sipush 128), (75, .if_icmp .ge 32), (78, .aload_n 0), (79, .getfield 93)],
  [(82, .iload_n 2), (83, .baload), (84, .ifCond .eq 17), (87, .aload_n 0), (88, .getfield 90), (91, .iload_n 2), (92, .baload), (93, .ifCond .ne 8)],
  [(96, .aload_n 0), (97, .iload_n 2), (98, .invokevirtual 219), (101, .iinc 2 1), (104, .goto (-33)), (107, .iconst 0), (108, .istore_n 2), (109, .iload_n 2), (110, .sipush 128)],
  [(113, .if_icmp .ge 36), (116, .aload_n 0), (117, .getfield 93), (120, .iload_n 2), (121, .baload), (122, .ifCond .ne 21), (125, .aload_n 0), (126, .getfield 90)],
  [(129, .iload_n 2), (130, .baload), (131, .ifCond .eq 12), (134, .aload_n 0), (135, .sipush 128), (138, .iload_n 2), (139, .iadd), (140, .invokevirtual 219), (143, .iinc 2 1)],
  [(146, .goto (-37)), (149, .aload_n 0), (150, .getfield 210), (153, .iload_n 1), (154, .isub), (155, .ireturn)]]
def mx_ct135 : List (List (Nat × Jvm.ClassFile.Instr)) := [[(0, .iconst 0), (1, .istore_n 1), (2, .iload_n 1), (3, .bipush 8), (5, .if_icmp .ge 21), (8, .aload_n 0), (9, .getfield 45), (12, .iload_n 1), (13, .aload_n 0), (14, .getfield 41)],
  [(17, .iload_n 1), (18, .baload), (19, .bastore), (20, .iinc 1 1), (23, .goto (-21)), (26, .iconst 0), (27, .istore_n 1), (28, .iload_n 1), (29, .bipush 8), (31, .if_icmp .ge 47)],
  [(34, .iconst 0), (35, .istore_n 2), (36, .iload_n 2), (37, .bipush 8), (39, .if_icmp .ge 33), (42, .aload_n 0), (43, .getfield 45), (46, .iload_n 2), (47, .baload)],
  [(48, .ifCond .eq 18), (51, .aload_n 0), (52, .iload_n 2), (53, .invokevirtual 172), (56, .ifCond .le 10), (59, .aload_n 0), (60, .getfield 45), (63, .iload_n 2)],
  [(64, .iconst 0), (65, .bastore), (66, .iinc 2 1), (69, .goto (-33)), (72, .iinc 1 1), (75, .goto (-47)), (78, .return_)]]
def mx_ct136 : List (List (Nat × Jvm.ClassFile.Instr)) := [[(0, .iconst 0), (1, .istore_n 2), (2, .iload_n 2), (3, .aload_n 0), (4, .getfield 13), (7, .iload_n 1), (8, .iaload), (9, .if_icmp .ge 22), (12, .aload_n 0), (13, .iload_n 1), (14, .iload_n 2), (15, .invokevirtual 169)],
  [(18, .ifCond .ne 7), (21, .iload_n 2), (22, .iconst 1), (23, .iadd), (24, .ireturn), (25, .iinc 2 1), (28, .goto (-26)), (31, .iconst 0)],
  [(32, .ireturn)]]
def mx_ct137 : List (List (Nat × Jvm.ClassFile.Instr)) := [[(0, .aload_n 0), (1, .getfield 16), (4, .iconst 3), (5, .iload_n 1), (6, .imul), (7, .iload_n 2), (8, .iadd), (9, .iaload), (10, .istore_n 3), (11, .aload_n 0), (12, .getfield 45), (15, .iload_n 3)],
  [(16, .baload), (17, .ifCond .eq 39), (20, .aload_n 0), (21, .getfield 54), (24, .iload_n 3), (25, .iaload), (26, .aload_n 0), (27, .getfield 19), (30, .iconst 3), (31, .iload_n 1)],
  [(32, .imul), (33, .iload_n 2), (34, .iadd), (35, .iaload), (36, .aload_n 0), (37, .getfield 22), (40, .iconst 3), (41, .iload_n 1), (42, .imul), (43, .iload_n 2), (44, .iadd), (45, .iaload), (46, .invokestatic 116)],
  [(49, .ifCond .eq 7), (52, .iconst 1), (53, .goto 4), (56, .iconst 0), (57, .ireturn)]]
def mx_ct138 : List (List (Nat × Jvm.ClassFile.Instr)) := [[(0, .aload_n 0), (1, .iload_n 1), (2, .ldc2_w 201), (5, .invokevirtual 183), (8, .ifCond .eq 18), (11, .aload_n 0), (12, .aload_n 0), (13, .iload_n 1), (14, .ldc2_w 181)],
  [(17, .invokevirtual 188), (20, .invokevirtual 203), (23, .goto 4), (26, .iconst (-1)), (27, .istore_n 2), (28, .iload_n 2), (29, .ifCond .ge 5)],
  [(32, .iconst 0), (33, .ireturn), (34, .iconst 0), (35, .istore_n 3), (36, .iload_n 2), (37, .iconst 1), (38, .iadd), (39, .istore 4), (41, .aload_n 0), (42, .iload 4), (44, .invokevirtual 178), (47, .ifCond .eq 31)],
  [(50, .iload 4), (52, .bipush 16), (54, .idiv), (55, .iload_n 2), (56, .bipush 16), (58, .idiv), (59, .if_icmp .ne 19), (62, .iload_n 3), (63, .aload_n 0)],
  [(64, .iload 4), (66, .iload_n 2), (67, .invokevirtual 196), (70, .ior), (71, .istore_n 3), (72, .iinc 4 1), (75, .goto (-34)), (78, .iload_n 1), (79, .iconst 1)],
  [(80, .iadd), (81, .istore 4), (83, .aload_n 0), (84, .iload 4), (86, .invokevirtual 178), (89, .ifCond .eq 48), (92, .iload 4), (94, .bipush 16)],
  [(96, .idiv), (97, .iload_n 1), (98, .bipush 16), (100, .idiv), (101, .if_icmp .ne 36), (104, .iload_n 3), (105, .ifCond .eq 32), (108, .aload_n 0), (109, .getfield 81)],
  [(112, .iload 4), (114, .iaload), (115, .iload_n 1), (116, .if_icmp .ne 15), (119, .aload_n 0), (120, .iload 4), (122, .iload_n 2), (123, .invokevirtual 207), (126, .ifCond .ne 5)],
  [(129, .iconst 0), (130, .ireturn), (131, .iinc 4 1), (134, .goto (-51)), (137, .iconst 1), (138, .ireturn)]]
def mx_ct139 : List (List (Nat × Jvm.ClassFile.Instr)) := [[(0, .aload_n 0), (1, .iload_n 1), (2, .invokevirtual 178), (5, .ifCond .eq 40), (8, .aload_n 0), (9, .getfield 45), (12, .iload_n 1), (13, .bipush 16), (15, .idiv)],
  [(16, .baload), (17, .ifCond .eq 28), (20, .aload_n 0), (21, .getfield 84), (24, .iload_n 1), (25, .iaload), (26, .iconst 1), (27, .if_icmp .ne 18), (30, .aload_n 0), (31, .getfield 72)],
  [(34, .iload_n 1), (35, .laload), (36, .lload_n 2), (37, .lcmp), (38, .ifCond .ne 7), (41, .iconst 1), (42, .goto 4), (45, .iconst 0), (46, .ireturn)]]
def mx_ct140 : List (List (Nat × Jvm.ClassFile.Instr)) := [[(0, .iload_n 1), (1, .iconst 0), (2, .bipush 127), (4, .invokestatic 116), (7, .ifCond .eq 35), (10, .aload_n 0), (11, .getfield 41), (14, .iload_n 1), (15, .bipush 16)],
  [(17, .idiv), (18, .baload), (19, .ifCond .eq 23), (22, .iload_n 1), (23, .bipush 16), (25, .irem), (26, .aload_n 0), (27, .getfield 66), (30, .iload_n 1), (31, .bipush 16)],
  [(33, .idiv), (34, .iaload), (35, .if_icmp .ge 7), (38, .iconst 1), (39, .goto 4), (42, .iconst 0), (43, .ireturn)]]
def mx_ct141 : List (List (Nat × Jvm.ClassFile.Instr)) := [[(0, .iconst 0), (1, .istore 4), (3, .iload 4), (5, .aload_n 0), (6, .getfield 87), (9, .iload_n 1), (10, .iaload), (11, .if_icmp .ge 37), (14, .aload_n 0), (15, .getfield 75)],
  [(18, .iconst 4), (19, .iload_n 1), (20, .imul), (21, .iload 4), (23, .iadd), (24, .laload), (25, .lload_n 2), (26, .lcmp), (27, .ifCond .ne 15), (30, .aload_n 0), (31, .getfield 78)],
  [(34, .iconst 4), (35, .iload_n 1), (36, .imul), (37, .iload 4), (39, .iadd), (40, .laload), (41, .lreturn), (42, .iinc 4 1), (45, .goto (-42))],
  [(48, .ldc2_w 176), (51, .lreturn)]]
def mx_ct142 : List (List (Nat × Jvm.ClassFile.Instr)) := [[(0, .iconst 0), (1, .istore_n 3), (2, .iload_n 3), (3, .sipush 128), (6, .if_icmp .ge 41), (9, .lload_n 1), (10, .lconst 0), (11, .lcmp), (12, .ifCond .le 29), (15, .aload_n 0)],
  [(16, .iload_n 3), (17, .ldc2_w 181), (20, .invokevirtual 183), (23, .ifCond .eq 18), (26, .aload_n 0), (27, .iload_n 3), (28, .ldc2_w 186), (31, .invokevirtual 188)],
  [(34, .lload_n 1), (35, .lcmp), (36, .ifCond .ne 5), (39, .iload_n 3), (40, .ireturn), (41, .iinc 3 1), (44, .goto (-42)), (47, .iconst (-1))],
  [(48, .ireturn)]]
def mx_ct143 : List (List (Nat × Jvm.ClassFile.Instr)) := [[(0, .aload_n 0), (1, .getfield 81), (4, .iload_n 1), (5, .iaload), (6, .iload_n 2), (7, .if_icmp .ne 33), (10, .aload_n 0), (11, .getfield 72), (14, .iload_n 1), (15, .laload)],
  [(16, .ldc2_w 192), (19, .lcmp), (20, .ifCond .ne 20), (23, .aload_n 0), (24, .iload_n 1), (25, .ldc2_w 194), (28, .invokevirtual 188), (31, .lconst 0)],
  [(32, .lcmp), (33, .ifCond .le 7), (36, .iconst 1), (37, .goto 4), (40, .iconst 0), (41, .ireturn)]]
def mx_ct144 : List (List (Nat × Jvm.ClassFile.Instr)) := [[(0, .iload_n 2), (1, .iconst 1), (2, .iadd), (3, .istore_n 3), (4, .aload_n 0), (5, .iload_n 3), (6, .invokevirtual 178), (9, .ifCond .eq 47), (12, .iload_n 3), (13, .bipush 16), (15, .idiv)],
  [(16, .iload_n 2), (17, .bipush 16), (19, .idiv), (20, .if_icmp .ne 36), (23, .aload_n 0), (24, .iload_n 3), (25, .iload_n 2), (26, .invokevirtual 196), (29, .ifCond .eq 21)],
  [(32, .aload_n 0), (33, .iload_n 3), (34, .ldc2_w 194), (37, .invokevirtual 188), (40, .aload_n 0), (41, .getfield 72), (44, .iload_n 1), (45, .laload), (46, .lcmp), (47, .ifCond .eq 9)],
  [(50, .iinc 3 1), (53, .goto (-49)), (56, .aload_n 0), (57, .iload_n 3), (58, .invokevirtual 178), (61, .ifCond .eq 14)],
  [(64, .iload_n 3), (65, .bipush 16), (67, .idiv), (68, .iload_n 2), (69, .bipush 16), (71, .idiv), (72, .if_icmp .eq 5), (75, .iconst 0), (76, .ireturn), (77, .aload_n 0), (78, .iload_n 3), (79, .ldc2_w 199)],
  [(82, .invokevirtual 188), (85, .lstore 4), (87, .lload 4), (89, .lconst 0), (90, .lcmp), (91, .ifCond .le 15), (94, .aload_n 0), (95, .iload_n 1)],
  [(96, .lload 4), (98, .invokevirtual 188), (101, .lconst 0), (102, .lcmp), (103, .ifCond .lt 7), (106, .iconst 1), (107, .goto 4), (110, .iconst 0), (111, .ireturn)]]
def mx_ct145 : List (List (Nat × Jvm.ClassFile.Instr)) := [[(0, .bipush 31), (2, .istore_n 2), (3, .iload_n 2), (4, .ifCond .le 23), (7, .aload_n 0), (8, .getfield 105), (11, .iload_n 2), (12, .aload_n 0), (13, .getfield 105)],
  [(16, .iload_n 2), (17, .iconst 1), (18, .isub), (19, .iaload), (20, .iastore), (21, .iinc 2 (-1)), (24, .goto (-21)), (27, .aload_n 0), (28, .getfield 105), (31, .iconst 0)],
  [(32, .iload_n 1), (33, .iastore), (34, .aload_n 0), (35, .dup), (36, .getfield 210), (39, .iconst 1), (40, .iadd), (41, .putfield 210), (44, .iload_n 1), (45, .sipush 128)],
  [(48, .if_icmp .lt 4), (51, .return_), (52, .iconst 0), (53, .istore_n 2), (54, .iload_n 2), (55, .aload_n 0), (56, .getfield 223), (59, .if_icmp .ge 26), (62, .aload_n 0), (63, .getfield 102)],
  [(66, .iload_n 2), (67, .iaload), (68, .iload_n 1), (69, .if_icmp .ne 10), (72, .aload_n 0), (73, .getfield 111), (76, .iload_n 2), (77, .iconst 1), (78, .bastore), (79, .iinc 2 1)],
  [(82, .goto (-28)), (85, .return_)]]
def mx_ct146 : List (List (Nat × Jvm.ClassFile.Instr)) := [[(0, .iload_n 1), (1, .iconst 0), (2, .bipush 7), (4, .invokestatic 116), (7, .ifCond .eq 12), (10, .aload_n 0), (11, .getfield 41), (14, .iload_n 1), (15, .baload)],
  [(16, .ifCond .ne 5), (19, .iconst (-1)), (20, .ireturn), (21, .aload_n 0), (22, .getfield 48), (25, .iload_n 1), (26, .baload), (27, .ifCond .eq 8), (30, .aload_n 0), (31, .iload_n 1)],
  [(32, .invokevirtual 239), (35, .aload_n 0), (36, .getfield 41), (39, .iload_n 1), (40, .iconst 0), (41, .bastore), (42, .aload_n 0), (43, .invokevirtual 233), (46, .istore_n 2), (47, .iconst 0)],
  [(48, .istore_n 3), (49, .iload_n 3), (50, .bipush 8), (52, .if_icmp .ge 32), (55, .aload_n 0), (56, .getfield 48), (59, .iload_n 3), (60, .baload), (61, .ifCond .eq 17)],
  [(64, .aload_n 0), (65, .getfield 45), (68, .iload_n 3), (69, .baload), (70, .ifCond .ne 8), (73, .aload_n 0), (74, .iload_n 3), (75, .invokevirtual 239), (78, .iinc 3 1)],
  [(81, .goto (-32)), (84, .iload_n 2), (85, .ireturn)]]
def mx_ct147 : List (List (Nat × Jvm.ClassFile.Instr)) := [[(0, .aload_n 0), (1, .getfield 48), (4, .iload_n 1), (5, .iconst 0), (6, .bastore), (7, .bipush 15), (9, .istore_n 2), (10, .iload_n 2), (11, .ifCond .le 23), (14, .aload_n 0), (15, .getfield 108)],
  [(18, .iload_n 2), (19, .aload_n 0), (20, .getfield 108), (23, .iload_n 2), (24, .iconst 1), (25, .isub), (26, .iaload), (27, .iastore), (28, .iinc 2 (-1)), (31, .goto (-21))],
  [(34, .aload_n 0), (35, .getfield 108), (38, .iconst 0), (39, .iload_n 1), (40, .iastore), (41, .aload_n 0), (42, .dup), (43, .getfield 236), (46, .iconst 1), (47, .iadd)],
  [(48, .putfield 236), (51, .return_)]]
def mx_ct148 : List (List (Nat × Jvm.ClassFile.Instr)) := [[(0, .iconst 0), (1, .istore_n 1), (2, .aload_n 0), (3, .invokevirtual 242), (6, .istore_n 2), (7, .iload_n 2), (8, .ifCond .lt 19), (11, .aload_n 0), (12, .iload_n 2), (13, .invokevirtual 239)],
  [(16, .iinc 1 1), (19, .aload_n 0), (20, .invokevirtual 242), (23, .istore_n 2), (24, .goto (-17)), (27, .iload_n 1), (28, .ireturn)]]
def mx_ct149 : List (List (Nat × Jvm.ClassFile.Instr)) := [[(0, .iconst (-1)), (1, .istore_n 1), (2, .iconst (-1)), (3, .istore_n 2), (4, .iconst 0), (5, .istore_n 3), (6, .iload_n 3), (7, .bipush 8), (9, .if_icmp .ge 112), (12, .aload_n 0), (13, .getfield 48)],
  [(16, .iload_n 3), (17, .baload), (18, .ifCond .ne 6), (21, .goto 94), (24, .iload_n 3), (25, .istore_n 1), (26, .iconst 0), (27, .istore 4), (29, .iconst 0), (30, .istore 5)],
  [(32, .iload 5), (34, .bipush 8), (36, .if_icmp .ge 72), (39, .iconst 0), (40, .istore 6), (42, .iload 6), (44, .aload_n 0), (45, .getfield 13)],
  [(48, .iload 5), (50, .iaload), (51, .if_icmp .ge 51), (54, .aload_n 0), (55, .getfield 48), (58, .iload 5), (60, .baload), (61, .ifCond .eq 41)],
  [(64, .iload 4), (66, .iload 5), (68, .iload_n 3), (69, .if_icmp .eq 23), (72, .aload_n 0), (73, .getfield 16), (76, .iconst 3), (77, .iload 5), (79, .imul)],
  [(80, .iload 6), (82, .iadd), (83, .iaload), (84, .iload_n 3), (85, .if_icmp .ne 7), (88, .iconst 1), (89, .goto 4), (92, .iconst 0), (93, .ior), (94, .istore 4)],
  [(96, .iinc 6 1), (99, .goto (-57)), (102, .iinc 5 1), (105, .goto (-73)), (108, .iload 4), (110, .ifCond .ne 5)],
  [(113, .iload_n 3), (114, .istore_n 2), (115, .iinc 3 1), (118, .goto (-112)), (121, .iload_n 2), (122, .ifCond .lt 7), (125, .iload_n 2), (126, .goto 4)],
  [(129, .iload_n 1), (130, .ireturn)]]
def mx_ct150 : List (List (Nat × Jvm.ClassFile.Instr)) := [[(0, .aload_n 0), (1, .iload_n 1), (2, .invokevirtual 178), (5, .ifCond .eq 16), (8, .aload_n 0), (9, .getfield 90), (12, .aload_n 0), (13, .iload_n 1), (14, .invokevirtual 249)],
  [(17, .baload), (18, .ifCond .ne 5), (21, .iconst (-1)), (22, .ireturn), (23, .aload_n 0), (24, .iload_n 1), (25, .lload_n 2), (26, .invokevirtual 188), (29, .lstore 4), (31, .lload 4)],
  [(33, .lconst 0), (34, .lcmp), (35, .ifCond .gt 6), (38, .bipush (-4)), (40, .ireturn), (41, .aload_n 0), (42, .iload_n 1), (43, .bipush 16), (45, .idiv), (46, .lload 4)],
  [(48, .invokevirtual 245), (51, .istore 6), (53, .iload 6), (55, .ifCond .ge 6), (58, .bipush (-5)), (60, .ireturn), (61, .aload_n 0), (62, .iload 6)],
  [(64, .invokevirtual 252), (67, .istore 7), (69, .iload 7), (71, .ifCond .ne 6), (74, .bipush (-6)), (76, .ireturn), (77, .aload_n 0), (78, .getfield 28)],
  [(81, .iload 6), (83, .iaload), (84, .iconst 3), (85, .iand), (86, .istore 8), (88, .iload 8), (90, .ifCond .le 17), (93, .iload 8), (95, .iconst 1)],
  [(96, .if_icmp .ne 8), (99, .bipush (-7)), (101, .goto 5), (104, .bipush (-8)), (106, .ireturn), (107, .aload_n 0), (108, .getfield 223), (111, .bipush 24)],
  [(113, .if_icmp .ne 6), (116, .bipush (-2)), (118, .ireturn), (119, .aload_n 0), (120, .getfield 96), (123, .aload_n 0), (124, .getfield 223), (127, .iload_n 1)],
  [(128, .iastore), (129, .aload_n 0), (130, .getfield 102), (133, .aload_n 0), (134, .getfield 223), (137, .aload_n 0), (138, .iload_n 1), (139, .invokevirtual 249), (142, .iastore), (143, .aload_n 0)],
  [(144, .getfield 99), (147, .aload_n 0), (148, .getfield 223), (151, .iload 6), (153, .iconst 4), (154, .idiv), (155, .iastore), (156, .aload_n 0), (157, .getfield 111)],
  [(160, .aload_n 0), (161, .getfield 223), (164, .iconst 0), (165, .bastore), (166, .aload_n 0), (167, .dup), (168, .getfield 223), (171, .dup_x1), (172, .iconst 1), (173, .iadd), (174, .putfield 223)],
  [(177, .ireturn)]]
def mx_ct151 : List (List (Nat × Jvm.ClassFile.Instr)) := [[(0, .iload_n 1), (1, .istore_n 2), (2, .aload_n 0), (3, .getfield 81), (6, .iload_n 2), (7, .iaload), (8, .ifCond .lt 13), (11, .aload_n 0), (12, .getfield 81), (15, .iload_n 2)],
  [(16, .iaload), (17, .istore_n 2), (18, .goto (-16)), (21, .iload_n 2), (22, .ireturn)]]
def mx_ct152 : List (List (Nat × Jvm.ClassFile.Instr)) := [[(0, .iconst 0), (1, .istore 4), (3, .iload 4), (5, .aload_n 0), (6, .getfield 13), (9, .iload_n 1), (10, .iaload), (11, .if_icmp .gt 93), (14, .iload 4)],
  [(16, .aload_n 0), (17, .getfield 13), (20, .iload_n 1), (21, .iaload), (22, .if_icmp .ge 17), (25, .aload_n 0), (26, .getfield 16), (29, .iconst 3), (30, .iload_n 1), (31, .imul)],
  [(32, .iload 4), (34, .iadd), (35, .iaload), (36, .goto 4), (39, .iload_n 1), (40, .istore 5), (42, .iconst 0), (43, .istore 6), (45, .iload 6), (47, .aload_n 0)],
  [(48, .getfield 25), (51, .iload 5), (53, .iaload), (54, .if_icmp .ge 44), (57, .aload_n 0), (58, .getfield 41), (61, .iload 5), (63, .baload)],
  [(64, .ifCond .eq 34), (67, .aload_n 0), (68, .getfield 34), (71, .iconst 4), (72, .iload 5), (74, .imul), (75, .iload 6), (77, .iadd), (78, .laload), (79, .lload_n 2)],
  [(80, .lcmp), (81, .ifCond .ne 11), (84, .iconst 4), (85, .iload 5), (87, .imul), (88, .iload 6), (90, .iadd), (91, .ireturn), (92, .iinc 6 1), (95, .goto (-50))],
  [(98, .iinc 4 1), (101, .goto (-98)), (104, .iconst (-1)), (105, .ireturn)]]
def mx_ct153 : List (List (Nat × Jvm.ClassFile.Instr)) := [[(0, .iconst 0), (1, .istore_n 2), (2, .iload_n 1), (3, .istore_n 3), (4, .iconst 1), (5, .istore 4), (7, .iconst 1), (8, .istore 5), (10, .iload 5), (12, .ifCond .eq 144), (15, .iload_n 3)],
  [(16, .ifCond .ge 7), (19, .iconst 0), (20, .goto 6), (23, .iload_n 3), (24, .iconst 4), (25, .idiv), (26, .istore 6), (28, .iconst 0), (29, .istore 5), (31, .iload_n 3)],
  [(32, .ifCond .ge 9), (35, .iconst 0), (36, .istore 4), (38, .goto 115), (41, .aload_n 0), (42, .getfield 28), (45, .iload_n 3), (46, .iaload), (47, .iconst 4)],
  [(48, .if_icmp .ge 105), (51, .aload_n 0), (52, .getfield 48), (55, .iload 6), (57, .baload), (58, .ifCond .ne 95), (61, .aload_n 0), (62, .getfield 51)],
  [(65, .iload 6), (67, .baload), (68, .ifCond .ne 85), (71, .aload_n 0), (72, .getfield 51), (75, .iload 6), (77, .iconst 1), (78, .bastore), (79, .aload_n 0)],
  [(80, .getfield 63), (83, .iload 6), (85, .dup2), (86, .iaload), (87, .iconst 1), (88, .iadd), (89, .iastore), (90, .aload_n 0), (91, .getfield 69), (94, .iload_n 2), (95, .iinc 2 1)],
  [(98, .iload 6), (100, .iastore), (101, .aload_n 0), (102, .getfield 31), (105, .iload 6), (107, .iaload), (108, .ifCond .le 19), (111, .aload_n 0)],
  [(112, .getfield 38), (115, .iload 6), (117, .laload), (118, .lconst 0), (119, .lcmp), (120, .ifCond .eq 7), (123, .iconst 1), (124, .goto 4), (127, .iconst 0)],
  [(128, .istore 5), (130, .iload 5), (132, .ifCond .eq 19), (135, .aload_n 0), (136, .iload 6), (138, .aload_n 0), (139, .getfield 38), (142, .iload 6)],
  [(144, .laload), (145, .invokevirtual 245), (148, .goto 4), (151, .iconst 0), (152, .istore_n 3), (153, .goto (-143)), (156, .iload_n 2), (157, .iconst 1), (158, .isub), (159, .istore 6)],
  [(161, .iload 6), (163, .ifCond .lt 58), (166, .aload_n 0), (167, .getfield 69), (170, .iload 6), (172, .iaload), (173, .istore 7), (175, .aload_n 0)],
  [(176, .getfield 51), (179, .iload 7), (181, .iconst 0), (182, .bastore), (183, .iload 4), (185, .ifCond .eq 18), (188, .aload_n 0), (189, .getfield 31)],
  [(192, .iload 7), (194, .iaload), (195, .iconst 2), (196, .if_icmp .eq 7), (199, .iconst 1), (200, .goto 4), (203, .iconst 0), (204, .istore 4), (206, .aload_n 0), (207, .getfield 48)],
  [(210, .iload 7), (212, .iload 4), (214, .bastore), (215, .iinc 6 (-1)), (218, .goto (-57)), (221, .iload 4), (223, .ireturn)]]
def mx_ct154 : List (List (Nat × Jvm.ClassFile.Instr)) := [[(0, .iload_n 1), (1, .iconst 0), (2, .bipush 7), (4, .invokestatic 116), (7, .ifCond .eq 13), (10, .iload_n 2), (11, .iconst 0), (12, .bipush 7), (14, .invokestatic 116)],
  [(17, .ifCond .ne 5), (20, .iconst (-1)), (21, .ireturn), (22, .aload_n 0), (23, .getfield 41), (26, .iload_n 1), (27, .baload), (28, .ifCond .ne 5), (31, .iconst 0)],
  [(32, .ireturn), (33, .iload_n 2), (34, .tableswitch 120 0 6 #[42, 70, 77, 92, 99, 106, 113])],
  [],
  [(76, .aload_n 0), (77, .getfield 48)],
  [(80, .iload_n 1), (81, .baload), (82, .ifCond .eq 7), (85, .iconst 3), (86, .goto 17), (89, .aload_n 0), (90, .getfield 45), (93, .iload_n 1), (94, .baload), (95, .ifCond .eq 7)],
  [(98, .iconst 2), (99, .goto 4), (102, .iconst 1), (103, .ireturn), (104, .aload_n 0), (105, .getfield 54), (108, .iload_n 1), (109, .iaload), (110, .ireturn), (111, .aload_n 0)],
  [(112, .getfield 57), (115, .iload_n 1), (116, .iaload), (117, .ifCond .ge 7), (120, .iconst 0), (121, .goto 4), (124, .iconst 1), (125, .ireturn), (126, .aload_n 0), (127, .getfield 57)],
  [(130, .iload_n 1), (131, .iaload), (132, .ireturn), (133, .aload_n 0), (134, .getfield 60), (137, .iload_n 1), (138, .iaload), (139, .ireturn), (140, .aload_n 0), (141, .getfield 63)],
  [(144, .iload_n 1), (145, .iaload), (146, .ireturn), (147, .aload_n 0), (148, .getfield 66), (151, .iload_n 1), (152, .iaload), (153, .ireturn), (154, .aload_n 0), (155, .iload_n 1), (156, .invokevirtual 172), (159, .ireturn)]]
def mx_ct155 : List (List (Nat × Jvm.ClassFile.Instr)) := [[(0, .aload_n 0), (1, .lload_n 1), (2, .invokevirtual 203), (5, .ifCond .ge 5), (8, .iconst (-1)), (9, .ireturn), (10, .iconst 0), (11, .istore_n 3), (12, .iconst 0), (13, .istore 4), (15, .iload 4)],
  [(17, .sipush 128), (20, .if_icmp .ge 36), (23, .aload_n 0), (24, .getfield 90), (27, .iload 4), (29, .baload), (30, .ifCond .eq 20)],
  [(33, .aload_n 0), (34, .iload 4), (36, .ldc2_w 181), (39, .invokevirtual 188), (42, .lload_n 1), (43, .lcmp), (44, .ifCond .ne 6), (47, .iinc 3 1)],
  [(50, .iinc 4 1), (53, .goto (-38)), (56, .iload_n 3), (57, .ireturn)]]
def mx_ct156 : List (List (Nat × Jvm.ClassFile.Instr)) := [[(0, .iconst 0), (1, .istore 4), (3, .iconst 0), (4, .istore 5), (6, .iload 5), (8, .sipush 128), (11, .if_icmp .ge 45), (14, .aload_n 0), (15, .getfield 90)],
  [(18, .iload 5), (20, .baload), (21, .ifCond .eq 29), (24, .aload_n 0), (25, .iload 5), (27, .ldc2_w 181), (30, .invokevirtual 188)],
  [(33, .lload_n 1), (34, .lcmp), (35, .ifCond .ne 15), (38, .iload 4), (40, .iinc 4 1), (43, .iload_n 3), (44, .if_icmp .ne 6), (47, .iload 5)],
  [(49, .ireturn), (50, .iinc 5 1), (53, .goto (-47)), (56, .iconst (-1)), (57, .ireturn)]]
def mx_ct157 : List (List (Nat × Jvm.ClassFile.Instr)) := [[(0, .aload_n 0), (1, .iload_n 1), (2, .invokevirtual 178), (5, .ifCond .ne 5), (8, .iconst (-1)), (9, .ireturn), (10, .iload_n 2), (11, .tableswitch 79 0 4 #[33, 39, 46, 53, 60])],
  [],
  [(44, .aload_n 0), (45, .iload_n 1), (46, .invokevirtual 255)],
  [(49, .ireturn), (50, .aload_n 0), (51, .getfield 87), (54, .iload_n 1), (55, .iaload), (56, .ireturn), (57, .aload_n 0), (58, .getfield 81), (61, .iload_n 1), (62, .iaload), (63, .ireturn)],
  [(64, .aload_n 0), (65, .getfield 84), (68, .iload_n 1), (69, .iaload), (70, .ireturn), (71, .aload_n 0), (72, .getfield 90), (75, .aload_n 0), (76, .iload_n 1), (77, .invokevirtual 249)],
  [(80, .baload), (81, .ifCond .eq 7), (84, .iconst 1), (85, .goto 4), (88, .iconst 0), (89, .ireturn), (90, .iconst (-1)), (91, .ireturn)]]
def mx_ct158 : List (List (Nat × Jvm.ClassFile.Instr)) := [[(0, .iconst 0), (1, .istore_n 2), (2, .iload_n 1), (3, .iconst 1), (4, .iadd), (5, .istore_n 3), (6, .aload_n 0), (7, .iload_n 3), (8, .invokevirtual 178), (11, .ifCond .eq 33), (14, .iload_n 3), (15, .bipush 16)],
  [(17, .idiv), (18, .iload_n 1), (19, .bipush 16), (21, .idiv), (22, .if_icmp .ne 22), (25, .aload_n 0), (26, .getfield 81), (29, .iload_n 3), (30, .iaload), (31, .iload_n 1)],
  [(32, .if_icmp .ne 6), (35, .iinc 2 1), (38, .iinc 3 1), (41, .goto (-35)), (44, .iload_n 2), (45, .ireturn)]]
def mx_ct159 : List (List (Nat × Jvm.ClassFile.Instr)) := [[(0, .aload_n 0), (1, .iload_n 1), (2, .invokevirtual 178), (5, .ifCond .eq 12), (8, .aload_n 0), (9, .getfield 72), (12, .iload_n 1), (13, .laload), (14, .goto 4)],
  [(17, .lconst 0), (18, .lreturn)]]
def mx_ct160 : List (List (Nat × Jvm.ClassFile.Instr)) := [[(0, .iconst 0), (1, .istore_n 3), (2, .iload_n 1), (3, .iconst 1), (4, .iadd), (5, .istore 4), (7, .aload_n 0), (8, .iload_n 1), (9, .invokevirtual 178), (12, .ifCond .eq 52), (15, .aload_n 0)],
  [(16, .iload 4), (18, .invokevirtual 178), (21, .ifCond .eq 43), (24, .iload 4), (26, .bipush 16), (28, .idiv), (29, .iload_n 1), (30, .bipush 16)],
  [(32, .idiv), (33, .if_icmp .ne 31), (36, .aload_n 0), (37, .getfield 81), (40, .iload 4), (42, .iaload), (43, .iload_n 1), (44, .if_icmp .ne 14), (47, .iload_n 3)],
  [(48, .iinc 3 1), (51, .iload_n 2), (52, .if_icmp .ne 6), (55, .iload 4), (57, .ireturn), (58, .iinc 4 1), (61, .goto (-54))],
  [(64, .iconst (-1)), (65, .ireturn)]]
def mx_ct161 : List (List (Nat × Jvm.ClassFile.Instr)) := [[(0, .aload_n 0), (1, .iload_n 1), (2, .invokevirtual 178), (5, .ifCond .eq 12), (8, .aload_n 0), (9, .iload_n 1), (10, .lload_n 2), (11, .invokevirtual 188), (14, .goto 6)],
  [(17, .ldc2_w 176), (20, .lreturn)]]
def mx_ct162 : List (List (Nat × Jvm.ClassFile.Instr)) := [[(0, .iload_n 1), (1, .iconst 0), (2, .aload_n 0), (3, .getfield 223), (6, .iconst 1), (7, .isub), (8, .invokestatic 116), (11, .ifCond .ne 5), (14, .iconst (-1)), (15, .ireturn)],
  [(16, .iload_n 2), (17, .ifCond .ne 12), (20, .aload_n 0), (21, .getfield 96), (24, .iload_n 1), (25, .iaload), (26, .goto 40), (29, .iload_n 2), (30, .iconst 1), (31, .if_icmp .ne 12)],
  [(34, .aload_n 0), (35, .getfield 99), (38, .iload_n 1), (39, .iaload), (40, .goto 26), (43, .iload_n 2), (44, .iconst 2), (45, .if_icmp .ne 20)],
  [(48, .aload_n 0), (49, .getfield 111), (52, .iload_n 1), (53, .baload), (54, .ifCond .eq 7), (57, .iconst 0), (58, .goto 8), (61, .iconst 1), (62, .goto 4)],
  [(65, .iconst (-1)), (66, .ireturn)]]
def mx_ct163 : List (List (Nat × Jvm.ClassFile.Instr)) := [[(0, .iload_n 1), (1, .iconst 0), (2, .bipush 31), (4, .invokestatic 116), (7, .ifCond .eq 20), (10, .iload_n 1), (11, .aload_n 0), (12, .getfield 210), (15, .if_icmp .ge 12)],
  [(18, .aload_n 0), (19, .getfield 105), (22, .iload_n 1), (23, .iaload), (24, .goto 4), (27, .iconst (-1)), (28, .ireturn)]]
def mx_ct164 : List (List (Nat × Jvm.ClassFile.Instr)) := [[(0, .iload_n 1), (1, .iconst 0), (2, .bipush 15), (4, .invokestatic 116), (7, .ifCond .eq 20), (10, .iload_n 1), (11, .aload_n 0), (12, .getfield 236), (15, .if_icmp .ge 12)],
  [(18, .aload_n 0), (19, .getfield 108), (22, .iload_n 1), (23, .iaload), (24, .goto 4), (27, .iconst (-1)), (28, .ireturn)]]
def mx_ct165 : List (List (Nat × Jvm.ClassFile.Instr)) := [[(0, .iconst 0), (1, .istore_n 2), (2, .iload_n 1), (3, .tableswitch 281 0 9 #[53, 81, 118, 155, 184, 231, 236, 266, 271, 276])],
  [],
  [],
  [(56, .iconst 0), (57, .istore_n 3), (58, .iload_n 3), (59, .bipush 8), (61, .if_icmp .ge 21)],
  [(64, .aload_n 0), (65, .getfield 41), (68, .iload_n 3), (69, .baload), (70, .ifCond .eq 6), (73, .iinc 2 1), (76, .iinc 3 1), (79, .goto (-21))],
  [(82, .iload_n 2), (83, .ireturn), (84, .iconst 0), (85, .istore_n 3), (86, .iload_n 3), (87, .bipush 8), (89, .if_icmp .ge 30), (92, .aload_n 0), (93, .getfield 41)],
  [(96, .iload_n 3), (97, .baload), (98, .ifCond .eq 15), (101, .aload_n 0), (102, .getfield 45), (105, .iload_n 3), (106, .baload), (107, .ifCond .eq 6), (110, .iinc 2 1)],
  [(113, .iinc 3 1), (116, .goto (-30)), (119, .iload_n 2), (120, .ireturn), (121, .iconst 0), (122, .istore_n 3), (123, .iload_n 3), (124, .bipush 8), (126, .if_icmp .ge 30)],
  [(129, .aload_n 0), (130, .getfield 41), (133, .iload_n 3), (134, .baload), (135, .ifCond .eq 15), (138, .aload_n 0), (139, .getfield 48), (142, .iload_n 3), (143, .baload)],
  [(144, .ifCond .eq 6), (147, .iinc 2 1), (150, .iinc 3 1), (153, .goto (-30)), (156, .iload_n 2), (157, .ireturn), (158, .iconst 0), (159, .istore_n 3)],
  [(160, .iload_n 3), (161, .sipush 128), (164, .if_icmp .ge 21), (167, .aload_n 0), (168, .getfield 90), (171, .iload_n 3), (172, .baload), (173, .ifCond .eq 6)],
  [(176, .iinc 2 1), (179, .iinc 3 1), (182, .goto (-22)), (185, .iload_n 2), (186, .ireturn), (187, .iconst 0), (188, .istore_n 3), (189, .iload_n 3), (190, .sipush 128)],
  [(193, .if_icmp .ge 39), (196, .aload_n 0), (197, .iload_n 3), (198, .ldc2_w 181), (201, .invokevirtual 183), (204, .ifCond .eq 22), (207, .aload_n 0)],
  [(208, .aload_n 0), (209, .iload_n 3), (210, .ldc2_w 186), (213, .invokevirtual 188), (216, .invokevirtual 203), (219, .iload_n 3), (220, .if_icmp .ne 6), (223, .iinc 2 1)],
  [(226, .iinc 3 1), (229, .goto (-40)), (232, .iload_n 2), (233, .ireturn), (234, .aload_n 0), (235, .getfield 223), (238, .ireturn), (239, .iconst 0)],
  [(240, .istore_n 3), (241, .iload_n 3), (242, .aload_n 0), (243, .getfield 223), (246, .if_icmp .ge 21), (249, .aload_n 0), (250, .getfield 111), (253, .iload_n 3), (254, .baload), (255, .ifCond .ne 6)],
  [(258, .iinc 2 1), (261, .iinc 3 1), (264, .goto (-23)), (267, .iload_n 2), (268, .ireturn), (269, .aload_n 0), (270, .getfield 210)],
  [(273, .ireturn), (274, .aload_n 0), (275, .getfield 236), (278, .ireturn), (279, .aload_n 0), (280, .getfield 128), (283, .ireturn), (284, .iconst (-1)), (285, .ireturn)]]
def mx_ct166 : List (List (Nat × Jvm.ClassFile.Instr)) := [[(0, .iload_n 0), (1, .iload_n 1), (2, .irem), (3, .istore_n 2), (4, .iload_n 0), (5, .iload_n 1), (6, .ixor), (7, .ifCond .ge 11), (10, .iload_n 2), (11, .ifCond .eq 7), (14, .iload_n 2), (15, .iload_n 1)],
  [(16, .iadd), (17, .ireturn), (18, .iload_n 2), (19, .ireturn)]]
def mx_ct167 : List (List (Nat × Jvm.ClassFile.Instr)) := [[(0, .iload_n 0), (1, .iload_n 1), (2, .if_icmp .lt 7), (5, .iload_n 0), (6, .goto 4), (9, .iload_n 1), (10, .ireturn)]]
def mx_cl0 : List (Nat × Jvm.ClassFile.Instr) := [(0, .new 7), (3, .dup), (4, .invokespecial 9), (7, .astore_n 1), (8, .new 10), (11, .dup), (12, .invokespecial 12), (15, .astore_n 2)]
def mx_cl1 : List (Nat × Jvm.ClassFile.Instr) := [(16, .iconst 0), (17, .istore_n 3), (18, .iload_n 3), (19, .aload_n 0), (20, .arraylength), (21, .iconst 4), (22, .isub), (23, .if_icmp .gt 883), (26, .aload_n 0), (27, .iload_n 3), (28, .iaload), (29, .bipush 31), (31, .iand)]
def mx_cl2 : List (Nat × Jvm.ClassFile.Instr) := [(32, .tableswitch 868 0 19 #[96, 149, 192, 255, 318, 331, 364, 387, 420, 473, 536, 569, 593, 626, 690, 753, 786, 809, 822, 845])]
def mx_cl3 : List (Nat × Jvm.ClassFile.Instr) := []
def mx_cl4 : List (Nat × Jvm.ClassFile.Instr) := []
def mx_cl5 : List (Nat × Jvm.ClassFile.Instr) := []
def mx_cl6 : List (Nat × Jvm.ClassFile.Instr) := []
def mx_cl7 : List (Nat × Jvm.ClassFile.Instr) := []
def mx_cl8 : List (Nat × Jvm.ClassFile.Instr) := [(128, .aload_n 1), (129, .aload_n 0), (130, .iload_n 3), (131, .iconst 1), (132, .iadd), (133, .iaload), (134, .i2l), (135, .bipush 32), (137, .lshl), (138, .aload_n 0), (139, .iload_n 3), (140, .iconst 2), (141, .iadd), (142, .iaload), (143, .i2l)]
def mx_cl9 : List (Nat × Jvm.ClassFile.Instr) := [(144, .ldc2_w 13), (147, .land), (148, .lor), (149, .invokevirtual 15), (152, .aload_n 2), (153, .aload_n 0), (154, .iload_n 3), (155, .iconst 1), (156, .iadd), (157, .iaload), (158, .i2l), (159, .bipush 32)]
def mx_cl10 : List (Nat × Jvm.ClassFile.Instr) := [(161, .lshl), (162, .aload_n 0), (163, .iload_n 3), (164, .iconst 2), (165, .iadd), (166, .iaload), (167, .i2l), (168, .ldc2_w 13), (171, .land), (172, .lor), (173, .invokevirtual 19)]
def mx_cl11 : List (Nat × Jvm.ClassFile.Instr) := [(176, .if_icmp .eq 724), (179, .iconst 0), (180, .ireturn), (181, .aload_n 1), (182, .aload_n 0), (183, .iload_n 3), (184, .iconst 1), (185, .iadd), (186, .iaload), (187, .aload_n 0), (188, .iload_n 3), (189, .iconst 2), (190, .iadd), (191, .iaload)]
def mx_cl12 : List (Nat × Jvm.ClassFile.Instr) := [(192, .aload_n 0), (193, .iload_n 3), (194, .iconst 3), (195, .iadd), (196, .iaload), (197, .invokevirtual 20), (200, .aload_n 2), (201, .aload_n 0), (202, .iload_n 3), (203, .iconst 1), (204, .iadd), (205, .iaload), (206, .aload_n 0), (207, .iload_n 3)]
def mx_cl13 : List (Nat × Jvm.ClassFile.Instr) := [(208, .iconst 2), (209, .iadd), (210, .iaload), (211, .aload_n 0), (212, .iload_n 3), (213, .iconst 3), (214, .iadd), (215, .iaload), (216, .invokevirtual 24), (219, .if_icmp .eq 681), (222, .iconst 0), (223, .ireturn)]
def mx_cl14 : List (Nat × Jvm.ClassFile.Instr) := [(224, .aload_n 1), (225, .aload_n 0), (226, .iload_n 3), (227, .iconst 1), (228, .iadd), (229, .iaload), (230, .i2l), (231, .bipush 32), (233, .lshl), (234, .aload_n 0), (235, .iload_n 3), (236, .iconst 2), (237, .iadd), (238, .iaload), (239, .i2l)]
def mx_cl15 : List (Nat × Jvm.ClassFile.Instr) := [(240, .ldc2_w 13), (243, .land), (244, .lor), (245, .aload_n 0), (246, .iload_n 3), (247, .iconst 3), (248, .iadd), (249, .iaload), (250, .invokevirtual 25), (253, .aload_n 2), (254, .aload_n 0), (255, .iload_n 3)]
def mx_cl16 : List (Nat × Jvm.ClassFile.Instr) := [(256, .iconst 1), (257, .iadd), (258, .iaload), (259, .i2l), (260, .bipush 32), (262, .lshl), (263, .aload_n 0), (264, .iload_n 3), (265, .iconst 2), (266, .iadd), (267, .iaload), (268, .i2l), (269, .ldc2_w 13)]
def mx_cl17 : List (Nat × Jvm.ClassFile.Instr) := [(272, .land), (273, .lor), (274, .aload_n 0), (275, .iload_n 3), (276, .iconst 3), (277, .iadd), (278, .iaload), (279, .invokevirtual 29), (282, .if_icmp .eq 618), (285, .iconst 0), (286, .ireturn), (287, .aload_n 1)]
def mx_cl18 : List (Nat × Jvm.ClassFile.Instr) := [(288, .aload_n 0), (289, .iload_n 3), (290, .iconst 1), (291, .iadd), (292, .iaload), (293, .aload_n 0), (294, .iload_n 3), (295, .iconst 2), (296, .iadd), (297, .iaload), (298, .i2l), (299, .bipush 32), (301, .lshl), (302, .aload_n 0), (303, .iload_n 3)]
def mx_cl19 : List (Nat × Jvm.ClassFile.Instr) := [(304, .iconst 3), (305, .iadd), (306, .iaload), (307, .i2l), (308, .ldc2_w 13), (311, .land), (312, .lor), (313, .invokevirtual 30), (316, .aload_n 2), (317, .aload_n 0), (318, .iload_n 3), (319, .iconst 1)]
def mx_cl20 : List (Nat × Jvm.ClassFile.Instr) := [(320, .iadd), (321, .iaload), (322, .aload_n 0), (323, .iload_n 3), (324, .iconst 2), (325, .iadd), (326, .iaload), (327, .i2l), (328, .bipush 32), (330, .lshl), (331, .aload_n 0), (332, .iload_n 3), (333, .iconst 3), (334, .iadd), (335, .iaload)]
def mx_cl21 : List (Nat × Jvm.ClassFile.Instr) := [(336, .i2l), (337, .ldc2_w 13), (340, .land), (341, .lor), (342, .invokevirtual 34), (345, .if_icmp .eq 555), (348, .iconst 0), (349, .ireturn), (350, .aload_n 1), (351, .invokevirtual 35)]
def mx_cl22 : List (Nat × Jvm.ClassFile.Instr) := [(354, .aload_n 2), (355, .invokevirtual 39), (358, .if_icmp .eq 542), (361, .iconst 0), (362, .ireturn), (363, .aload_n 1), (364, .aload_n 0), (365, .iload_n 3), (366, .iconst 1), (367, .iadd)]
def mx_cl23 : List (Nat × Jvm.ClassFile.Instr) := [(368, .iaload), (369, .aload_n 0), (370, .iload_n 3), (371, .iconst 2), (372, .iadd), (373, .iaload), (374, .invokevirtual 40), (377, .aload_n 2), (378, .aload_n 0), (379, .iload_n 3), (380, .iconst 1), (381, .iadd), (382, .iaload), (383, .aload_n 0)]
def mx_cl24 : List (Nat × Jvm.ClassFile.Instr) := [(384, .iload_n 3), (385, .iconst 2), (386, .iadd), (387, .iaload), (388, .invokevirtual 44), (391, .if_icmp .eq 509), (394, .iconst 0), (395, .ireturn), (396, .aload_n 1), (397, .aload_n 0), (398, .iload_n 3), (399, .iconst 1)]
def mx_cl25 : List (Nat × Jvm.ClassFile.Instr) := [(400, .iadd), (401, .iaload), (402, .invokevirtual 45), (405, .aload_n 2), (406, .aload_n 0), (407, .iload_n 3), (408, .iconst 1), (409, .iadd), (410, .iaload), (411, .invokevirtual 49), (414, .if_icmp .eq 486)]
def mx_cl26 : List (Nat × Jvm.ClassFile.Instr) := [(417, .iconst 0), (418, .ireturn), (419, .aload_n 1), (420, .aload_n 0), (421, .iload_n 3), (422, .iconst 1), (423, .iadd), (424, .iaload), (425, .aload_n 0), (426, .iload_n 3), (427, .iconst 2), (428, .iadd), (429, .iaload), (430, .invokevirtual 50)]
def mx_cl27 : List (Nat × Jvm.ClassFile.Instr) := [(433, .aload_n 2), (434, .aload_n 0), (435, .iload_n 3), (436, .iconst 1), (437, .iadd), (438, .iaload), (439, .aload_n 0), (440, .iload_n 3), (441, .iconst 2), (442, .iadd), (443, .iaload), (444, .invokevirtual 53), (447, .if_icmp .eq 453)]
def mx_cl28 : List (Nat × Jvm.ClassFile.Instr) := [(450, .iconst 0), (451, .ireturn), (452, .aload_n 1), (453, .aload_n 0), (454, .iload_n 3), (455, .iconst 1), (456, .iadd), (457, .iaload), (458, .i2l), (459, .bipush 32), (461, .lshl), (462, .aload_n 0), (463, .iload_n 3)]
def mx_cl29 : List (Nat × Jvm.ClassFile.Instr) := [(464, .iconst 2), (465, .iadd), (466, .iaload), (467, .i2l), (468, .ldc2_w 13), (471, .land), (472, .lor), (473, .invokevirtual 54), (476, .aload_n 2), (477, .aload_n 0), (478, .iload_n 3), (479, .iconst 1)]
def mx_cl30 : List (Nat × Jvm.ClassFile.Instr) := [(480, .iadd), (481, .iaload), (482, .i2l), (483, .bipush 32), (485, .lshl), (486, .aload_n 0), (487, .iload_n 3), (488, .iconst 2), (489, .iadd), (490, .iaload), (491, .i2l), (492, .ldc2_w 13), (495, .land)]
def mx_cl31 : List (Nat × Jvm.ClassFile.Instr) := [(496, .lor), (497, .invokevirtual 57), (500, .if_icmp .eq 400), (503, .iconst 0), (504, .ireturn), (505, .aload_n 1), (506, .aload_n 0), (507, .iload_n 3), (508, .iconst 1), (509, .iadd), (510, .iaload), (511, .i2l)]
def mx_cl32 : List (Nat × Jvm.ClassFile.Instr) := [(512, .bipush 32), (514, .lshl), (515, .aload_n 0), (516, .iload_n 3), (517, .iconst 2), (518, .iadd), (519, .iaload), (520, .i2l), (521, .ldc2_w 13), (524, .land), (525, .lor), (526, .aload_n 0), (527, .iload_n 3)]
def mx_cl33 : List (Nat × Jvm.ClassFile.Instr) := [(528, .iconst 3), (529, .iadd), (530, .iaload), (531, .invokevirtual 58), (534, .aload_n 2), (535, .aload_n 0), (536, .iload_n 3), (537, .iconst 1), (538, .iadd), (539, .iaload), (540, .i2l), (541, .bipush 32), (543, .lshl)]
def mx_cl34 : List (Nat × Jvm.ClassFile.Instr) := [(544, .aload_n 0), (545, .iload_n 3), (546, .iconst 2), (547, .iadd), (548, .iaload), (549, .i2l), (550, .ldc2_w 13), (553, .land), (554, .lor), (555, .aload_n 0), (556, .iload_n 3), (557, .iconst 3), (558, .iadd), (559, .iaload)]
def mx_cl35 : List (Nat × Jvm.ClassFile.Instr) := [(560, .invokevirtual 61), (563, .if_icmp .eq 337), (566, .iconst 0), (567, .ireturn), (568, .aload_n 1), (569, .aload_n 0), (570, .iload_n 3), (571, .iconst 1), (572, .iadd), (573, .iaload), (574, .aload_n 0), (575, .iload_n 3)]
def mx_cl36 : List (Nat × Jvm.ClassFile.Instr) := [(576, .iconst 2), (577, .iadd), (578, .iaload), (579, .invokevirtual 62), (582, .aload_n 2), (583, .aload_n 0), (584, .iload_n 3), (585, .iconst 1), (586, .iadd), (587, .iaload), (588, .aload_n 0), (589, .iload_n 3), (590, .iconst 2), (591, .iadd)]
def mx_cl37 : List (Nat × Jvm.ClassFile.Instr) := [(592, .iaload), (593, .invokevirtual 65), (596, .if_icmp .eq 304), (599, .iconst 0), (600, .ireturn), (601, .aload_n 1), (602, .aload_n 0), (603, .iload_n 3), (604, .iconst 1), (605, .iadd), (606, .iaload), (607, .invokevirtual 66)]
def mx_cl38 : List (Nat × Jvm.ClassFile.Instr) := [(610, .aload_n 2), (611, .aload_n 0), (612, .iload_n 3), (613, .iconst 1), (614, .iadd), (615, .iaload), (616, .invokevirtual 70), (619, .lcmp), (620, .ifCond .eq 280), (623, .iconst 0)]
def mx_cl39 : List (Nat × Jvm.ClassFile.Instr) := [(624, .ireturn), (625, .aload_n 1), (626, .aload_n 0), (627, .iload_n 3), (628, .iconst 1), (629, .iadd), (630, .iaload), (631, .aload_n 0), (632, .iload_n 3), (633, .iconst 2), (634, .iadd), (635, .iaload), (636, .invokevirtual 71), (639, .aload_n 2)]
def mx_cl40 : List (Nat × Jvm.ClassFile.Instr) := [(640, .aload_n 0), (641, .iload_n 3), (642, .iconst 1), (643, .iadd), (644, .iaload), (645, .aload_n 0), (646, .iload_n 3), (647, .iconst 2), (648, .iadd), (649, .iaload), (650, .invokevirtual 74), (653, .if_icmp .eq 247)]
def mx_cl41 : List (Nat × Jvm.ClassFile.Instr) := [(656, .iconst 0), (657, .ireturn), (658, .aload_n 1), (659, .aload_n 0), (660, .iload_n 3), (661, .iconst 1), (662, .iadd), (663, .iaload), (664, .aload_n 0), (665, .iload_n 3), (666, .iconst 2), (667, .iadd), (668, .iaload), (669, .i2l), (670, .bipush 32)]
def mx_cl42 : List (Nat × Jvm.ClassFile.Instr) := [(672, .lshl), (673, .aload_n 0), (674, .iload_n 3), (675, .iconst 3), (676, .iadd), (677, .iaload), (678, .i2l), (679, .ldc2_w 13), (682, .land), (683, .lor), (684, .invokevirtual 75), (687, .aload_n 2)]
def mx_cl43 : List (Nat × Jvm.ClassFile.Instr) := [(688, .aload_n 0), (689, .iload_n 3), (690, .iconst 1), (691, .iadd), (692, .iaload), (693, .aload_n 0), (694, .iload_n 3), (695, .iconst 2), (696, .iadd), (697, .iaload), (698, .i2l), (699, .bipush 32), (701, .lshl), (702, .aload_n 0), (703, .iload_n 3)]
def mx_cl44 : List (Nat × Jvm.ClassFile.Instr) := [(704, .iconst 3), (705, .iadd), (706, .iaload), (707, .i2l), (708, .ldc2_w 13), (711, .land), (712, .lor), (713, .invokevirtual 79), (716, .lcmp), (717, .ifCond .eq 183)]
def mx_cl45 : List (Nat × Jvm.ClassFile.Instr) := [(720, .iconst 0), (721, .ireturn), (722, .aload_n 1), (723, .aload_n 0), (724, .iload_n 3), (725, .iconst 1), (726, .iadd), (727, .iaload), (728, .aload_n 0), (729, .iload_n 3), (730, .iconst 2), (731, .iadd), (732, .iaload), (733, .i2l), (734, .bipush 32)]
def mx_cl46 : List (Nat × Jvm.ClassFile.Instr) := [(736, .lshl), (737, .aload_n 0), (738, .iload_n 3), (739, .iconst 3), (740, .iadd), (741, .iaload), (742, .i2l), (743, .ldc2_w 13), (746, .land), (747, .lor), (748, .invokevirtual 80), (751, .aload_n 2)]
def mx_cl47 : List (Nat × Jvm.ClassFile.Instr) := [(752, .aload_n 0), (753, .iload_n 3), (754, .iconst 1), (755, .iadd), (756, .iaload), (757, .aload_n 0), (758, .iload_n 3), (759, .iconst 2), (760, .iadd), (761, .iaload), (762, .i2l), (763, .bipush 32), (765, .lshl), (766, .aload_n 0), (767, .iload_n 3)]
def mx_cl48 : List (Nat × Jvm.ClassFile.Instr) := [(768, .iconst 3), (769, .iadd), (770, .iaload), (771, .i2l), (772, .ldc2_w 13), (775, .land), (776, .lor), (777, .invokevirtual 84), (780, .if_icmp .eq 120), (783, .iconst 0)]
def mx_cl49 : List (Nat × Jvm.ClassFile.Instr) := [(784, .ireturn), (785, .aload_n 1), (786, .aload_n 0), (787, .iload_n 3), (788, .iconst 1), (789, .iadd), (790, .iaload), (791, .aload_n 0), (792, .iload_n 3), (793, .iconst 2), (794, .iadd), (795, .iaload), (796, .invokevirtual 85), (799, .aload_n 2)]
def mx_cl50 : List (Nat × Jvm.ClassFile.Instr) := [(800, .aload_n 0), (801, .iload_n 3), (802, .iconst 1), (803, .iadd), (804, .iaload), (805, .aload_n 0), (806, .iload_n 3), (807, .iconst 2), (808, .iadd), (809, .iaload), (810, .invokevirtual 88), (813, .if_icmp .eq 87)]
def mx_cl51 : List (Nat × Jvm.ClassFile.Instr) := [(816, .iconst 0), (817, .ireturn), (818, .aload_n 1), (819, .aload_n 0), (820, .iload_n 3), (821, .iconst 1), (822, .iadd), (823, .iaload), (824, .invokevirtual 89), (827, .aload_n 2), (828, .aload_n 0), (829, .iload_n 3), (830, .iconst 1), (831, .iadd)]
def mx_cl52 : List (Nat × Jvm.ClassFile.Instr) := [(832, .iaload), (833, .invokevirtual 92), (836, .if_icmp .eq 64), (839, .iconst 0), (840, .ireturn), (841, .aload_n 1), (842, .invokevirtual 93), (845, .aload_n 2), (846, .invokevirtual 96)]
def mx_cl53 : List (Nat × Jvm.ClassFile.Instr) := [(849, .if_icmp .eq 51), (852, .iconst 0), (853, .ireturn), (854, .aload_n 1), (855, .aload_n 0), (856, .iload_n 3), (857, .iconst 1), (858, .iadd), (859, .iaload), (860, .invokevirtual 97), (863, .aload_n 2)]
def mx_cl54 : List (Nat × Jvm.ClassFile.Instr) := [(864, .aload_n 0), (865, .iload_n 3), (866, .iconst 1), (867, .iadd), (868, .iaload), (869, .invokevirtual 100), (872, .if_icmp .eq 28), (875, .iconst 0), (876, .ireturn), (877, .aload_n 1), (878, .aload_n 0), (879, .iload_n 3)]
def mx_cl55 : List (Nat × Jvm.ClassFile.Instr) := [(880, .iconst 1), (881, .iadd), (882, .iaload), (883, .invokevirtual 101), (886, .aload_n 2), (887, .aload_n 0), (888, .iload_n 3), (889, .iconst 1), (890, .iadd), (891, .iaload), (892, .invokevirtual 104), (895, .if_icmp .eq 5)]
def mx_cl56 : List (Nat × Jvm.ClassFile.Instr) := [(898, .iconst 0), (899, .ireturn), (900, .iinc 3 4), (903, .goto (-885)), (906, .iconst 1), (907, .ireturn)]
def mx_ct168 : List (List (Nat × Jvm.ClassFile.Instr)) := [mx_cl0, mx_cl1, mx_cl2, mx_cl3, mx_cl4, mx_cl5, mx_cl6, mx_cl7, mx_cl8, mx_cl9, mx_cl10, mx_cl11, mx_cl12, mx_cl13, mx_cl14, mx_cl15, mx_cl16, mx_cl17, mx_cl18, mx_cl19, mx_cl20, mx_cl21, mx_cl22, mx_cl23, mx_cl24, mx_cl25, mx_cl26, mx_cl27, mx_cl28, mx_cl29, mx_cl30, mx_cl31, mx_cl32, mx_cl33, mx_cl34, mx_cl35, mx_cl36, mx_cl37, mx_cl38, mx_cl39, mx_cl40, mx_cl41, mx_cl42, mx_cl43, mx_cl44, mx_cl45, mx_cl46, mx_cl47, mx_cl48, mx_cl49, mx_cl50, mx_cl51, mx_cl52, mx_cl53, mx_cl54, mx_cl55, mx_cl56]
def mx_cg0 : List (List (List (Nat × Jvm.ClassFile.Instr))) := [mx_ct0, mx_ct1, mx_ct2, mx_ct3, mx_ct4, mx_ct5, mx_ct6, mx_ct7, mx_ct8, mx_ct9, mx_ct10, mx_ct11, mx_ct12, mx_ct13, mx_ct14, mx_ct15]
def mx_cg1 : List (List (List (Nat × Jvm.ClassFile.Instr))) := [mx_ct16, mx_ct17, mx_ct18, mx_ct19, mx_ct20, mx_ct21, mx_ct22, mx_ct23, mx_ct24, mx_ct25, mx_ct26, mx_ct27, mx_ct28, mx_ct29, mx_ct30, mx_ct31]
def mx_cg2 : List (List (List (Nat × Jvm.ClassFile.Instr))) := [mx_ct32, mx_ct33, mx_ct34, mx_ct35, mx_ct36, mx_ct37, mx_ct38, mx_ct39, mx_ct40, mx_ct41, mx_ct42, mx_ct43, mx_ct44, mx_ct45, mx_ct46, mx_ct47]
def mx_cg3 : List (List (List (Nat × Jvm.ClassFile.Instr))) := [mx_ct48, mx_ct49, mx_ct50, mx_ct51, mx_ct52, mx_ct53, mx_ct54, mx_ct55, mx_ct56, mx_ct57, mx_ct58, mx_ct59, mx_ct60, mx_ct61, mx_ct62, mx_ct63]
def mx_cg4 : List (List (List (Nat × Jvm.ClassFile.Instr))) := [mx_ct64, mx_ct65, mx_ct66, mx_ct67, mx_ct68, mx_ct69, mx_ct70, mx_ct71, mx_ct72, mx_ct73, mx_ct74, mx_ct75, mx_ct76, mx_ct77, mx_ct78, mx_ct79]
def mx_cg5 : List (List (List (Nat × Jvm.ClassFile.Instr))) := [mx_ct80, mx_ct81, mx_ct82, mx_ct83, mx_ct84, mx_ct85, mx_ct86, mx_ct87, mx_ct88, mx_ct89, mx_ct90, mx_ct91, mx_ct92, mx_ct93, mx_ct94, mx_ct95]
def mx_cg6 : List (List (List (Nat × Jvm.ClassFile.Instr))) := [mx_ct96, mx_ct97, mx_ct98, mx_ct99, mx_ct100, mx_ct101, mx_ct102, mx_ct103, mx_ct104, mx_ct105, mx_ct106, mx_ct107, mx_ct108, mx_ct109, mx_ct110, mx_ct111]
def mx_cg7 : List (List (List (Nat × Jvm.ClassFile.Instr))) := [mx_ct112, mx_ct113, mx_ct114, mx_ct115, mx_ct116, mx_ct117, mx_ct118, mx_ct119, mx_ct120, mx_ct121, mx_ct122, mx_ct123, mx_ct124, mx_ct125, mx_ct126, mx_ct127]
def mx_cg8 : List (List (List (Nat × Jvm.ClassFile.Instr))) := [mx_ct128, mx_ct129, mx_ct130, mx_ct131, mx_ct132, mx_ct133, mx_ct134, mx_ct135, mx_ct136, mx_ct137, mx_ct138, mx_ct139, mx_ct140, mx_ct141, mx_ct142, mx_ct143]
def mx_cg9 : List (List (List (Nat × Jvm.ClassFile.Instr))) := [mx_ct144, mx_ct145, mx_ct146, mx_ct147, mx_ct148, mx_ct149, mx_ct150, mx_ct151, mx_ct152, mx_ct153, mx_ct154, mx_ct155, mx_ct156, mx_ct157, mx_ct158, mx_ct159]
def mx_cg10 : List (List (List (Nat × Jvm.ClassFile.Instr))) := [mx_ct160, mx_ct161, mx_ct162, mx_ct163, mx_ct164, mx_ct165, mx_ct166, mx_ct167, mx_ct168]
def mx_cts : List (List (List (List (Nat × Jvm.ClassFile.Instr)))) := [mx_cg0, mx_cg1, mx_cg2, mx_cg3, mx_cg4, mx_cg5, mx_cg6, mx_cg7, mx_cg8, mx_cg9, mx_cg10]
def mx_code (mid pc : Nat) : Option Jvm.ClassFile.Instr := (((mx_ix mx_cts mid [])[pc / 16]?).getD []).lookup pc
end
section
set_option maxRecDepth 100000 in
theorem mx_dk0 : mx_ct0.all (fun c => c.all (mx_chk (mx_mb 0))) = true := by decide +kernel
set_option maxRecDepth 100000 in
theorem mx_dk1 : mx_ct1.all (fun c => c.all (mx_chk (mx_mb 1))) = true := by decide +kernel
set_option maxRecDepth 100000 in
theorem mx_dk2 : mx_ct2.all (fun c => c.all (mx_chk (mx_mb 2))) = true := by decide +kernel
set_option maxRecDepth 100000 in
theorem mx_dk3 : mx_ct3.all (fun c => c.all (mx_chk (mx_mb 3))) = true := by decide +kernel
set_option maxRecDepth 100000 in
theorem mx_dk4 : mx_ct4.all (fun c => c.all (mx_chk (mx_mb 4))) = true := by decide +kernel
set_option maxRecDepth 100000 in
theorem mx_dk5 : mx_ct5.all (fun c => c.all (mx_chk (mx_mb 5))) = true := by decide +kernel
set_option maxRecDepth 100000 in
theorem mx_dk6 : mx_ct6.all (fun c => c.all (mx_chk (mx_mb 6))) = true := by decide +kernel
set_option maxRecDepth 100000 in
theorem mx_dk7 : mx_ct7.all (fun c => c.all (mx_chk (mx_mb 7))) = true := by decide +kernel
set_option maxRecDepth 100000 in
theorem mx_dk8 : mx_ct8.all (fun c => c.all (mx_chk (mx_mb 8))) = true := by decide +kernel
set_option maxRecDepth 100000 in
theorem mx_dk9 : mx_ct9.all (fun c => c.all (mx_chk (mx_mb 9))) = true := by decide +kernel
set_option maxRecDepth 100000 in
theorem mx_dk10 : mx_ct10.all (fun c => c.all (mx_chk (mx_mb 10))) = true := by decide +kernel
set_option maxRecDepth 100000 in
theorem mx_dk11 : mx_ct11.all (fun c => c.all (mx_chk (mx_mb 11))) = true := by decide +kernel
set_option maxRecDepth 100000 in
theorem mx_dk12 : mx_ct12.all (fun c => c.all (mx_chk (mx_mb 12))) = true := by decide +kernel
set_option maxRecDepth 100000 in
theorem mx_dk13 : mx_ct13.all (fun c => c.all (mx_chk (mx_mb 13))) = true := by decide +kernel
set_option maxRecDepth 100000 in
theorem mx_dk14 : mx_ct14.all (fun c => c.all (mx_chk (mx_mb 14))) = true := by decide +kernel
set_option maxRecDepth 100000 in
theorem mx_dk15 : mx_ct15.all (fun c => c.all (mx_chk (mx_mb 15))) = true := by decide +kernel
set_option maxRecDepth 100000 in
theorem mx_dk16 : mx_ct16.all (fun c => c.all (mx_chk (mx_mb 16))) = true := by decide +kernel
set_option maxRecDepth 100000 in
theorem mx_dk17 : mx_ct17.all (fun c => c.all (mx_chk (mx_mb 17))) = true := by decide +kernel
set_option maxRecDepth 100000 in
theorem mx_dk18 : mx_ct18.all (fun c => c.all (mx_chk (mx_mb 18))) = true := by decide +kernel
set_option maxRecDepth 100000 in
theorem mx_dk19 : mx_ct19.all (fun c => c.all (mx_chk (mx_mb 19))) = true := by decide +kernel
set_option maxRecDepth 100000 in
theorem mx_dk20 : mx_ct20.all (fun c => c.all (mx_chk (mx_mb 20))) = true := by decide +kernel
set_option maxRecDepth 100000 in
theorem mx_dk21 : mx_ct21.all (fun c => c.all (mx_chk (mx_mb 21))) = true := by decide +kernel
set_option maxRecDepth 100000 in
theorem mx_dk22 : mx_ct22.all (fun c => c.all (mx_chk (mx_mb 22))) = true := by decide +kernel
set_option maxRecDepth 100000 in
theorem mx_dk23 : mx_ct23.all (fun c => c.all (mx_chk (mx_mb 23))) = true := by decide +kernel
set_option maxRecDepth 100000 in
theorem mx_dk24 : mx_ct24.all (fun c => c.all (mx_chk (mx_mb 24))) = true := by decide +kernel
set_option maxRecDepth 100000 in
theorem mx_dk25 : mx_ct25.all (fun c => c.all (mx_chk (mx_mb 25))) = true := by decide +kernel
set_option maxRecDepth 100000 in
theorem mx_dk26 : mx_ct26.all (fun c => c.all (mx_chk (mx_mb 26))) = true := by decide +kernel
set_option maxRecDepth 100000 in
theorem mx_dk27 : mx_ct27.all (fun c => c.all (mx_chk (mx_mb 27))) = true := by decide +kernel
set_option maxRecDepth 100000 in
theorem mx_dk28 : mx_ct28.all (fun c => c.all (mx_chk (mx_mb 28))) = true := by decide +kernel
set_option maxRecDepth 100000 in
theorem mx_dk29 : mx_ct29.all (fun c => c.all (mx_chk (mx_mb 29))) = true := by decide +kernel
set_option maxRecDepth 100000 in
theorem mx_dk30 : mx_ct30.all (fun c => c.all (mx_chk (mx_mb 30))) = true := by decide +kernel
set_option maxRecDepth 100000 in
theorem mx_dk31 : mx_ct31.all (fun c => c.all (mx_chk (mx_mb 31))) = true := by decide +kernel
set_option maxRecDepth 100000 in
theorem mx_dk32 : mx_ct32.all (fun c => c.all (mx_chk (mx_mb 32))) = true := by decide +kernel
set_option maxRecDepth 100000 in
theorem mx_dk33 : mx_ct33.all (fun c => c.all (mx_chk (mx_mb 33))) = true := by decide +kernel
set_option maxRecDepth 100000 in
theorem mx_dk34 : mx_ct34.all (fun c => c.all (mx_chk (mx_mb 34))) = true := by decide +kernel
set_option maxRecDepth 100000 in
theorem mx_dk35 : mx_ct35.all (fun c => c.all (mx_chk (mx_mb 35))) = true := by decide +kernel
set_option maxRecDepth 100000 in
theorem mx_dk36 : mx_ct36.all (fun c => c.all (mx_chk (mx_mb 36))) = true := by decide +kernel
set_option maxRecDepth 100000 in
theorem mx_dk37 : mx_ct37.all (fun c => c.all (mx_chk (mx_mb 37))) = true := by decide +kernel
set_option maxRecDepth 100000 in
theorem mx_dk38 : mx_ct38.all (fun c => c.all (mx_chk (mx_mb 38))) = true := by decide +kernel
set_option maxRecDepth 100000 in
theorem mx_dk39 : mx_ct39.all (fun c => c.all (mx_chk (mx_mb 39))) = true := by decide +kernel
set_option maxRecDepth 100000 in
theorem mx_dk40 : mx_ct40.all (fun c => c.all (mx_chk (mx_mb 40))) = true := by decide +kernel
set_option maxRecDepth 100000 in
theorem mx_dk41 : mx_ct41.all (fun c => c.all (mx_chk (mx_mb 41))) = true := by decide +kernel
set_option maxRecDepth 100000 in
theorem mx_dk42 : mx_ct42.all (fun c => c.all (mx_chk (mx_mb 42))) = true := by decide +kernel
set_option maxRecDepth 100000 in
theorem mx_dk43 : mx_ct43.all (fun c => c.all (mx_chk (mx_mb 43))) = true := by decide +kernel
set_option maxRecDepth 100000 in
theorem mx_dk44 : mx_ct44.all (fun c => c.all (mx_chk (mx_mb 44))) = true := by decide +kernel
set_option maxRecDepth 100000 in
theorem mx_dk45 : mx_ct45.all (fun c => c.all (mx_chk (mx_mb 45))) = true := by decide +kernel
set_option maxRecDepth 100000 in
theorem mx_dk46 : mx_ct46.all (fun c => c.all (mx_chk (mx_mb 46))) = true := by decide +kernel
set_option maxRecDepth 100000 in
theorem mx_dk47 : mx_ct47.all (fun c => c.all (mx_chk (mx_mb 47))) = true := by decide +kernel
set_option maxRecDepth 100000 in
theorem mx_dk48 : mx_ct48.all (fun c => c.all (mx_chk (mx_mb 48))) = true := by decide +kernel
set_option maxRecDepth 100000 in
theorem mx_dk49 : mx_ct49.all (fun c => c.all (mx_chk (mx_mb 49))) = true := by decide +kernel
set_option maxRecDepth 100000 in
theorem mx_dk50 : mx_ct50.all (fun c => c.all (mx_chk (mx_mb 50))) = true := by decide +kernel
set_option maxRecDepth 100000 in
theorem mx_dk51 : mx_ct51.all (fun c => c.all (mx_chk (mx_mb 51))) = true := by decide +kernel
set_option maxRecDepth 100000 in
theorem mx_dk52 : mx_ct52.all (fun c => c.all (mx_chk (mx_mb 52))) = true := by decide +kernel
set_option maxRecDepth 100000 in
theorem mx_dk53 : mx_ct53.all (fun c => c.all (mx_chk (mx_mb 53))) = true := by decide +kernel
set_option maxRecDepth 100000 in
theorem mx_dk54 : mx_ct54.all (fun c => c.all (mx_chk (mx_mb 54))) = true := by decide +kernel
set_option maxRecDepth 100000 in
theorem mx_dk55 : mx_ct55.all (fun c => c.all (mx_chk (mx_mb 55))) = true := by decide +kernel
set_option maxRecDepth 100000 in
theorem mx_dk56 : mx_ct56.all (fun c => c.all (mx_chk (mx_mb 56))) = true := by decide +kernel
set_option maxRecDepth 100000 in
theorem mx_dk57 : mx_ct57.all (fun c => c.all (mx_chk (mx_mb 57))) = true := by decide +kernel
set_option maxRecDepth 100000 in
theorem mx_dk58 : mx_ct58.all (fun c => c.all (mx_chk (mx_mb 58))) = true := by decide +kernel
set_option maxRecDepth 100000 in
theorem mx_dk59 : mx_ct59.all (fun c => c.all (mx_chk (mx_mb 59))) = true := by decide +kernel
set_option maxRecDepth 100000 in
theorem mx_dk60 : mx_ct60.all (fun c => c.all (mx_chk (mx_mb 60))) = true := by decide +kernel
set_option maxRecDepth 100000 in
theorem mx_dk61 : mx_ct61.all (fun c => c.all (mx_chk (mx_mb 61))) = true := by decide +kernel
set_option maxRecDepth 100000 in
theorem mx_dk62 : mx_ct62.all (fun c => c.all (mx_chk (mx_mb 62))) = true := by decide +kernel
set_option maxRecDepth 100000 in
theorem mx_dk63 : mx_ct63.all (fun c => c.all (mx_chk (mx_mb 63))) = true := by decide +kernel
set_option maxRecDepth 100000 in
theorem mx_dk64 : mx_ct64.all (fun c => c.all (mx_chk (mx_mb 64))) = true := by decide +kernel
set_option maxRecDepth 100000 in
theorem mx_dk65 : mx_ct65.all (fun c => c.all (mx_chk (mx_mb 65))) = true := by decide +kernel
set_option maxRecDepth 100000 in
theorem mx_dk66 : mx_ct66.all (fun c => c.all (mx_chk (mx_mb 66))) = true := by decide +kernel
set_option maxRecDepth 100000 in
theorem mx_dk67 : mx_ct67.all (fun c => c.all (mx_chk (mx_mb 67))) = true := by decide +kernel
set_option maxRecDepth 100000 in
theorem mx_dk68 : mx_ct68.all (fun c => c.all (mx_chk (mx_mb 68))) = true := by decide +kernel
set_option maxRecDepth 100000 in
theorem mx_dk69 : mx_ct69.all (fun c => c.all (mx_chk (mx_mb 69))) = true := by decide +kernel
set_option maxRecDepth 100000 in
theorem mx_dk70 : mx_ct70.all (fun c => c.all (mx_chk (mx_mb 70))) = true := by decide +kernel
set_option maxRecDepth 100000 in
theorem mx_dk71 : mx_ct71.all (fun c => c.all (mx_chk (mx_mb 71))) = true := by decide +kernel
set_option maxRecDepth 100000 in
theorem mx_dk72 : mx_ct72.all (fun c => c.all (mx_chk (mx_mb 72))) = true := by decide +kernel
set_option maxRecDepth 100000 in
theorem mx_dk73 : mx_ct73.all (fun c => c.all (mx_chk (mx_mb 73))) = true := by decide +kernel
set_option maxRecDepth 100000 in
theorem mx_dk74 : mx_ct74.all (fun c => c.all (mx_chk (mx_mb 74))) = true := by decide +kernel
set_option maxRecDepth 100000 in
theorem mx_dk75 : mx_ct75.all (fun c => c.all (mx_chk (mx_mb 75))) = true := by decide +kernel
set_option maxRecDepth 100000 in
theorem mx_dk76 : mx_ct76.all (fun c => c.all (mx_chk (mx_mb 76))) = true := by decide +kernel
set_option maxRecDepth 100000 in
theorem mx_dk77 : mx_ct77.all (fun c => c.all (mx_chk (mx_mb 77))) = true := by decide +kernel
set_option maxRecDepth 100000 in
theorem mx_dk78 : mx_ct78.all (fun c => c.all (mx_chk (mx_mb 78))) = true := by decide +kernel
set_option maxRecDepth 100000 in
theorem mx_dk79 : mx_ct79.all (fun c => c.all (mx_chk (mx_mb 79))) = true := by decide +kernel
set_option maxRecDepth 100000 in
theorem mx_dk80 : mx_ct80.all (fun c => c.all (mx_chk (mx_mb 80))) = true := by decide +kernel
set_option maxRecDepth 100000 in
theorem mx_dk81 : mx_ct81.all (fun c => c.all (mx_chk (mx_mb 81))) = true := by decide +kernel
set_option maxRecDepth 100000 in
theorem mx_dk82 : mx_ct82.all (fun c => c.all (mx_chk (mx_mb 82))) = true := by decide +kernel
set_option maxRecDepth 100000 in
theorem mx_dk83 : mx_ct83.all (fun c => c.all (mx_chk (mx_mb 83))) = true := by decide +kernel
set_option maxRecDepth 100000 in
theorem mx_dk84 : mx_ct84.all (fun c => c.all (mx_chk (mx_mb 84))) = true := by decide +kernel
set_option maxRecDepth 100000 in
theorem mx_dk85 : mx_ct85.all (fun c => c.all (mx_chk (mx_mb 85))) = true := by decide +kernel
set_option maxRecDepth 100000 in
theorem mx_dk86 : mx_ct86.all (fun c => c.all (mx_chk (mx_mb 86))) = true := by decide +kernel
set_option maxRecDepth 100000 in
theorem mx_dk87 : mx_ct87.all (fun c => c.all (mx_chk (mx_mb 87))) = true := by decide +kernel
set_option maxRecDepth 100000 in
theorem mx_dk88 : mx_ct88.all (fun c => c.all (mx_chk (mx_mb 88))) = true := by decide +kernel
set_option maxRecDepth 100000 in
theorem mx_dk89 : mx_ct89.all (fun c => c.all (mx_chk (mx_mb 89))) = true := by decide +kernel
set_option maxRecDepth 100000 in
theorem mx_dk90 : mx_ct90.all (fun c => c.all (mx_chk (mx_mb 90))) = true := by decide +kernel
set_option maxRecDepth 100000 in
theorem mx_dk91 : mx_ct91.all (fun c => c.all (mx_chk (mx_mb 91))) = true := by decide +kernel
set_option maxRecDepth 100000 in
theorem mx_dk92 : mx_ct92.all (fun c => c.all (mx_chk (mx_mb 92))) = true := by decide +kernel
set_option maxRecDepth 100000 in
theorem mx_dk93 : mx_ct93.all (fun c => c.all (mx_chk (mx_mb 93))) = true := by decide +kernel
set_option maxRecDepth 100000 in
theorem mx_dk94 : mx_ct94.all (fun c => c.all (mx_chk (mx_mb 94))) = true := by decide +kernel
set_option maxRecDepth 100000 in
theorem mx_dk95 : mx_ct95.all (fun c => c.all (mx_chk (mx_mb 95))) = true := by decide +kernel
set_option maxRecDepth 100000 in
theorem mx_dk96 : mx_ct96.all (fun c => c.all (mx_chk (mx_mb 96))) = true := by decide +kernel
set_option maxRecDepth 100000 in
theorem mx_dk97 : mx_ct97.all (fun c => c.all (mx_chk (mx_mb 97))) = true := by decide +kernel
set_option maxRecDepth 100000 in
theorem mx_dk98 : mx_ct98.all (fun c => c.all (mx_chk (mx_mb 98))) = true := by decide +kernel
set_option maxRecDepth 100000 in
theorem mx_dk99 : mx_ct99.all (fun c => c.all (mx_chk (mx_mb 99))) = true := by decide +kernel
set_option maxRecDepth 100000 in
theorem mx_dk100 : mx_ct100.all (fun c => c.all (mx_chk (mx_mb 100))) = true := by decide +kernel
set_option maxRecDepth 100000 in
theorem mx_dk101 : mx_ct101.all (fun c => c.all (mx_chk (mx_mb 101))) = true := by decide +kernel
set_option maxRecDepth 100000 in
theorem mx_dk102 : mx_ct102.all (fun c => c.all (mx_chk (mx_mb 102))) = true := by decide +kernel
set_option maxRecDepth 100000 in
theorem mx_dk103 : mx_ct103.all (fun c => c.all (mx_chk (mx_mb 103))) = true := by decide +kernel
set_option maxRecDepth 100000 in
theorem mx_dk104 : mx_ct104.all (fun c => c.all (mx_chk (mx_mb 104))) = true := by decide +kernel
set_option maxRecDepth 100000 in
theorem mx_dk105 : mx_ct105.all (fun c => c.all (mx_chk (mx_mb 105))) = true := by decide +kernel
set_option maxRecDepth 100000 in
theorem mx_dk106 : mx_ct106.all (fun c => c.all (mx_chk (mx_mb 106))) = true := by decide +kernel
set_option maxRecDepth 100000 in
theorem mx_dk107 : mx_ct107.all (fun c => c.all (mx_chk (mx_mb 107))) = true := by decide +kernel
set_option maxRecDepth 100000 in
theorem mx_dk108 : mx_ct108.all (fun c => c.all (mx_chk (mx_mb 108))) = true := by decide +kernel
set_option maxRecDepth 100000 in
theorem mx_dk109 : mx_ct109.all (fun c => c.all (mx_chk (mx_mb 109))) = true := by decide +kernel
set_option maxRecDepth 100000 in
theorem mx_dk110 : mx_ct110.all (fun c => c.all (mx_chk (mx_mb 110))) = true := by decide +kernel
set_option maxRecDepth 100000 in
theorem mx_dk111 : mx_ct111.all (fun c => c.all (mx_chk (mx_mb 111))) = true := by decide +kernel
set_option maxRecDepth 100000 in
theorem mx_dk112 : mx_ct112.all (fun c => c.all (mx_chk (mx_mb 112))) = true := by decide +kernel
set_option maxRecDepth 100000 in
theorem mx_dk113 : mx_ct113.all (fun c => c.all (mx_chk (mx_mb 113))) = true := by decide +kernel
set_option maxRecDepth 100000 in
theorem mx_dk114 : mx_ct114.all (fun c => c.all (mx_chk (mx_mb 114))) = true := by decide +kernel
set_option maxRecDepth 100000 in
theorem mx_dk115 : mx_ct115.all (fun c => c.all (mx_chk (mx_mb 115))) = true := by decide +kernel
set_option maxRecDepth 100000 in
theorem mx_dk116 : mx_ct116.all (fun c => c.all (mx_chk (mx_mb 116))) = true := by decide +kernel
set_option maxRecDepth 100000 in
theorem mx_dk117 : mx_ct117.all (fun c => c.all (mx_chk (mx_mb 117))) = true := by decide +kernel
set_option maxRecDepth 100000 in
theorem mx_dk118 : mx_ct118.all (fun c => c.all (mx_chk (mx_mb 118))) = true := by decide +kernel
set_option maxRecDepth 100000 in
theorem mx_dk119 : mx_ct119.all (fun c => c.all (mx_chk (mx_mb 119))) = true := by decide +kernel
set_option maxRecDepth 100000 in
theorem mx_dk120 : mx_ct120.all (fun c => c.all (mx_chk (mx_mb 120))) = true := by decide +kernel
set_option maxRecDepth 100000 in
theorem mx_dk121 : mx_ct121.all (fun c => c.all (mx_chk (mx_mb 121))) = true := by decide +kernel
set_option maxRecDepth 100000 in
theorem mx_dk122 : mx_ct122.all (fun c => c.all (mx_chk (mx_mb 122))) = true := by decide +kernel
set_option maxRecDepth 100000 in
theorem mx_dk123 : mx_ct123.all (fun c => c.all (mx_chk (mx_mb 123))) = true := by decide +kernel
set_option maxRecDepth 100000 in
theorem mx_dk124 : mx_ct124.all (fun c => c.all (mx_chk (mx_mb 124))) = true := by decide +kernel
set_option maxRecDepth 100000 in
theorem mx_dk125 : mx_ct125.all (fun c => c.all (mx_chk (mx_mb 125))) = true := by decide +kernel
set_option maxRecDepth 100000 in
theorem mx_dk126 : mx_ct126.all (fun c => c.all (mx_chk (mx_mb 126))) = true := by decide +kernel
set_option maxRecDepth 100000 in
theorem mx_dk127 : mx_ct127.all (fun c => c.all (mx_chk (mx_mb 127))) = true := by decide +kernel
set_option maxRecDepth 100000 in
theorem mx_dk128 : mx_ct128.all (fun c => c.all (mx_chk (mx_mb 128))) = true := by decide +kernel
set_option maxRecDepth 100000 in
theorem mx_dk129 : mx_ct129.all (fun c => c.all (mx_chk (mx_mb 129))) = true := by decide +kernel
set_option maxRecDepth 100000 in
theorem mx_dk130 : mx_ct130.all (fun c => c.all (mx_chk (mx_mb 130))) = true := by decide +kernel
set_option maxRecDepth 100000 in
theorem mx_dk131 : mx_ct131.all (fun c => c.all (mx_chk (mx_mb 131))) = true := by decide +kernel
set_option maxRecDepth 100000 in
theorem mx_dk132 : mx_ct132.all (fun c => c.all (mx_chk (mx_mb 132))) = true := by decide +kernel
set_option maxRecDepth 100000 in
theorem mx_dk133 : mx_ct133.all (fun c => c.all (mx_chk (mx_mb 133))) = true := by decide +kernel
set_option maxRecDepth 100000 in
theorem mx_dk134 : mx_ct134.all (fun c => c.all (mx_chk (mx_mb 134))) = true := by decide +kernel
set_option maxRecDepth 100000 in
theorem mx_dk135 : mx_ct135.all (fun c => c.all (mx_chk (mx_mb 135))) = true := by decide +kernel
set_option maxRecDepth 100000 in
theorem mx_dk136 : mx_ct136.all (fun c => c.all (mx_chk (mx_mb 136))) = true := by decide +kernel
set_option maxRecDepth 100000 in
theorem mx_dk137 : mx_ct137.all (fun c => c.all (mx_chk (mx_mb 137))) = true := by decide +kernel
set_option maxRecDepth 100000 in
theorem mx_dk138 : mx_ct138.all (fun c => c.all (mx_chk (mx_mb 138))) = true := by decide +kernel
set_option maxRecDepth 100000 in
theorem mx_dk139 : mx_ct139.all (fun c => c.all (mx_chk (mx_mb 139))) = true := by decide +kernel
set_option maxRecDepth 100000 in
theorem mx_dk140 : mx_ct140.all (fun c => c.all (mx_chk (mx_mb 140))) = true := by decide +kernel
set_option maxRecDepth 100000 in
theorem mx_dk141 : mx_ct141.all (fun c => c.all (mx_chk (mx_mb 141))) = true := by decide +kernel
set_option maxRecDepth 100000 in
theorem mx_dk142 : mx_ct142.all (fun c => c.all (mx_chk (mx_mb 142))) = true := by decide +kernel
set_option maxRecDepth 100000 in
theorem mx_dk143 : mx_ct143.all (fun c => c.all (mx_chk (mx_mb 143))) = true := by decide +kernel
set_option maxRecDepth 100000 in
theorem mx_dk144 : mx_ct144.all (fun c => c.all (mx_chk (mx_mb 144))) = true := by decide +kernel
set_option maxRecDepth 100000 in
theorem mx_dk145 : mx_ct145.all (fun c => c.all (mx_chk (mx_mb 145))) = true := by decide +kernel
set_option maxRecDepth 100000 in
theorem mx_dk146 : mx_ct146.all (fun c => c.all (mx_chk (mx_mb 146))) = true := by decide +kernel
set_option maxRecDepth 100000 in
theorem mx_dk147 : mx_ct147.all (fun c => c.all (mx_chk (mx_mb 147))) = true := by decide +kernel
set_option maxRecDepth 100000 in
theorem mx_dk148 : mx_ct148.all (fun c => c.all (mx_chk (mx_mb 148))) = true := by decide +kernel
set_option maxRecDepth 100000 in
theorem mx_dk149 : mx_ct149.all (fun c => c.all (mx_chk (mx_mb 149))) = true := by decide +kernel
set_option maxRecDepth 100000 in
theorem mx_dk150 : mx_ct150.all (fun c => c.all (mx_chk (mx_mb 150))) = true := by decide +kernel
set_option maxRecDepth 100000 in
theorem mx_dk151 : mx_ct151.all (fun c => c.all (mx_chk (mx_mb 151))) = true := by decide +kernel
set_option maxRecDepth 100000 in
theorem mx_dk152 : mx_ct152.all (fun c => c.all (mx_chk (mx_mb 152))) = true := by decide +kernel
set_option maxRecDepth 100000 in
theorem mx_dk153 : mx_ct153.all (fun c => c.all (mx_chk (mx_mb 153))) = true := by decide +kernel
set_option maxRecDepth 100000 in
theorem mx_dk154 : mx_ct154.all (fun c => c.all (mx_chk (mx_mb 154))) = true := by decide +kernel
set_option maxRecDepth 100000 in
theorem mx_dk155 : mx_ct155.all (fun c => c.all (mx_chk (mx_mb 155))) = true := by decide +kernel
set_option maxRecDepth 100000 in
theorem mx_dk156 : mx_ct156.all (fun c => c.all (mx_chk (mx_mb 156))) = true := by decide +kernel
set_option maxRecDepth 100000 in
theorem mx_dk157 : mx_ct157.all (fun c => c.all (mx_chk (mx_mb 157))) = true := by decide +kernel
set_option maxRecDepth 100000 in
theorem mx_dk158 : mx_ct158.all (fun c => c.all (mx_chk (mx_mb 158))) = true := by decide +kernel
set_option maxRecDepth 100000 in
theorem mx_dk159 : mx_ct159.all (fun c => c.all (mx_chk (mx_mb 159))) = true := by decide +kernel
set_option maxRecDepth 100000 in
theorem mx_dk160 : mx_ct160.all (fun c => c.all (mx_chk (mx_mb 160))) = true := by decide +kernel
set_option maxRecDepth 100000 in
theorem mx_dk161 : mx_ct161.all (fun c => c.all (mx_chk (mx_mb 161))) = true := by decide +kernel
set_option maxRecDepth 100000 in
theorem mx_dk162 : mx_ct162.all (fun c => c.all (mx_chk (mx_mb 162))) = true := by decide +kernel
set_option maxRecDepth 100000 in
theorem mx_dk163 : mx_ct163.all (fun c => c.all (mx_chk (mx_mb 163))) = true := by decide +kernel
set_option maxRecDepth 100000 in
theorem mx_dk164 : mx_ct164.all (fun c => c.all (mx_chk (mx_mb 164))) = true := by decide +kernel
set_option maxRecDepth 100000 in
theorem mx_dk165 : mx_ct165.all (fun c => c.all (mx_chk (mx_mb 165))) = true := by decide +kernel
set_option maxRecDepth 100000 in
theorem mx_dk166 : mx_ct166.all (fun c => c.all (mx_chk (mx_mb 166))) = true := by decide +kernel
set_option maxRecDepth 100000 in
theorem mx_dk167 : mx_ct167.all (fun c => c.all (mx_chk (mx_mb 167))) = true := by decide +kernel
end
section
set_option maxRecDepth 100000 in
theorem mx_dl0 : mx_cl0.all (mx_chk code) = true := by decide +kernel
set_option maxRecDepth 100000 in
theorem mx_dl1 : mx_cl1.all (mx_chk code) = true := by decide +kernel
set_option maxRecDepth 100000 in
theorem mx_dl2 : mx_cl2.all (mx_chk code) = true := by decide +kernel
set_option maxRecDepth 100000 in
theorem mx_dl3 : mx_cl3.all (mx_chk code) = true := by decide +kernel
set_option maxRecDepth 100000 in
theorem mx_dl4 : mx_cl4.all (mx_chk code) = true := by decide +kernel
set_option maxRecDepth 100000 in
theorem mx_dl5 : mx_cl5.all (mx_chk code) = true := by decide +kernel
set_option maxRecDepth 100000 in
theorem mx_dl6 : mx_cl6.all (mx_chk code) = true := by decide +kernel
set_option maxRecDepth 100000 in
theorem mx_dl7 : mx_cl7.all (mx_chk code) = true := by decide +kernel
set_option maxRecDepth 100000 in
theorem mx_dl8 : mx_cl8.all (mx_chk code) = true := by decide +kernel
set_option maxRecDepth 100000 in
theorem mx_dl9 : mx_cl9.all (mx_chk code) = true := by decide +kernel
set_option maxRecDepth 100000 in
theorem mx_dl10 : mx_cl10.all (mx_chk code) = true := by decide +kernel
set_option maxRecDepth 100000 in
theorem mx_dl11 : mx_cl11.all (mx_chk code) = true := by decide +kernel
set_option maxRecDepth 100000 in
theorem mx_dl12 : mx_cl12.all (mx_chk code) = true := by decide +kernel
set_option maxRecDepth 100000 in
theorem mx_dl13 : mx_cl13.all (mx_chk code) = true := by decide +kernel
set_option maxRecDepth 100000 in
theorem mx_dl14 : mx_cl14.all (mx_chk code) = true := by decide +kernel
end
section
set_option maxRecDepth 100000 in
theorem mx_dl15 : mx_cl15.all (mx_chk code) = true := by decide +kernel
set_option maxRecDepth 100000 in
theorem mx_dl16 : mx_cl16.all (mx_chk code) = true := by decide +kernel
set_option maxRecDepth 100000 in
theorem mx_dl17 : mx_cl17.all (mx_chk code) = true := by decide +kernel
set_option maxRecDepth 100000 in
theorem mx_dl18 : mx_cl18.all (mx_chk code) = true := by decide +kernel
set_option maxRecDepth 100000 in
theorem mx_dl19 : mx_cl19.all (mx_chk code) = true := by decide +kernel
set_option maxRecDepth 100000 in
theorem mx_dl20 : mx_cl20.all (mx_chk code) = true := by decide +kernel
set_option maxRecDepth 100000 in
theorem mx_dl21 : mx_cl21.all (mx_chk code) = true := by decide +kernel
set_option maxRecDepth 100000 in
theorem mx_dl22 : mx_cl22.all (mx_chk code) = true := by decide +kernel
set_option maxRecDepth 100000 in
theorem mx_dl23 : mx_cl23.all (mx_chk code) = true := by decide +kernel
set_option maxRecDepth 100000 in
theorem mx_dl24 : mx_cl24.all (mx_chk code) = true := by decide +kernel
set_option maxRecDepth 100000 in
theorem mx_dl25 : mx_cl25.all (mx_chk code) = true := by decide +kernel
set_option maxRecDepth 100000 in
theorem mx_dl26 : mx_cl26.all (mx_chk code) = true := by decide +kernel
set_option maxRecDepth 100000 in
theorem mx_dl27 : mx_cl27.all (mx_chk code) = true := by decide +kernel
set_option maxRecDepth 100000 in
theorem mx_dl28 : mx_cl28.all (mx_chk code) = true := by decide +kernel
set_option maxRecDepth 100000 in
theorem mx_dl29 : mx_cl29.all (mx_chk code) = true := by decide +kernel
end
section
set_option maxRecDepth 100000 in
theorem mx_dl30 : mx_cl30.all (mx_chk code) = true := by decide +kernel
set_option maxRecDepth 100000 in
theorem mx_dl31 : mx_cl31.all (mx_chk code) = true := by decide +kernel
set_option maxRecDepth 100000 in
theorem mx_dl32 : mx_cl32.all (mx_chk code) = true := by decide +kernel
set_option maxRecDepth 100000 in
theorem mx_dl33 : mx_cl33.all (mx_chk code) = true := by decide +kernel
set_option maxRecDepth 100000 in
theorem mx_dl34 : mx_cl34.all (mx_chk code) = true := by decide +kernel
set_option maxRecDepth 100000 in
theorem mx_dl35 : mx_cl35.all (mx_chk code) = true := by decide +kernel
set_option maxRecDepth 100000 in
theorem mx_dl36 : mx_cl36.all (mx_chk code) = true := by decide +kernel
set_option maxRecDepth 100000 in
theorem mx_dl37 : mx_cl37.all (mx_chk code) = true := by decide +kernel
set_option maxRecDepth 100000 in
theorem mx_dl38 : mx_cl38.all (mx_chk code) = true := by decide +kernel
set_option maxRecDepth 100000 in
theorem mx_dl39 : mx_cl39.all (mx_chk code) = true := by decide +kernel
set_option maxRecDepth 100000 in
theorem mx_dl40 : mx_cl40.all (mx_chk code) = true := by decide +kernel
set_option maxRecDepth 100000 in
theorem mx_dl41 : mx_cl41.all (mx_chk code) = true := by decide +kernel
set_option maxRecDepth 100000 in
theorem mx_dl42 : mx_cl42.all (mx_chk code) = true := by decide +kernel
set_option maxRecDepth 100000 in
theorem mx_dl43 : mx_cl43.all (mx_chk code) = true := by decide +kernel
set_option maxRecDepth 100000 in
theorem mx_dl44 : mx_cl44.all (mx_chk code) = true := by decide +kernel
end
section
set_option maxRecDepth 100000 in
theorem mx_dl45 : mx_cl45.all (mx_chk code) = true := by decide +kernel
set_option maxRecDepth 100000 in
theorem mx_dl46 : mx_cl46.all (mx_chk code) = true := by decide +kernel
set_option maxRecDepth 100000 in
theorem mx_dl47 : mx_cl47.all (mx_chk code) = true := by decide +kernel
set_option maxRecDepth 100000 in
theorem mx_dl48 : mx_cl48.all (mx_chk code) = true := by decide +kernel
set_option maxRecDepth 100000 in
theorem mx_dl49 : mx_cl49.all (mx_chk code) = true := by decide +kernel
set_option maxRecDepth 100000 in
theorem mx_dl50 : mx_cl50.all (mx_chk code) = true := by decide +kernel
set_option maxRecDepth 100000 in
theorem mx_dl51 : mx_cl51.all (mx_chk code) = true := by decide +kernel
set_option maxRecDepth 100000 in
theorem mx_dl52 : mx_cl52.all (mx_chk code) = true := by decide +kernel
set_option maxRecDepth 100000 in
theorem mx_dl53 : mx_cl53.all (mx_chk code) = true := by decide +kernel
set_option maxRecDepth 100000 in
theorem mx_dl54 : mx_cl54.all (mx_chk code) = true := by decide +kernel
set_option maxRecDepth 100000 in
theorem mx_dl55 : mx_cl55.all (mx_chk code) = true := by decide +kernel
set_option maxRecDepth 100000 in
theorem mx_dl56 : mx_cl56.all (mx_chk code) = true := by decide +kernel
end
section
set_option maxRecDepth 20000 in
theorem mx_dk168 : mx_ct168.all (fun c => c.all (mx_chk (mx_mb 168))) = true := List.all_eq_true.mpr (mx_fc mx_dl0 (mx_fc mx_dl1 (mx_fc mx_dl2 (mx_fc mx_dl3 (mx_fc mx_dl4 (mx_fc mx_dl5 (mx_fc mx_dl6 (mx_fc mx_dl7 (mx_fc mx_dl8 (mx_fc mx_dl9 (mx_fc mx_dl10 (mx_fc mx_dl11 (mx_fc mx_dl12 (mx_fc mx_dl13 (mx_fc mx_dl14 (mx_fc mx_dl15 (mx_fc mx_dl16 (mx_fc mx_dl17 (mx_fc mx_dl18 (mx_fc mx_dl19 (mx_fc mx_dl20 (mx_fc mx_dl21 (mx_fc mx_dl22 (mx_fc mx_dl23 (mx_fc mx_dl24 (mx_fc mx_dl25 (mx_fc mx_dl26 (mx_fc mx_dl27 (mx_fc mx_dl28 (mx_fc mx_dl29 (mx_fc mx_dl30 (mx_fc mx_dl31 (mx_fc mx_dl32 (mx_fc mx_dl33 (mx_fc mx_dl34 (mx_fc mx_dl35 (mx_fc mx_dl36 (mx_fc mx_dl37 (mx_fc mx_dl38 (mx_fc mx_dl39 (mx_fc mx_dl40 (mx_fc mx_dl41 (mx_fc mx_dl42 (mx_fc mx_dl43 (mx_fc mx_dl44 (mx_fc mx_dl45 (mx_fc mx_dl46 (mx_fc mx_dl47 (mx_fc mx_dl48 (mx_fc mx_dl49 (mx_fc mx_dl50 (mx_fc mx_dl51 (mx_fc mx_dl52 (mx_fc mx_dl53 (mx_fc mx_dl54 (mx_fc mx_dl55 (mx_fc mx_dl56 (mx_f0))))))))))))))))))))))))))))))))))))))))))))))))))))))))))
theorem mx_dkl {b : ByteArray} {l : List (List (Nat × Jvm.ClassFile.Instr))} (h : l.all (fun c => c.all (mx_chk b)) = true) {pc : Nat} {i : Jvm.ClassFile.Instr} (hc : ((l[pc / 16]?).getD []).lookup pc = some i) : ∃ len, decode b pc = .ok (i, len) ∧ (mx_isw i = true ∨ len = mx_ilen i) := by
  have hm := mx_lk hc
  cases hq : l[pc / 16]? with
  | none => rw [hq] at hm; simp at hm
  | some ch =>
    rw [hq] at hm
    exact mx_chk_ok (List.all_eq_true.mp (List.all_eq_true.mp h ch (List.mem_of_getElem? hq)) _ hm)
theorem mx_dp0 (j : Nat) (h : j < 16) : (mx_ix mx_cts (0 + j) []).all (fun c => c.all (mx_chk (mx_mb (0 + j)))) = true := by
  match j, h with
  | 0, _ => exact mx_dk0
  | 1, _ => exact mx_dk1
  | 2, _ => exact mx_dk2
  | 3, _ => exact mx_dk3
  | 4, _ => exact mx_dk4
  | 5, _ => exact mx_dk5
  | 6, _ => exact mx_dk6
  | 7, _ => exact mx_dk7
  | 8, _ => exact mx_dk8
  | 9, _ => exact mx_dk9
  | 10, _ => exact mx_dk10
  | 11, _ => exact mx_dk11
  | 12, _ => exact mx_dk12
  | 13, _ => exact mx_dk13
  | 14, _ => exact mx_dk14
  | 15, _ => exact mx_dk15
  | n + 16, h => omega
theorem mx_dp1 (j : Nat) (h : j < 16) : (mx_ix mx_cts (16 + j) []).all (fun c => c.all (mx_chk (mx_mb (16 + j)))) = true := by
  match j, h with
  | 0, _ => exact mx_dk16
  | 1, _ => exact mx_dk17
  | 2, _ => exact mx_dk18
  | 3, _ => exact mx_dk19
  | 4, _ => exact mx_dk20
  | 5, _ => exact mx_dk21
  | 6, _ => exact mx_dk22
  | 7, _ => exact mx_dk23
  | 8, _ => exact mx_dk24
  | 9, _ => exact mx_dk25
  | 10, _ => exact mx_dk26
  | 11, _ => exact mx_dk27
  | 12, _ => exact mx_dk28
  | 13, _ => exact mx_dk29
  | 14, _ => exact mx_dk30
  | 15, _ => exact mx_dk31
  | n + 16, h => omega
theorem mx_dp2 (j : Nat) (h : j < 16) : (mx_ix mx_cts (32 + j) []).all (fun c => c.all (mx_chk (mx_mb (32 + j)))) = true := by
  match j, h with
  | 0, _ => exact mx_dk32
  | 1, _ => exact mx_dk33
  | 2, _ => exact mx_dk34
  | 3, _ => exact mx_dk35
  | 4, _ => exact mx_dk36
  | 5, _ => exact mx_dk37
  | 6, _ => exact mx_dk38
  | 7, _ => exact mx_dk39
  | 8, _ => exact mx_dk40
  | 9, _ => exact mx_dk41
  | 10, _ => exact mx_dk42
  | 11, _ => exact mx_dk43
  | 12, _ => exact mx_dk44
  | 13, _ => exact mx_dk45
  | 14, _ => exact mx_dk46
  | 15, _ => exact mx_dk47
  | n + 16, h => omega
theorem mx_dp3 (j : Nat) (h : j < 16) : (mx_ix mx_cts (48 + j) []).all (fun c => c.all (mx_chk (mx_mb (48 + j)))) = true := by
  match j, h with
  | 0, _ => exact mx_dk48
  | 1, _ => exact mx_dk49
  | 2, _ => exact mx_dk50
  | 3, _ => exact mx_dk51
  | 4, _ => exact mx_dk52
  | 5, _ => exact mx_dk53
  | 6, _ => exact mx_dk54
  | 7, _ => exact mx_dk55
  | 8, _ => exact mx_dk56
  | 9, _ => exact mx_dk57
  | 10, _ => exact mx_dk58
  | 11, _ => exact mx_dk59
  | 12, _ => exact mx_dk60
  | 13, _ => exact mx_dk61
  | 14, _ => exact mx_dk62
  | 15, _ => exact mx_dk63
  | n + 16, h => omega
theorem mx_dp4 (j : Nat) (h : j < 16) : (mx_ix mx_cts (64 + j) []).all (fun c => c.all (mx_chk (mx_mb (64 + j)))) = true := by
  match j, h with
  | 0, _ => exact mx_dk64
  | 1, _ => exact mx_dk65
  | 2, _ => exact mx_dk66
  | 3, _ => exact mx_dk67
  | 4, _ => exact mx_dk68
  | 5, _ => exact mx_dk69
  | 6, _ => exact mx_dk70
  | 7, _ => exact mx_dk71
  | 8, _ => exact mx_dk72
  | 9, _ => exact mx_dk73
  | 10, _ => exact mx_dk74
  | 11, _ => exact mx_dk75
  | 12, _ => exact mx_dk76
  | 13, _ => exact mx_dk77
  | 14, _ => exact mx_dk78
  | 15, _ => exact mx_dk79
  | n + 16, h => omega
theorem mx_dp5 (j : Nat) (h : j < 16) : (mx_ix mx_cts (80 + j) []).all (fun c => c.all (mx_chk (mx_mb (80 + j)))) = true := by
  match j, h with
  | 0, _ => exact mx_dk80
  | 1, _ => exact mx_dk81
  | 2, _ => exact mx_dk82
  | 3, _ => exact mx_dk83
  | 4, _ => exact mx_dk84
  | 5, _ => exact mx_dk85
  | 6, _ => exact mx_dk86
  | 7, _ => exact mx_dk87
  | 8, _ => exact mx_dk88
  | 9, _ => exact mx_dk89
  | 10, _ => exact mx_dk90
  | 11, _ => exact mx_dk91
  | 12, _ => exact mx_dk92
  | 13, _ => exact mx_dk93
  | 14, _ => exact mx_dk94
  | 15, _ => exact mx_dk95
  | n + 16, h => omega
theorem mx_dp6 (j : Nat) (h : j < 16) : (mx_ix mx_cts (96 + j) []).all (fun c => c.all (mx_chk (mx_mb (96 + j)))) = true := by
  match j, h with
  | 0, _ => exact mx_dk96
  | 1, _ => exact mx_dk97
  | 2, _ => exact mx_dk98
  | 3, _ => exact mx_dk99
  | 4, _ => exact mx_dk100
  | 5, _ => exact mx_dk101
  | 6, _ => exact mx_dk102
  | 7, _ => exact mx_dk103
  | 8, _ => exact mx_dk104
  | 9, _ => exact mx_dk105
  | 10, _ => exact mx_dk106
  | 11, _ => exact mx_dk107
  | 12, _ => exact mx_dk108
  | 13, _ => exact mx_dk109
  | 14, _ => exact mx_dk110
  | 15, _ => exact mx_dk111
  | n + 16, h => omega
theorem mx_dp7 (j : Nat) (h : j < 16) : (mx_ix mx_cts (112 + j) []).all (fun c => c.all (mx_chk (mx_mb (112 + j)))) = true := by
  match j, h with
  | 0, _ => exact mx_dk112
  | 1, _ => exact mx_dk113
  | 2, _ => exact mx_dk114
  | 3, _ => exact mx_dk115
  | 4, _ => exact mx_dk116
  | 5, _ => exact mx_dk117
  | 6, _ => exact mx_dk118
  | 7, _ => exact mx_dk119
  | 8, _ => exact mx_dk120
  | 9, _ => exact mx_dk121
  | 10, _ => exact mx_dk122
  | 11, _ => exact mx_dk123
  | 12, _ => exact mx_dk124
  | 13, _ => exact mx_dk125
  | 14, _ => exact mx_dk126
  | 15, _ => exact mx_dk127
  | n + 16, h => omega
theorem mx_dp8 (j : Nat) (h : j < 16) : (mx_ix mx_cts (128 + j) []).all (fun c => c.all (mx_chk (mx_mb (128 + j)))) = true := by
  match j, h with
  | 0, _ => exact mx_dk128
  | 1, _ => exact mx_dk129
  | 2, _ => exact mx_dk130
  | 3, _ => exact mx_dk131
  | 4, _ => exact mx_dk132
  | 5, _ => exact mx_dk133
  | 6, _ => exact mx_dk134
  | 7, _ => exact mx_dk135
  | 8, _ => exact mx_dk136
  | 9, _ => exact mx_dk137
  | 10, _ => exact mx_dk138
  | 11, _ => exact mx_dk139
  | 12, _ => exact mx_dk140
  | 13, _ => exact mx_dk141
  | 14, _ => exact mx_dk142
  | 15, _ => exact mx_dk143
  | n + 16, h => omega
theorem mx_dp9 (j : Nat) (h : j < 16) : (mx_ix mx_cts (144 + j) []).all (fun c => c.all (mx_chk (mx_mb (144 + j)))) = true := by
  match j, h with
  | 0, _ => exact mx_dk144
  | 1, _ => exact mx_dk145
  | 2, _ => exact mx_dk146
  | 3, _ => exact mx_dk147
  | 4, _ => exact mx_dk148
  | 5, _ => exact mx_dk149
  | 6, _ => exact mx_dk150
  | 7, _ => exact mx_dk151
  | 8, _ => exact mx_dk152
  | 9, _ => exact mx_dk153
  | 10, _ => exact mx_dk154
  | 11, _ => exact mx_dk155
  | 12, _ => exact mx_dk156
  | 13, _ => exact mx_dk157
  | 14, _ => exact mx_dk158
  | 15, _ => exact mx_dk159
  | n + 16, h => omega
theorem mx_dp10 (j : Nat) (h : j < 9) : (mx_ix mx_cts (160 + j) []).all (fun c => c.all (mx_chk (mx_mb (160 + j)))) = true := by
  match j, h with
  | 0, _ => exact mx_dk160
  | 1, _ => exact mx_dk161
  | 2, _ => exact mx_dk162
  | 3, _ => exact mx_dk163
  | 4, _ => exact mx_dk164
  | 5, _ => exact mx_dk165
  | 6, _ => exact mx_dk166
  | 7, _ => exact mx_dk167
  | 8, _ => exact mx_dk168
  | n + 9, h => omega
theorem mx_dall (y : Nat) : (mx_ix mx_cts y []).all (fun c => c.all (mx_chk (mx_mb y))) = true := by
  by_cases h0 : y < 16
  · have e := mx_dp0 (y - 0) (by omega)
    rwa [show 0 + (y - 0) = y by omega] at e
  by_cases h16 : y < 32
  · have e := mx_dp1 (y - 16) (by omega)
    rwa [show 16 + (y - 16) = y by omega] at e
  by_cases h32 : y < 48
  · have e := mx_dp2 (y - 32) (by omega)
    rwa [show 32 + (y - 32) = y by omega] at e
  by_cases h48 : y < 64
  · have e := mx_dp3 (y - 48) (by omega)
    rwa [show 48 + (y - 48) = y by omega] at e
  by_cases h64 : y < 80
  · have e := mx_dp4 (y - 64) (by omega)
    rwa [show 64 + (y - 64) = y by omega] at e
  by_cases h80 : y < 96
  · have e := mx_dp5 (y - 80) (by omega)
    rwa [show 80 + (y - 80) = y by omega] at e
  by_cases h96 : y < 112
  · have e := mx_dp6 (y - 96) (by omega)
    rwa [show 96 + (y - 96) = y by omega] at e
  by_cases h112 : y < 128
  · have e := mx_dp7 (y - 112) (by omega)
    rwa [show 112 + (y - 112) = y by omega] at e
  by_cases h128 : y < 144
  · have e := mx_dp8 (y - 128) (by omega)
    rwa [show 128 + (y - 128) = y by omega] at e
  by_cases h144 : y < 160
  · have e := mx_dp9 (y - 144) (by omega)
    rwa [show 144 + (y - 144) = y by omega] at e
  by_cases h160 : y < 169
  · have e := mx_dp10 (y - 160) (by omega)
    rwa [show 160 + (y - 160) = y by omega] at e
  have e : mx_ix mx_cts y [] = [] := by
    unfold mx_ix
    by_cases h : y / 16 < 11
    · have h2 : y / 16 = 10 := by omega
      have h3 : 9 ≤ y % 16 := by omega
      rw [h2]
      have h4 : (((mx_cts[10]?).getD [])[y % 16]?) = none := List.getElem?_eq_none (by show 9 ≤ y % 16; exact h3)
      rw [h4]; rfl
    · have h4 : mx_cts[y / 16]? = none := List.getElem?_eq_none (by show 11 ≤ y / 16; omega)
      rw [h4]; simp
  rw [e]; rfl
theorem mx_dec {mid pc : Nat} {i : Jvm.ClassFile.Instr} (h : mx_code mid pc = some i) : ∃ len, decode (mx_mb mid) pc = .ok (i, len) ∧ (mx_isw i = true ∨ len = mx_ilen i) := mx_dkl (mx_dall mid) h
end
section
/-! THE ABSTRACT MACHINE: bytecode over typed heaps; 03 shows that the real machine does what it does. -/
abbrev mx_Ad : Type := Nat × Nat × Nat
abbrev mx_V : Type := Int32 ⊕ Int64 ⊕ Option mx_Ad
abbrev mx_i (x : Int32) : mx_V := Sum.inl x
abbrev mx_l (x : Int64) : mx_V := Sum.inr (Sum.inl x)
abbrev mx_r (a : Option mx_Ad) : mx_V := Sum.inr (Sum.inr a)
/-- a region: ints, longs, references (by tag, number, slot); how many of a tag; lengths -/
abbrev mx_Rg : Type := (Nat → Nat → Nat → Int32) × (Nat → Nat → Nat → Int64) × (Nat → Nat → Nat → Option mx_Ad) × (Nat → Nat) × (Nat → Nat → Nat)
/-- the class's region, the reference's, the script, and how many cells and slots were made -/
abbrev mx_Hp : Type := mx_Rg × mx_Rg × (Nat × (Nat → Int32)) × (Nat × Nat)
def mx_rg (σ : mx_Hp) (g : Nat) : mx_Rg := match g with
  | 0 => σ.1
  | 1 => σ.2.1
  | 2 => (fun _ _ k => σ.2.2.1.2 k, fun _ _ _ => 0, fun _ _ _ => none, fun t => if t = 63 then 1 else 0, fun _ _ => σ.2.2.1.1)
  | _ => (fun _ _ _ => 0, fun _ _ _ => 0, fun _ _ _ => none, fun _ => 0, fun _ _ => 0)
def mx_sg (σ : mx_Hp) (g : Nat) (r : mx_Rg) : mx_Hp := match g with
  | 0 => (r, σ.2)
  | 1 => (σ.1, r, σ.2.2)
  | _ => σ
def mx_I (σ : mx_Hp) (a : mx_Ad) (k : Nat) : Int32 := (mx_rg σ a.1).1 a.2.1 a.2.2 k
def mx_J (σ : mx_Hp) (a : mx_Ad) (k : Nat) : Int64 := (mx_rg σ a.1).2.1 a.2.1 a.2.2 k
def mx_R (σ : mx_Hp) (a : mx_Ad) (k : Nat) : Option mx_Ad := (mx_rg σ a.1).2.2.1 a.2.1 a.2.2 k
def mx_C (σ : mx_Hp) (g t : Nat) : Nat := (mx_rg σ g).2.2.2.1 t
def mx_N (σ : mx_Hp) (a : mx_Ad) : Nat := (mx_rg σ a.1).2.2.2.2 a.2.1 a.2.2
def mx_K (σ : mx_Hp) : Nat := σ.2.2.2.1
def mx_Z (σ : mx_Hp) : Nat := σ.2.2.2.2
def mx_u3 {α : Type} (f : Nat → Nat → Nat → α) (t i k : Nat) (v : α) : Nat → Nat → Nat → α := fun t' i' k' => if t' = t ∧ i' = i ∧ k' = k then v else f t' i' k'
def mx_u2 {α : Type} (f : Nat → Nat → α) (t i : Nat) (v : α) : Nat → Nat → α := fun t' i' => if t' = t ∧ i' = i then v else f t' i'
def mx_u1 {α : Type} (f : Nat → α) (t : Nat) (v : α) : Nat → α := fun t' => if t' = t then v else f t'
def mx_sI (σ : mx_Hp) (a : mx_Ad) (k : Nat) (v : Int32) : mx_Hp := mx_sg σ a.1 (mx_u3 (mx_rg σ a.1).1 a.2.1 a.2.2 k v, (mx_rg σ a.1).2)
def mx_sJ (σ : mx_Hp) (a : mx_Ad) (k : Nat) (v : Int64) : mx_Hp := mx_sg σ a.1 ((mx_rg σ a.1).1, mx_u3 (mx_rg σ a.1).2.1 a.2.1 a.2.2 k v, (mx_rg σ a.1).2.2)
def mx_sR (σ : mx_Hp) (a : mx_Ad) (k : Nat) (v : Option mx_Ad) : mx_Hp := mx_sg σ a.1 ((mx_rg σ a.1).1, (mx_rg σ a.1).2.1, mx_u3 (mx_rg σ a.1).2.2.1 a.2.1 a.2.2 k v, (mx_rg σ a.1).2.2.2)
/-- a new cell of tag t: of n places, z slots -/
def mx_alr (r : mx_Rg) (t n : Nat) : mx_Rg := (mx_u2 r.1 t (r.2.2.2.1 t) (fun _ => 0), mx_u2 r.2.1 t (r.2.2.2.1 t) (fun _ => 0), mx_u2 r.2.2.1 t (r.2.2.2.1 t) (fun _ => none), mx_u1 r.2.2.2.1 t (r.2.2.2.1 t + 1), mx_u2 r.2.2.2.2 t (r.2.2.2.1 t) n)
def mx_tick (σ : mx_Hp) (z : Nat) : mx_Hp := (σ.1, σ.2.1, σ.2.2.1, (σ.2.2.2.1 + 1, σ.2.2.2.2 + z))
def mx_al (σ : mx_Hp) (g t n z : Nat) : mx_Hp := mx_tick (mx_sg σ g (mx_alr (mx_rg σ g) t n)) z
/-- what a slot of a type holds -/
def mx_rd (σ : mx_Hp) (a : mx_Ad) (ty : FieldType) (k : Nat) : mx_V := match ty with
  | .long => mx_l (mx_J σ a k)
  | .object _ => mx_r (mx_R σ a k)
  | .array _ => mx_r (mx_R σ a k)
  | _ => mx_i (mx_I σ a k)
/-- a value is put into a field -/
def mx_wr (σ : mx_Hp) (a : mx_Ad) (ty : FieldType) (k : Nat) (v : mx_V) : Option mx_Hp := match ty, v with
  | .long, .inr (.inl x) => some (mx_sJ σ a k x)
  | .object _, .inr (.inr x) => some (mx_sR σ a k x)
  | .array _, .inr (.inr x) => some (mx_sR σ a k x)
  | .int, .inl x => some (mx_sI σ a k x)
  | .boolean, .inl x => if x = 0 ∨ x = 1 then some (mx_sI σ a k x) else none
  | _, _ => none
abbrev mx_L : Type := List (Option mx_V)
abbrev mx_St : Type := Nat × mx_L × List mx_V × mx_Hp
/-- goes on; or calls (method, arguments, where it goes on, the stack below); or answers -/
abbrev mx_Rs : Type := mx_St ⊕ ((Nat × List mx_V × Nat × List mx_V) ⊕ Option mx_V)
abbrev mx_nx (pc : Nat) (L : mx_L) (st : List mx_V) (σ : mx_Hp) : Option mx_Rs := some (Sum.inl (pc, L, st, σ))
/-- a long is whole while its second half is -/
def mx_hb (L : mx_L) (i : Nat) : mx_V → Bool
  | .inr (.inl _) => (match L[i + 1]? with | some none => true | _ => false)
  | _ => true
def mx_put1 (L : mx_L) (i : Nat) (v : mx_V) : mx_L := L.set i (some v)
def mx_put2 (L : mx_L) (i : Nat) (v : mx_V) : mx_L := (L.set i (some v)).set (i + 1) none
def mx_ildc (L : mx_L) (i q : Nat) (st : List mx_V) (σ : mx_Hp) : Option mx_Rs := match L[i]? with
  | some (some (.inl x)) => mx_nx q L (.inl x :: st) σ
  | _ => none
def mx_lldc (L : mx_L) (i q : Nat) (st : List mx_V) (σ : mx_Hp) : Option mx_Rs := match L[i]? with
  | some (some (.inr (.inl x))) => bif mx_hb L i (.inr (.inl x)) then mx_nx q L (.inr (.inl x) :: st) σ else none
  | _ => none
def mx_aldc (L : mx_L) (i q : Nat) (st : List mx_V) (σ : mx_Hp) : Option mx_Rs := match L[i]? with
  | some (some (.inr (.inr x))) => mx_nx q L (.inr (.inr x) :: st) σ
  | _ => none
def mx_istc (nL : Nat) (L : mx_L) (i q : Nat) (st : List mx_V) (σ : mx_Hp) : Option mx_Rs := match st with
  | .inl x :: r => bif Nat.blt i nL then mx_nx q (mx_put1 L i (.inl x)) r σ else none
  | _ => none
def mx_lstc (nL : Nat) (L : mx_L) (i q : Nat) (st : List mx_V) (σ : mx_Hp) : Option mx_Rs := match st with
  | .inr (.inl x) :: r => bif Nat.blt (i + 1) nL then mx_nx q (mx_put2 L i (.inr (.inl x))) r σ else none
  | _ => none
def mx_astc (nL : Nat) (L : mx_L) (i q : Nat) (st : List mx_V) (σ : mx_Hp) : Option mx_Rs := match st with
  | .inr (.inr x) :: r => bif Nat.blt i nL then mx_nx q (mx_put1 L i (.inr (.inr x))) r σ else none
  | _ => none
def mx_b2 (f : Int32 → Int32 → Int32) (q : Nat) (L : mx_L) (st : List mx_V) (σ : mx_Hp) : Option mx_Rs := match st with
  | .inl y :: .inl x :: r => mx_nx q L (.inl (f x y) :: r) σ
  | _ => none
def mx_d2 (f : Int32 → Int32 → Int32) (q : Nat) (L : mx_L) (st : List mx_V) (σ : mx_Hp) : Option mx_Rs := match st with
  | .inl y :: .inl x :: r => if y = 0 then none else mx_nx q L (.inl (f x y) :: r) σ
  | _ => none
def mx_m2 (f : Int64 → Int64 → Int64) (q : Nat) (L : mx_L) (st : List mx_V) (σ : mx_Hp) : Option mx_Rs := match st with
  | .inr (.inl y) :: .inr (.inl x) :: r => mx_nx q L (.inr (.inl (f x y)) :: r) σ
  | _ => none
def mx_s2 (f : Int64 → Int32 → Int64) (q : Nat) (L : mx_L) (st : List mx_V) (σ : mx_Hp) : Option mx_Rs := match st with
  | .inl y :: .inr (.inl x) :: r => mx_nx q L (.inr (.inl (f x y)) :: r) σ
  | _ => none
def mx_b1 (f : Int32 → mx_V) (q : Nat) (L : mx_L) (st : List mx_V) (σ : mx_Hp) : Option mx_Rs := match st with
  | .inl x :: r => mx_nx q L (f x :: r) σ
  | _ => none
def mx_m1 (f : Int64 → mx_V) (q : Nat) (L : mx_L) (st : List mx_V) (σ : mx_Hp) : Option mx_Rs := match st with
  | .inr (.inl x) :: r => mx_nx q L (f x :: r) σ
  | _ => none
/-- where a jump goes -/
def mx_to (pc : Nat) (off : Int) : Option Nat := match (pc : Int) + off with
  | .ofNat q => some q
  | _ => none
def mx_br (b : Bool) (pc : Nat) (off : Int) (L : mx_L) (st : List mx_V) (σ : mx_Hp) : Option mx_Rs := match mx_to pc off with
  | some q => some (Sum.inl (bif b then q else pc + 3, L, st, σ))
  | none => none
def mx_cd (c : Jvm.ClassFile.Cond) (x y : Int32) : Bool := match c with
  | .eq => decide (x = y)
  | .ne => !decide (x = y)
  | .lt => decide (x < y)
  | .ge => decide (y ≤ x)
  | .gt => decide (y < x)
  | .le => decide (x ≤ y)
/-- a place of an array -/
def mx_at (σ : mx_Hp) (a : mx_Ad) (i : Int32) : Bool := !(decide (i < 0) || decide (mx_N σ a ≤ i.toNatClampNeg))
def mx_ald (ty : FieldType → Bool) (q : Nat) (L : mx_L) (st : List mx_V) (σ : mx_Hp) : Option mx_Rs := match st with
  | .inl i :: .inr (.inr (some a)) :: r => match mx_knd a.2.1 with
    | .inr t => bif ty t && mx_at σ a i then mx_nx q L (mx_rd σ a t i.toNatClampNeg :: r) σ else none
    | _ => none
  | _ => none
def mx_iast (q : Nat) (L : mx_L) (st : List mx_V) (σ : mx_Hp) : Option mx_Rs := match st with
  | .inl x :: .inl i :: .inr (.inr (some a)) :: r => match mx_knd a.2.1 with
    | .inr .int => bif Nat.blt a.1 2 && mx_at σ a i then mx_nx q L r (mx_sI σ a i.toNatClampNeg x) else none
    | _ => none
  | _ => none
def mx_bast (q : Nat) (L : mx_L) (st : List mx_V) (σ : mx_Hp) : Option mx_Rs := match st with
  | .inl x :: .inl i :: .inr (.inr (some a)) :: r => match mx_knd a.2.1 with
    | .inr .byte => bif Nat.blt a.1 2 && mx_at σ a i then mx_nx q L r (mx_sI σ a i.toNatClampNeg (vp_nar .byte x)) else none
    | .inr .boolean => bif Nat.blt a.1 2 && mx_at σ a i then mx_nx q L r (mx_sI σ a i.toNatClampNeg (vp_nar .boolean x)) else none
    | _ => none
  | _ => none
def mx_last (q : Nat) (L : mx_L) (st : List mx_V) (σ : mx_Hp) : Option mx_Rs := match st with
  | .inr (.inl x) :: .inl i :: .inr (.inr (some a)) :: r => match mx_knd a.2.1 with
    | .inr .long => bif Nat.blt a.1 2 && mx_at σ a i then mx_nx q L r (mx_sJ σ a i.toNatClampNeg x) else none
    | _ => none
  | _ => none
/-- an object into an array of its own class's -/
def mx_aast (q : Nat) (L : mx_L) (st : List mx_V) (σ : mx_Hp) : Option mx_Rs := match st with
  | .inr (.inr (some b)) :: .inl i :: .inr (.inr (some a)) :: r => match mx_knd a.2.1, mx_knd b.2.1 with
    | .inr (.object C), .inl ci => bif Nat.blt a.1 2 && Nat.blt b.1 2 && mx_at σ a i && decide ((mx_cls[ci]?).map (fun q => q.1) = some C) then mx_nx q L r (mx_sR σ a i.toNatClampNeg (some b)) else none
    | _, _ => none
  | _ => none
def mx_get (mid idx q : Nat) (L : mx_L) (st : List mx_V) (σ : mx_Hp) : Option mx_Rs := match mx_fld (mx_mc mid) idx, st with
  | some (ci, k, _), .inr (.inr (some (g, t, i))) :: r => bif Nat.beq t ci && Nat.blt g 2 then mx_nx q L (mx_rd σ (g, t, i) (mx_fty ci k) k :: r) σ else none
  | _, _ => none
def mx_pt (mid idx q : Nat) (L : mx_L) (st : List mx_V) (σ : mx_Hp) : Option mx_Rs := match mx_fld (mx_mc mid) idx, st with
  | some (ci, k, nst), v :: .inr (.inr (some (g, t, i))) :: r => bif Nat.beq t ci && Nat.blt g 2 && (!mx_fin ci k || (mx_mi mid && Nat.beq (mx_mc mid) ci && !nst)) then (match mx_wr σ (g, t, i) (mx_fty ci k) k v with | some σ' => mx_nx q L r σ' | none => none) else none
  | _, _ => none
def mx_nw (mid idx q : Nat) (L : mx_L) (st : List mx_V) (σ : mx_Hp) : Option mx_Rs := match mx_new (mx_mc mid) idx with
  | some ci => bif Nat.blt (mx_crg ci) 2 then mx_nx q L (mx_r (some (mx_crg ci, ci, mx_C σ (mx_crg ci) ci)) :: st) (mx_al σ (mx_crg ci) ci 0 (mx_fn ci)) else none
  | none => none
/-- a new array of a type, of the tag that its place in the code has -/
def mx_na (mid pc : Nat) (ty : FieldType) (q : Nat) (L : mx_L) (st : List mx_V) (σ : mx_Hp) : Option mx_Rs := match mx_site mid pc, st with
  | some (g, t), .inl n :: r => bif Nat.blt g 2 && decide (mx_knd t = Sum.inr ty) && !decide (n < 0) && Nat.ble n.toNatClampNeg 65536 then mx_nx q L (mx_r (some (g, t, mx_C σ g t)) :: r) (mx_al σ g t n.toNatClampNeg n.toNatClampNeg) else none
  | _, _ => none
def mx_len (q : Nat) (L : mx_L) (st : List mx_V) (σ : mx_Hp) : Option mx_Rs := match st with
  | .inr (.inr (some a)) :: r => match mx_knd a.2.1 with
    | .inr _ => mx_nx q L (mx_i (Int32.ofNat (mx_N σ a)) :: r) σ
    | _ => none
  | _ => none
/-- the stack's n upper ones, the lowest of them first -/
def mx_pop : Nat → List mx_V → List mx_V → Option (List mx_V × List mx_V)
  | 0, st, acc => some (acc, st)
  | n + 1, v :: st, acc => mx_pop n st (v :: acc)
  | _ + 1, [], _ => none
def mx_w : mx_V → Nat
  | .inr (.inl _) => 2
  | _ => 1
def mx_wd : List mx_V → Nat
  | [] => 0
  | v :: r => mx_w v + mx_wd r
def mx_callS (mid idx q : Nat) (st : List mx_V) : Option mx_Rs := match mx_cal (mx_mc mid) idx with
  | some (y, _) => bif mx_ms y then (match mx_pop (mx_mn y) st [] with | some (as, r) => bif Nat.ble (mx_wd r) 8 then some (Sum.inr (Sum.inl (y, as, q, r))) else none | none => none) else none
  | none => none
/-- receiver and arguments: of the callee's own class -/
def mx_callV (mid idx q : Nat) (st : List mx_V) : Option mx_Rs := match mx_cal (mx_mc mid) idx with
  | some (y, _) => bif !mx_ms y && !mx_mi y then (match mx_pop (mx_mn y) st [] with
    | some (as, .inr (.inr (some (g, t, i))) :: r) => bif Nat.beq t (mx_mc y) && Nat.blt g 2 && Nat.ble (mx_wd r) 8 then some (Sum.inr (Sum.inl (y, mx_r (some (g, t, i)) :: as, q, r))) else none
    | _ => none) else none
  | none => none
def mx_callI (mid idx q : Nat) (L : mx_L) (st : List mx_V) (σ : mx_Hp) : Option mx_Rs := bif mx_obi (mx_mc mid) idx then (match st with
    | .inr (.inr (some _)) :: r => bif Nat.ble (mx_wd r) 8 then mx_nx q L r σ else none
    | _ => none) else match mx_cal (mx_mc mid) idx with
  | some (y, _) => bif !mx_ms y && mx_mi y then (match mx_pop (mx_mn y) st [] with
    | some (as, .inr (.inr (some (g, t, i))) :: r) => bif Nat.ble (mx_wd r) 8 then some (Sum.inr (Sum.inl (y, mx_r (some (g, t, i)) :: as, q, r))) else none
    | _ => none) else none
  | none => none
def mx_ireturn (mid : Nat) (st : List mx_V) : Option mx_Rs := match mx_mr mid, st with
  | some .int, [.inl x] => some (Sum.inr (Sum.inr (some (.inl x))))
  | some .boolean, [.inl x] => if x = 0 ∨ x = 1 then some (Sum.inr (Sum.inr (some (.inl x)))) else none
  | _, _ => none
def mx_lreturn (mid : Nat) (st : List mx_V) : Option mx_Rs := match mx_mr mid, st with
  | some .long, [.inr (.inl x)] => some (Sum.inr (Sum.inr (some (.inr (.inl x)))))
  | _, _ => none
def mx_areturn (mid : Nat) (st : List mx_V) : Option mx_Rs := match mx_mr mid, st with
  | some (.object _), [.inr (.inr x)] => some (Sum.inr (Sum.inr (some (.inr (.inr x)))))
  | some (.array _), [.inr (.inr x)] => some (Sum.inr (Sum.inr (some (.inr (.inr x)))))
  | _, _ => none
def mx_vreturn (mid : Nat) (st : List mx_V) : Option mx_Rs := match mx_mr mid, st with
  | none, [] => some (Sum.inr (Sum.inr none))
  | _, _ => none
def mx_dup (q : Nat) (L : mx_L) (st : List mx_V) (σ : mx_Hp) : Option mx_Rs := match st with
  | .inl x :: r => mx_nx q L (.inl x :: .inl x :: r) σ
  | .inr (.inr x) :: r => mx_nx q L (.inr (.inr x) :: .inr (.inr x) :: r) σ
  | _ => none
def mx_popc (q : Nat) (L : mx_L) (st : List mx_V) (σ : mx_Hp) : Option mx_Rs := match st with
  | .inl _ :: r => mx_nx q L r σ
  | .inr (.inr _) :: r => mx_nx q L r σ
  | _ => none
/-- where a table of ints sends x -/
def mx_tsw (dflt lo hi : Int) (offs : Array Int) (x : Int32) : Option Int := if x.toInt < lo ∨ hi < x.toInt then some dflt else offs[(x.toInt - lo).toNat]?
def mx_sw (o : Option Int) (pc : Nat) (L : mx_L) (r : List mx_V) (σ : mx_Hp) : Option mx_Rs := match o with
  | some off => (match mx_to pc off with | some q => mx_nx q L r σ | none => none)
  | none => none
def mx_isI : FieldType → Bool | .int => true | _ => false
def mx_isB : FieldType → Bool | .byte => true | .boolean => true | _ => false
def mx_isJ : FieldType → Bool | .long => true | _ => false
def mx_isA : FieldType → Bool | .object _ => true | _ => false
def mx_ldcc (o : Option Int32) (q : Nat) (L : mx_L) (st : List mx_V) (σ : mx_Hp) : Option mx_Rs := match o with
  | some v => mx_nx q L (mx_i v :: st) σ
  | none => none
def mx_ldlc (o : Option Int64) (q : Nat) (L : mx_L) (st : List mx_V) (σ : mx_Hp) : Option mx_Rs := match o with
  | some v => mx_nx q L (mx_l v :: st) σ
  | none => none
def mx_iincc (nL : Nat) (L : mx_L) (k : Nat) (n : Int) (q : Nat) (st : List mx_V) (σ : mx_Hp) : Option mx_Rs := match L[k]? with
  | some (some (.inl x)) => bif Nat.blt k nL then mx_nx q (mx_put1 L k (.inl (x + Int32.ofInt n))) st σ else none
  | _ => none
def mx_lcmpc (q : Nat) (L : mx_L) (st : List mx_V) (σ : mx_Hp) : Option mx_Rs := match st with
  | .inr (.inl y) :: .inr (.inl x) :: r => mx_nx q L (mx_i (lg_cmp x y) :: r) σ
  | _ => none
def mx_ifcc (c : Jvm.ClassFile.Cond) (pc : Nat) (off : Int) (L : mx_L) (st : List mx_V) (σ : mx_Hp) : Option mx_Rs := match st with
  | .inl x :: r => mx_br (mx_cd c x 0) pc off L r σ
  | _ => none
def mx_icmc (c : Jvm.ClassFile.Cond) (pc : Nat) (off : Int) (L : mx_L) (st : List mx_V) (σ : mx_Hp) : Option mx_Rs := match st with
  | .inl y :: .inl x :: r => mx_br (mx_cd c x y) pc off L r σ
  | _ => none
def mx_tswc (dflt lo hi : Int) (offs : Array Int) (pc : Nat) (L : mx_L) (st : List mx_V) (σ : mx_Hp) : Option mx_Rs := match st with
  | .inl x :: r => mx_sw (mx_tsw dflt lo hi offs x) pc L r σ
  | _ => none
def mx_lswc (dflt : Int) (ps : Array (Int × Int)) (pc : Nat) (L : mx_L) (st : List mx_V) (σ : mx_Hp) : Option mx_Rs := match st with
  | .inl x :: r => bif (ps.toList.zip (ps.toList.drop 1)).all (fun (a, next) => a.1 < next.1) then mx_sw (some (Op.lookupswitch.offset ps.toList dflt x.toInt)) pc L r σ else none
  | _ => none
def mx_anwc (o : Option String) (mid pc q : Nat) (L : mx_L) (st : List mx_V) (σ : mx_Hp) : Option mx_Rs := match o with
  | some C => mx_na mid pc (.object C) q L st σ
  | none => none
def mx_exec (mid pc : Nat) (i : Jvm.ClassFile.Instr) (L : mx_L) (st : List mx_V) (σ : mx_Hp) : Option mx_Rs := match i with
  | .iconst n => mx_nx (pc + 1) L (mx_i (Int32.ofInt n) :: st) σ
  | .bipush n => mx_nx (pc + 2) L (mx_i (Int8.ofInt n).toInt32 :: st) σ
  | .sipush n => mx_nx (pc + 3) L (mx_i (Int16.ofInt n).toInt32 :: st) σ
  | .lconst n => mx_nx (pc + 1) L (mx_l (Int64.ofNat n) :: st) σ
  | .ldc idx => mx_ldcc (mx_ic (mx_mc mid) idx) (pc + 2) L st σ
  | .ldc2_w idx => mx_ldlc (mx_lc (mx_mc mid) idx) (pc + 3) L st σ
  | .iload_n k => mx_ildc L k (pc + 1) st σ
  | .iload k => mx_ildc L k (pc + 2) st σ
  | .lload_n k => mx_lldc L k (pc + 1) st σ
  | .lload k => mx_lldc L k (pc + 2) st σ
  | .aload_n k => mx_aldc L k (pc + 1) st σ
  | .aload k => mx_aldc L k (pc + 2) st σ
  | .istore_n k => mx_istc (mx_mL mid) L k (pc + 1) st σ
  | .istore k => mx_istc (mx_mL mid) L k (pc + 2) st σ
  | .lstore_n k => mx_lstc (mx_mL mid) L k (pc + 1) st σ
  | .lstore k => mx_lstc (mx_mL mid) L k (pc + 2) st σ
  | .astore_n k => mx_astc (mx_mL mid) L k (pc + 1) st σ
  | .astore k => mx_astc (mx_mL mid) L k (pc + 2) st σ
  | .iinc k n => mx_iincc (mx_mL mid) L k n (pc + 3) st σ
  | .iadd => mx_b2 (fun x y => x + y) (pc + 1) L st σ
  | .isub => mx_b2 (fun x y => x - y) (pc + 1) L st σ
  | .imul => mx_b2 (fun x y => x * y) (pc + 1) L st σ
  | .iand => mx_b2 (fun x y => x &&& y) (pc + 1) L st σ
  | .ior => mx_b2 (fun x y => x ||| y) (pc + 1) L st σ
  | .ixor => mx_b2 (fun x y => x ^^^ y) (pc + 1) L st σ
  | .ishl => mx_b2 (fun x y => x <<< (y &&& 31)) (pc + 1) L st σ
  | .ishr => mx_b2 (fun x y => x >>> (y &&& 31)) (pc + 1) L st σ
  | .iushr => mx_b2 (fun x y => (x.toUInt32 >>> (y.toUInt32 &&& Int32.toUInt32 31)).toInt32) (pc + 1) L st σ
  | .idiv => mx_d2 (fun x y => x / y) (pc + 1) L st σ
  | .irem => mx_d2 (fun x y => x - x / y * y) (pc + 1) L st σ
  | .ladd => mx_m2 (fun x y => x + y) (pc + 1) L st σ
  | .lsub => mx_m2 (fun x y => x - y) (pc + 1) L st σ
  | .land => mx_m2 (fun x y => x &&& y) (pc + 1) L st σ
  | .lor => mx_m2 (fun x y => x ||| y) (pc + 1) L st σ
  | .lxor => mx_m2 (fun x y => x ^^^ y) (pc + 1) L st σ
  | .lushr => mx_s2 (fun x y => (x.toUInt64 >>> (y.toInt64.toUInt64 &&& Int64.toUInt64 63)).toInt64) (pc + 1) L st σ
  | .lshl => mx_s2 (fun x y => x <<< (y.toInt64 &&& 63)) (pc + 1) L st σ
  | .lshr => mx_s2 (fun x y => x >>> (y.toInt64 &&& 63)) (pc + 1) L st σ
  | .ineg => mx_b1 (fun x => mx_i (-x)) (pc + 1) L st σ
  | .i2l => mx_b1 (fun x => mx_l x.toInt64) (pc + 1) L st σ
  | .i2b => mx_b1 (fun x => mx_i x.toInt8.toInt32) (pc + 1) L st σ
  | .l2i => mx_m1 (fun x => mx_i x.toInt32) (pc + 1) L st σ
  | .lcmp => mx_lcmpc (pc + 1) L st σ
  | .dup => mx_dup (pc + 1) L st σ
  | .pop => mx_popc (pc + 1) L st σ
  | .goto off => mx_br true pc off L st σ
  | .ifCond c off => mx_ifcc c pc off L st σ
  | .if_icmp c off => mx_icmc c pc off L st σ
  | .tableswitch dflt lo hi offs => mx_tswc dflt lo hi offs pc L st σ
  | .lookupswitch dflt ps => mx_lswc dflt ps pc L st σ
  | .iaload => mx_ald mx_isI (pc + 1) L st σ
  | .baload => mx_ald mx_isB (pc + 1) L st σ
  | .laload => mx_ald mx_isJ (pc + 1) L st σ
  | .aaload => mx_ald mx_isA (pc + 1) L st σ
  | .iastore => mx_iast (pc + 1) L st σ
  | .bastore => mx_bast (pc + 1) L st σ
  | .lastore => mx_last (pc + 1) L st σ
  | .aastore => mx_aast (pc + 1) L st σ
  | .arraylength => mx_len (pc + 1) L st σ
  | .getfield idx => mx_get mid idx (pc + 3) L st σ
  | .putfield idx => mx_pt mid idx (pc + 3) L st σ
  | .new idx => mx_nw mid idx (pc + 3) L st σ
  | .newarray at_ => mx_na mid pc (newarray.typeOf at_) (pc + 2) L st σ
  | .anewarray idx => mx_anwc (mx_anw (mx_mc mid) idx) mid pc (pc + 3) L st σ
  | .invokestatic idx => mx_callS mid idx (pc + 3) st
  | .invokevirtual idx => mx_callV mid idx (pc + 3) st
  | .invokespecial idx => mx_callI mid idx (pc + 3) L st σ
  | .ireturn => mx_ireturn mid st
  | .lreturn => mx_lreturn mid st
  | .areturn => mx_areturn mid st
  | .return_ => mx_vreturn mid st
  | _ => none
def mx_step (mid pc : Nat) (L : mx_L) (st : List mx_V) (σ : mx_Hp) : Option mx_Rs := match mx_code mid pc with
  | some i => mx_exec mid pc i L st σ
  | none => none
/-- the locals with which a method begins -/
def mx_args : List mx_V → mx_L
  | [] => []
  | .inr (.inl x) :: r => some (.inr (.inl x)) :: none :: mx_args r
  | v :: r => some v :: mx_args r
def mx_ent (mid : Nat) (as : List mx_V) : mx_L := mx_args as ++ List.replicate (mx_mL mid - (mx_args as).length) none
def mx_psh (r : Option mx_V) (st : List mx_V) : List mx_V := match r with
  | some v => v :: st
  | none => st
def mx_ev : Nat → Nat → Nat → Nat → mx_L → List mx_V → mx_Hp → Option (Option mx_V × mx_Hp)
  | 0, _, _, _, _, _, _ => none
  | n + 1, d, mid, pc, L, st, σ => match mx_step mid pc L st σ with
    | none => none
    | some (.inl (pc', L', st', σ')) => mx_ev n d mid pc' L' st' σ'
    | some (.inr (.inl (y, as, pc', r))) => (match d with
      | 0 => none
      | d' + 1 => bif Nat.ble (mx_args as).length (mx_mL y) then (match mx_ev n d' y 0 (mx_ent y as) [] σ with
        | none => none
        | some (v, σ') => mx_ev n (d' + 1) mid pc' L (mx_psh v r) σ') else none)
    | some (.inr (.inr v)) => some (v, σ)
end
section
/-! what the abstract heap says of the real one -/
def mx_tv (ρ : mx_Ad → Nat) : mx_V → Value
  | .inl x => .int x
  | .inr (.inl x) => .long x
  | .inr (.inr none) => .null
  | .inr (.inr (some a)) => .ref (ρ a)
def mx_ok (σ : mx_Hp) (a : mx_Ad) : Prop := a.2.2 < mx_C σ a.1 a.2.1
def mx_vk (σ : mx_Hp) : mx_V → Prop
  | .inr (.inr (some a)) => mx_ok σ a
  | _ => True
/-- classes, their fields' places, array classes, the script's cell -/
abbrev mx_D : Type := (Nat → ClassId) × (Nat → Nat → Nat) × (FieldType → ClassId) × Cell
def mx_cellO (D : mx_D) (ρ : mx_Ad → Nat) (σ : mx_Hp) (H : Heap) (a : mx_Ad) (ci : Nat) : Prop := ∃ q : vw_C, mx_cls[ci]? = some q ∧ t_OB (ρ a) (D.1 ci) q.2.2 (D.2.1 ci) H (fun k => mx_tv ρ (mx_rd σ a (mx_fty ci k) k))
def mx_cellA (D : mx_D) (ρ : mx_Ad → Nat) (σ : mx_Hp) (H : Heap) (a : mx_Ad) (ty : FieldType) : Prop := H[ρ a]? = some (arrV (D.2.2.1 ty) (mx_N σ a) (fun k => mx_tv ρ (mx_rd σ a ty k)))
def mx_cellS (D : mx_D) (ρ : mx_Ad → Nat) (σ : mx_Hp) (H : Heap) (a : mx_Ad) : Prop := H[ρ a]? = some D.2.2.2 ∧ D.2.2.2.vm ≠ .unknown ∧ D.2.2.2.slots.size = mx_N σ a ∧ ∀ k, k < mx_N σ a → D.2.2.2.slots[k]? = some (.int (mx_I σ a k))
def mx_cell (D : mx_D) (ρ : mx_Ad → Nat) (σ : mx_Hp) (H : Heap) (a : mx_Ad) : Prop := (2 ≤ a.1 → mx_cellS D ρ σ H a) ∧ (a.1 < 2 → match mx_knd a.2.1 with
  | .inl ci => mx_cellO D ρ σ H a ci
  | .inr ty => mx_cellA D ρ σ H a ty)
def mx_Rep (D : mx_D) (z0 : Nat) (ρ : mx_Ad → Nat) (σ : mx_Hp) (H : Heap) : Prop :=
  (∀ a, mx_ok σ a → mx_cell D ρ σ H a) ∧ (∀ a b, mx_ok σ a → mx_ok σ b → ρ a = ρ b → a = b) ∧ (∀ a k b, mx_ok σ a → mx_R σ a k = some b → mx_ok σ b) ∧ (∀ a, mx_ok σ a → a.1 < 2 → z0 ≤ ρ a)
def mx_Ext (ρ : mx_Ad → Nat) (σ : mx_Hp) (ρ' : mx_Ad → Nat) (σ' : mx_Hp) : Prop := ∀ a, mx_ok σ a → mx_ok σ' a ∧ ρ' a = ρ a
theorem mx_Ext.rf {ρ : mx_Ad → Nat} {σ : mx_Hp} : mx_Ext ρ σ ρ σ := fun _ h => ⟨h, rfl⟩
theorem mx_Ext.tr {ρ ρ1 ρ2 : mx_Ad → Nat} {σ σ1 σ2 : mx_Hp} (h : mx_Ext ρ σ ρ1 σ1) (h2 : mx_Ext ρ1 σ1 ρ2 σ2) : mx_Ext ρ σ ρ2 σ2 := fun a ha => ⟨(h2 a (h a ha).1).1, (h2 a (h a ha).1).2.trans (h a ha).2⟩
theorem mx_Ext.tv {ρ ρ' : mx_Ad → Nat} {σ σ' : mx_Hp} (h : mx_Ext ρ σ ρ' σ') {v : mx_V} (hv : mx_vk σ v) : mx_tv ρ' v = mx_tv ρ v ∧ mx_vk σ' v := by
  match v, hv with
  | .inl x, _ => exact ⟨rfl, trivial⟩
  | .inr (.inl x), _ => exact ⟨rfl, trivial⟩
  | .inr (.inr none), _ => exact ⟨rfl, trivial⟩
  | .inr (.inr (some a)), hv => exact ⟨congrArg Value.ref (h a hv).2, (h a hv).1⟩
/-! regions -/
theorem mx_rgs {σ : mx_Hp} {g : Nat} (hg : g < 2) (r : mx_Rg) (g' : Nat) : mx_rg (mx_sg σ g r) g' = if g' = g then r else mx_rg σ g' := by
  have h : g = 0 ∨ g = 1 := by omega
  rcases h with rfl | rfl <;> match g' with
    | 0 => simp [mx_rg, mx_sg]
    | 1 => simp [mx_rg, mx_sg]
    | 2 => simp [mx_rg, mx_sg]
    | n + 3 => simp [mx_rg, mx_sg]
theorem mx_sgK (σ : mx_Hp) (g : Nat) (r : mx_Rg) : mx_K (mx_sg σ g r) = mx_K σ ∧ mx_Z (mx_sg σ g r) = mx_Z σ := by
  match g with
  | 0 => exact ⟨rfl, rfl⟩
  | 1 => exact ⟨rfl, rfl⟩
  | n + 2 => exact ⟨rfl, rfl⟩
theorem mx_rgt (σ : mx_Hp) (z g : Nat) : mx_rg (mx_tick σ z) g = mx_rg σ g := by
  match g with
  | 0 => rfl
  | 1 => rfl
  | 2 => rfl
  | n + 3 => rfl
section MXW
variable {σ : mx_Hp} {a : mx_Ad} {k : Nat}
theorem mx_I_sI (hg : a.1 < 2) (v : Int32) (b : mx_Ad) (j : Nat) : mx_I (mx_sI σ a k v) b j = if b = a ∧ j = k then v else mx_I σ b j := by
  obtain ⟨g, t, i⟩ := a
  obtain ⟨g', t', i'⟩ := b
  simp only [mx_I, mx_sI]
  rw [mx_rgs hg]
  by_cases h : g' = g
  · subst h
    simp [mx_u3, and_assoc]
  · simp [h]
theorem mx_J_sJ (hg : a.1 < 2) (v : Int64) (b : mx_Ad) (j : Nat) : mx_J (mx_sJ σ a k v) b j = if b = a ∧ j = k then v else mx_J σ b j := by
  obtain ⟨g, t, i⟩ := a
  obtain ⟨g', t', i'⟩ := b
  simp only [mx_J, mx_sJ]
  rw [mx_rgs hg]
  by_cases h : g' = g
  · subst h
    simp [mx_u3, and_assoc]
  · simp [h]
theorem mx_R_sR (hg : a.1 < 2) (v : Option mx_Ad) (b : mx_Ad) (j : Nat) : mx_R (mx_sR σ a k v) b j = if b = a ∧ j = k then v else mx_R σ b j := by
  obtain ⟨g, t, i⟩ := a
  obtain ⟨g', t', i'⟩ := b
  simp only [mx_R, mx_sR]
  rw [mx_rgs hg]
  by_cases h : g' = g
  · subst h
    simp [mx_u3, and_assoc]
  · simp [h]
theorem mx_sI_o (hg : a.1 < 2) (v : Int32) : (∀ b j, mx_J (mx_sI σ a k v) b j = mx_J σ b j) ∧ (∀ b j, mx_R (mx_sI σ a k v) b j = mx_R σ b j) ∧ (∀ g t, mx_C (mx_sI σ a k v) g t = mx_C σ g t) ∧ (∀ b, mx_N (mx_sI σ a k v) b = mx_N σ b) ∧ mx_K (mx_sI σ a k v) = mx_K σ ∧ mx_Z (mx_sI σ a k v) = mx_Z σ := by
  refine ⟨fun b j => ?_, fun b j => ?_, fun g t => ?_, fun b => ?_, (mx_sgK _ _ _).1, (mx_sgK _ _ _).2⟩
  · simp only [mx_J, mx_sI]
    rw [mx_rgs hg]
    split <;> simp_all
  · simp only [mx_R, mx_sI]
    rw [mx_rgs hg]
    split <;> simp_all
  · simp only [mx_C, mx_sI]
    rw [mx_rgs hg]
    split <;> simp_all
  · simp only [mx_N, mx_sI]
    rw [mx_rgs hg]
    split <;> simp_all
theorem mx_sJ_o (hg : a.1 < 2) (v : Int64) : (∀ b j, mx_I (mx_sJ σ a k v) b j = mx_I σ b j) ∧ (∀ b j, mx_R (mx_sJ σ a k v) b j = mx_R σ b j) ∧ (∀ g t, mx_C (mx_sJ σ a k v) g t = mx_C σ g t) ∧ (∀ b, mx_N (mx_sJ σ a k v) b = mx_N σ b) ∧ mx_K (mx_sJ σ a k v) = mx_K σ ∧ mx_Z (mx_sJ σ a k v) = mx_Z σ := by
  refine ⟨fun b j => ?_, fun b j => ?_, fun g t => ?_, fun b => ?_, (mx_sgK _ _ _).1, (mx_sgK _ _ _).2⟩
  · simp only [mx_I, mx_sJ]
    rw [mx_rgs hg]
    split <;> simp_all
  · simp only [mx_R, mx_sJ]
    rw [mx_rgs hg]
    split <;> simp_all
  · simp only [mx_C, mx_sJ]
    rw [mx_rgs hg]
    split <;> simp_all
  · simp only [mx_N, mx_sJ]
    rw [mx_rgs hg]
    split <;> simp_all
theorem mx_sR_o (hg : a.1 < 2) (v : Option mx_Ad) : (∀ b j, mx_I (mx_sR σ a k v) b j = mx_I σ b j) ∧ (∀ b j, mx_J (mx_sR σ a k v) b j = mx_J σ b j) ∧ (∀ g t, mx_C (mx_sR σ a k v) g t = mx_C σ g t) ∧ (∀ b, mx_N (mx_sR σ a k v) b = mx_N σ b) ∧ mx_K (mx_sR σ a k v) = mx_K σ ∧ mx_Z (mx_sR σ a k v) = mx_Z σ := by
  refine ⟨fun b j => ?_, fun b j => ?_, fun g t => ?_, fun b => ?_, (mx_sgK _ _ _).1, (mx_sgK _ _ _).2⟩
  · simp only [mx_I, mx_sR]
    rw [mx_rgs hg]
    split <;> simp_all
  · simp only [mx_J, mx_sR]
    rw [mx_rgs hg]
    split <;> simp_all
  · simp only [mx_C, mx_sR]
    rw [mx_rgs hg]
    split <;> simp_all
  · simp only [mx_N, mx_sR]
    rw [mx_rgs hg]
    split <;> simp_all
end MXW
/-- a new cell -/
theorem mx_al_o {σ : mx_Hp} {g t n z : Nat} (hg : g < 2) : (∀ b j, mx_I (mx_al σ g t n z) b j = if b = (g, t, mx_C σ g t) then 0 else mx_I σ b j) ∧ (∀ b j, mx_J (mx_al σ g t n z) b j = if b = (g, t, mx_C σ g t) then 0 else mx_J σ b j) ∧ (∀ b j, mx_R (mx_al σ g t n z) b j = if b = (g, t, mx_C σ g t) then none else mx_R σ b j) ∧ (∀ g' t', mx_C (mx_al σ g t n z) g' t' = if g' = g ∧ t' = t then mx_C σ g t + 1 else mx_C σ g' t') ∧ (∀ b, mx_N (mx_al σ g t n z) b = if b = (g, t, mx_C σ g t) then n else mx_N σ b) ∧ mx_K (mx_al σ g t n z) = mx_K σ + 1 ∧ mx_Z (mx_al σ g t n z) = mx_Z σ + z := by
  refine ⟨fun b j => ?_, fun b j => ?_, fun b j => ?_, fun g' t' => ?_, fun b => ?_, ?_, ?_⟩
  · obtain ⟨g', t', i'⟩ := b
    simp only [mx_I, mx_al, mx_rgt, mx_C]
    rw [mx_rgs hg]
    by_cases h : g' = g
    · subst h
      simp only [if_pos, mx_alr, mx_u2, Prod.mk.injEq, true_and]
      split <;> rfl
    · simp [h]
  · obtain ⟨g', t', i'⟩ := b
    simp only [mx_J, mx_al, mx_rgt, mx_C]
    rw [mx_rgs hg]
    by_cases h : g' = g
    · subst h
      simp only [if_pos, mx_alr, mx_u2, Prod.mk.injEq, true_and]
      split <;> rfl
    · simp [h]
  · obtain ⟨g', t', i'⟩ := b
    simp only [mx_R, mx_al, mx_rgt, mx_C]
    rw [mx_rgs hg]
    by_cases h : g' = g
    · subst h
      simp only [if_pos, mx_alr, mx_u2, Prod.mk.injEq, true_and]
      split <;> rfl
    · simp [h]
  · simp only [mx_al, mx_rgt, mx_C]
    rw [mx_rgs hg]
    by_cases h : g' = g
    · subst h
      simp only [if_pos, mx_alr, mx_u1, true_and]
    · simp [h]
  · obtain ⟨g', t', i'⟩ := b
    simp only [mx_N, mx_al, mx_rgt, mx_C]
    rw [mx_rgs hg]
    by_cases h : g' = g
    · subst h
      simp only [if_pos, mx_alr, mx_u2, Prod.mk.injEq, true_and]
    · simp [h]
  · exact congrArg (· + 1) (mx_sgK σ g _).1
  · exact congrArg (· + z) (mx_sgK σ g _).2
theorem mx_rd_eq {σ σ' : mx_Hp} {b : mx_Ad} {k : Nat} (h1 : mx_I σ' b k = mx_I σ b k) (h2 : mx_J σ' b k = mx_J σ b k) (h3 : mx_R σ' b k = mx_R σ b k) (ty : FieldType) : mx_rd σ' b ty k = mx_rd σ b ty k := by
  cases ty <;> simp [mx_rd, h1, h2, h3]
theorem mx_cell.same {D : mx_D} {ρ ρ' : mx_Ad → Nat} {σ σ' : mx_Hp} {H H' : Heap} {b : mx_Ad} (h : mx_cell D ρ σ H b) (hρ : ρ' b = ρ b) (hH : H'[ρ b]? = H[ρ b]?) (h1 : ∀ k, mx_I σ' b k = mx_I σ b k) (h2 : ∀ k, mx_J σ' b k = mx_J σ b k) (h3 : ∀ k, mx_R σ' b k = mx_R σ b k) (h4 : mx_N σ' b = mx_N σ b) (h5 : ∀ k c, mx_R σ b k = some c → ρ' c = ρ c) : mx_cell D ρ' σ' H' b := by
  have hv : ∀ ty k, mx_tv ρ' (mx_rd σ' b ty k) = mx_tv ρ (mx_rd σ b ty k) := by
    intro ty k
    rw [mx_rd_eq (h1 k) (h2 k) (h3 k) ty]
    cases ty <;> (simp only [mx_rd]; first | rfl | skip)
    all_goals
      cases hr : mx_R σ b k with
      | none => rfl
      | some c => exact congrArg Value.ref (h5 k c hr)
  refine ⟨fun hg => ?_, fun hg => ?_⟩
  · obtain ⟨q1, q2, q3, q4⟩ := h.1 hg
    exact ⟨by rw [hρ, hH]; exact q1, q2, by rw [h4]; exact q3, fun k hk => by rw [h1 k]; exact q4 k (by rw [← h4]; exact hk)⟩
  · have hc := h.2 hg
    cases hk : mx_knd b.2.1 with
    | inl ci =>
      rw [hk] at hc
      obtain ⟨q, hq, hO⟩ := hc
      refine ⟨q, hq, ?_⟩
      rw [hρ]
      exact (hO.kept hH).to (fun k _ => (hv (mx_fty ci k) k).symm)
    | inr ty =>
      rw [hk] at hc
      show H'[ρ' b]? = _
      rw [hρ, hH, hc, h4]
      congr 2
      funext k
      exact (hv ty k).symm
/-- a write to one cell -/
theorem mx_Rep.wr {D : mx_D} {z0 : Nat} {ρ : mx_Ad → Nat} {σ σ' : mx_Hp} {H H' : Heap} {a : mx_Ad} (h : mx_Rep D z0 ρ σ H) (ha : mx_ok σ a) (hg : a.1 < 2) (hC : ∀ g t, mx_C σ' g t = mx_C σ g t)
    (h1 : ∀ b, b ≠ a → ∀ k, mx_I σ' b k = mx_I σ b k) (h2 : ∀ b, b ≠ a → ∀ k, mx_J σ' b k = mx_J σ b k) (h3 : ∀ b, b ≠ a → ∀ k, mx_R σ' b k = mx_R σ b k) (h4 : ∀ b, mx_N σ' b = mx_N σ b)
    (hcell : match mx_knd a.2.1 with
      | .inl ci => mx_cellO D ρ σ' H' a ci
      | .inr ty => mx_cellA D ρ σ' H' a ty)
    (hR : ∀ k b, mx_R σ' a k = some b → mx_ok σ b) (hH : ∀ q, q ≠ ρ a → H'[q]? = H[q]?) : mx_Rep D z0 ρ σ' H' := by
  have hok : ∀ b, mx_ok σ' b ↔ mx_ok σ b := fun b => by unfold mx_ok; rw [hC]
  refine ⟨fun b hb => ?_, fun b c hb hc => h.2.1 b c ((hok b).mp hb) ((hok c).mp hc), fun b k c hb hr => ?_, fun b hb => h.2.2.2 b ((hok b).mp hb)⟩
  · by_cases hba : b = a
    · subst hba
      exact ⟨fun q => absurd q (by omega), fun _ => hcell⟩
    · exact (h.1 b ((hok b).mp hb)).same rfl (hH _ (fun q => hba (h.2.1 b a ((hok b).mp hb) ha q))) (h1 b hba) (h2 b hba) (h3 b hba) (h4 b) (fun _ _ _ => rfl)
  · rw [hok]
    by_cases hba : b = a
    · subst hba
      exact hR k c hr
    · exact h.2.2.1 b k c ((hok b).mp hb) (by rw [← h3 b hba]; exact hr)
/-- where a new cell stands -/
def mx_ext (ρ : mx_Ad → Nat) (a : mx_Ad) (q : Nat) : mx_Ad → Nat := fun b => if b = a then q else ρ b
theorem mx_Rep.lt {D : mx_D} {z0 : Nat} {ρ : mx_Ad → Nat} {σ : mx_Hp} {H : Heap} (h : mx_Rep D z0 ρ σ H) {a : mx_Ad} (ha : mx_ok σ a) : ρ a < H.size := by
  have hc := h.1 a ha
  by_cases hg : a.1 < 2
  · have hc := hc.2 hg
    cases hk : mx_knd a.2.1 with
    | inl ci =>
      rw [hk] at hc
      obtain ⟨q, hq, cell, h1, -⟩ := hc
      exact (Array.getElem?_eq_some_iff.mp h1).1
    | inr ty =>
      rw [hk] at hc
      exact (Array.getElem?_eq_some_iff.mp hc).1
  · exact (Array.getElem?_eq_some_iff.mp (hc.1 (by omega)).1).1
theorem mx_Rep.al {D : mx_D} {z0 : Nat} {ρ : mx_Ad → Nat} {σ : mx_Hp} {H H' : Heap} {g t n z : Nat} (h : mx_Rep D z0 ρ σ H) (hg : g < 2) (hz : z0 ≤ H.size)
    (hcell : match mx_knd t with
      | .inl ci => mx_cellO D (mx_ext ρ (g, t, mx_C σ g t) H.size) (mx_al σ g t n z) H' (g, t, mx_C σ g t) ci
      | .inr ty => mx_cellA D (mx_ext ρ (g, t, mx_C σ g t) H.size) (mx_al σ g t n z) H' (g, t, mx_C σ g t) ty)
    (hH : ∀ q, q < H.size → H'[q]? = H[q]?) : mx_Rep D z0 (mx_ext ρ (g, t, mx_C σ g t) H.size) (mx_al σ g t n z) H' ∧ mx_Ext ρ σ (mx_ext ρ (g, t, mx_C σ g t) H.size) (mx_al σ g t n z) ∧ mx_ok (mx_al σ g t n z) (g, t, mx_C σ g t) := by
  obtain ⟨o1, o2, o3, o4, o5, -, -⟩ := mx_al_o (σ := σ) (t := t) (n := n) (z := z) hg
  have hnew : mx_ok (mx_al σ g t n z) (g, t, mx_C σ g t) := by
    unfold mx_ok
    rw [o4, if_pos ⟨rfl, rfl⟩]
    exact Nat.lt_succ_self _
  have hold : ∀ b, mx_ok σ b → b ≠ (g, t, mx_C σ g t) := fun b hb e => by
    rw [e] at hb
    exact Nat.lt_irrefl _ hb
  have hok : ∀ b, mx_ok (mx_al σ g t n z) b → b = (g, t, mx_C σ g t) ∨ mx_ok σ b := by
    intro b hb
    obtain ⟨g', t', i'⟩ := b
    unfold mx_ok at hb ⊢
    rw [o4] at hb
    by_cases hc : g' = g ∧ t' = t
    · obtain ⟨rfl, rfl⟩ := hc
      rw [if_pos ⟨rfl, rfl⟩] at hb
      simp only at hb ⊢
      by_cases hi : i' = mx_C σ g' t'
      · subst hi
        exact Or.inl rfl
      · exact Or.inr (by omega)
    · rw [if_neg hc] at hb
      exact Or.inr hb
  have hup : ∀ b, mx_ok σ b → mx_ok (mx_al σ g t n z) b := by
    intro b hb
    obtain ⟨g', t', i'⟩ := b
    unfold mx_ok at hb ⊢
    rw [o4]
    simp only at hb ⊢
    split
    · rename_i hc
      obtain ⟨rfl, rfl⟩ := hc
      omega
    · exact hb
  have hE : mx_Ext ρ σ (mx_ext ρ (g, t, mx_C σ g t) H.size) (mx_al σ g t n z) := fun b hb => ⟨hup b hb, by unfold mx_ext; rw [if_neg (hold b hb)]⟩
  refine ⟨⟨fun b hb => ?_, fun b c hb hc hbc => ?_, fun b k c hb hr => ?_, fun b hb hb2 => ?_⟩, hE, hnew⟩
  · rcases hok b hb with rfl | hb0
    · exact ⟨fun q => absurd q (by show ¬ 2 ≤ g; omega), fun _ => hcell⟩
    · have hne := hold b hb0
      exact (h.1 b hb0).same (hE b hb0).2 (hH _ (h.lt hb0)) (fun k => by rw [o1, if_neg hne]) (fun k => by rw [o2, if_neg hne]) (fun k => by rw [o3, if_neg hne]) (by rw [o5, if_neg hne]) (fun k c hc => (hE c (h.2.2.1 b k c hb0 hc)).2)
  · rcases hok b hb with rfl | hb0 <;> rcases hok c hc with rfl | hc0
    · rfl
    · rw [(hE c hc0).2] at hbc
      simp only [mx_ext, if_true] at hbc
      have := h.lt hc0
      omega
    · rw [(hE b hb0).2] at hbc
      simp only [mx_ext, if_true] at hbc
      have := h.lt hb0
      omega
    · rw [(hE b hb0).2, (hE c hc0).2] at hbc
      exact h.2.1 b c hb0 hc0 hbc
  · rcases hok b hb with rfl | hb0
    · rw [o3, if_pos rfl] at hr
      cases hr
    · rw [o3, if_neg (hold b hb0)] at hr
      exact hup c (h.2.2.1 b k c hb0 hr)
  · rcases hok b hb with rfl | hb0
    · simp only [mx_ext, if_true]
      exact hz
    · rw [(hE b hb0).2]
      exact h.2.2.2 b hb0 hb2
/-! locals -/
def mx_Lr (ρ : mx_Ad → Nat) (L : mx_L) (ls : Array Slot) (nL : Nat) : Prop := ls.size = nL ∧ lv_wf ls ∧ ∀ (i : Nat) (v : mx_V), L[i]? = some (some v) → mx_hb L i v = true → ls[i]? = some (.val (mx_tv ρ v))
def mx_lv (ρ : mx_Ad → Nat) (L : mx_L) : List (Nat × Value) := (List.range L.length).filterMap (fun i => match L[i]? with
  | some (some v) => bif mx_hb L i v then some (i, mx_tv ρ v) else none
  | _ => none)
theorem mx_lv_mem {ρ : mx_Ad → Nat} {L : mx_L} {q : Nat × Value} : q ∈ mx_lv ρ L ↔ ∃ v, L[q.1]? = some (some v) ∧ mx_hb L q.1 v = true ∧ q.2 = mx_tv ρ v := by
  unfold mx_lv
  rw [List.mem_filterMap]
  constructor
  · rintro ⟨i, -, hi⟩
    split at hi
    · rename_i v hv
      cases hb : mx_hb L i v with
      | false => rw [hb] at hi; cases hi
      | true =>
        rw [hb] at hi
        cases hi
        exact ⟨v, hv, hb, rfl⟩
    · cases hi
  · rintro ⟨v, h1, hb, h2⟩
    refine ⟨q.1, List.mem_range.mpr (List.getElem?_eq_some_iff.mp h1).1, ?_⟩
    rw [h1]
    obtain ⟨q1, q2⟩ := q
    simp only at h2 hb ⊢
    rw [h2, hb]
    rfl
theorem mx_Lr.has {ρ : mx_Ad → Nat} {L : mx_L} {ls : Array Slot} {nL : Nat} (h : mx_Lr ρ L ls nL) : lv_has ls nL (mx_lv ρ L) := ⟨h.1, h.2.1, fun q hq => by
  obtain ⟨v, h1, hb, h2⟩ := mx_lv_mem.mp hq
  rw [h2]
  exact h.2.2 q.1 v h1 hb⟩
theorem mx_tv_cat (ρ : mx_Ad → Nat) (v : mx_V) : (mx_tv ρ v).category = mx_w v := by
  match v with
  | .inl x => rfl
  | .inr (.inl x) => rfl
  | .inr (.inr none) => rfl
  | .inr (.inr (some a)) => rfl
theorem mx_hb_1 {L : mx_L} {i : Nat} {v : mx_V} (h : ¬ mx_w v = 2) : mx_hb L i v = true := by
  match v, h with
  | .inl x, _ => rfl
  | .inr (.inr x), _ => rfl
  | .inr (.inl x), h => exact absurd rfl h
theorem mx_hb_2 {L : mx_L} {i : Nat} {v : mx_V} (h : mx_w v = 2) (hb : mx_hb L i v = true) : L[i + 1]? = some none := by
  match v, h, hb with
  | .inr (.inl x), _, hb =>
    have hb : (match L[i + 1]? with | some none => true | _ => false) = true := hb
    split at hb
    · assumption
    · cases hb
  | .inl x, h, _ => exact absurd (show (1 : Nat) = 2 from h) (by decide)
  | .inr (.inr x), h, _ => exact absurd (show (1 : Nat) = 2 from h) (by decide)
theorem mx_hb_of {L : mx_L} {i : Nat} {v : mx_V} (h : L[i + 1]? = some none) : mx_hb L i v = true := by
  match v with
  | .inr (.inl x) => unfold mx_hb; rw [h]
  | .inl x => rfl
  | .inr (.inr x) => rfl
theorem mx_put1_get {L : mx_L} {i j : Nat} {v w : mx_V} (h : (mx_put1 L i v)[j]? = some (some w)) : (j = i ∧ w = v) ∨ (j ≠ i ∧ L[j]? = some (some w)) := by
  simp only [mx_put1, List.getElem?_set] at h
  by_cases e : i = j
  · rw [if_pos e] at h
    split at h
    · simp at h
      exact Or.inl ⟨e.symm, h.symm⟩
    · simp at h
  · rw [if_neg e] at h
    exact Or.inr ⟨fun q => e q.symm, h⟩
theorem mx_put1_hb {L : mx_L} {i j : Nat} {v w : mx_V} (h : mx_hb (mx_put1 L i v) j w = true) : mx_hb L j w = true ∧ ¬ (j + 1 = i ∧ mx_w w = 2) := by
  by_cases hw : mx_w w = 2
  · have h2 := mx_hb_2 hw h
    simp only [mx_put1, List.getElem?_set] at h2
    by_cases e : i = j + 1
    · rw [if_pos e] at h2
      split at h2 <;> simp at h2
    · rw [if_neg e] at h2
      exact ⟨mx_hb_of h2, fun q => e q.1.symm⟩
  · exact ⟨mx_hb_1 hw, fun q => hw q.2⟩
theorem mx_put2_get {L : mx_L} {i j : Nat} {v w : mx_V} (h : (mx_put2 L i v)[j]? = some (some w)) : (j = i ∧ w = v) ∨ (j ≠ i ∧ j ≠ i + 1 ∧ L[j]? = some (some w)) := by
  simp only [mx_put2] at h
  rw [List.getElem?_set] at h
  by_cases e : i + 1 = j
  · rw [if_pos e] at h
    split at h <;> simp at h
  · rw [if_neg e, List.getElem?_set] at h
    by_cases e2 : i = j
    · rw [if_pos e2] at h
      split at h
      · simp at h
        exact Or.inl ⟨e2.symm, h.symm⟩
      · simp at h
    · rw [if_neg e2] at h
      exact Or.inr ⟨fun q => e2 q.symm, fun q => e q.symm, h⟩
theorem mx_put2_hb {L : mx_L} {i j : Nat} {v w : mx_V} (hj : j ≠ i) (h : mx_hb (mx_put2 L i v) j w = true) : mx_hb L j w = true ∧ ¬ (j + 1 = i ∧ mx_w w = 2) := by
  by_cases hw : mx_w w = 2
  · have h2 := mx_hb_2 hw h
    simp only [mx_put2] at h2
    rw [List.getElem?_set, if_neg (by omega), List.getElem?_set] at h2
    by_cases e : i = j + 1
    · rw [if_pos e] at h2
      split at h2 <;> simp at h2
    · rw [if_neg e] at h2
      exact ⟨mx_hb_of h2, fun q => e q.1.symm⟩
  · exact ⟨mx_hb_1 hw, fun q => hw q.2⟩
theorem mx_Lr.put1 {ρ : mx_Ad → Nat} {L : mx_L} {ls' : Array Slot} {nL i : Nat} {v : mx_V} (h : lv_has ls' nL ((i, mx_tv ρ v) :: (mx_lv ρ L).filter (fun q => !(q.1 == i) && !(q.1 + 1 == i && q.2.category == 2)))) : mx_Lr ρ (mx_put1 L i v) ls' nL := by
  refine ⟨h.1, h.2.1, fun j w hj hb => ?_⟩
  rcases mx_put1_get hj with ⟨rfl, rfl⟩ | ⟨h1, h2⟩
  · exact h.2.2 (j, mx_tv ρ w) List.mem_cons_self
  · obtain ⟨hb2, h3⟩ := mx_put1_hb hb
    refine h.2.2 (j, mx_tv ρ w) (List.mem_cons_of_mem _ (List.mem_filter.mpr ⟨mx_lv_mem.mpr ⟨w, h2, hb2, rfl⟩, ?_⟩))
    simp only [mx_tv_cat, Bool.and_eq_true, Bool.not_eq_true', beq_eq_false_iff_ne, ne_eq, Bool.and_eq_false_iff]
    exact ⟨h1, by by_cases q : j + 1 = i <;> simp_all⟩
theorem mx_Lr.put2 {ρ : mx_Ad → Nat} {L : mx_L} {ls' : Array Slot} {nL i : Nat} {v : mx_V} (h : lv_has ls' nL ((i, mx_tv ρ v) :: (mx_lv ρ L).filter (fun q => !(q.1 == i) && (!(q.1 == i + 1) && !(q.1 + 1 == i && q.2.category == 2))))) : mx_Lr ρ (mx_put2 L i v) ls' nL := by
  refine ⟨h.1, h.2.1, fun j w hj hb => ?_⟩
  rcases mx_put2_get hj with ⟨rfl, rfl⟩ | ⟨h1, h0, h2⟩
  · exact h.2.2 (j, mx_tv ρ w) List.mem_cons_self
  · obtain ⟨hb2, h3⟩ := mx_put2_hb h1 hb
    refine h.2.2 (j, mx_tv ρ w) (List.mem_cons_of_mem _ (List.mem_filter.mpr ⟨mx_lv_mem.mpr ⟨w, h2, hb2, rfl⟩, ?_⟩))
    simp only [mx_tv_cat, Bool.and_eq_true, Bool.not_eq_true', beq_eq_false_iff_ne, ne_eq, Bool.and_eq_false_iff]
    exact ⟨h1, h0, by by_cases q : j + 1 = i <;> simp_all⟩
/-- references in the frame are of cells that are there -/
def mx_Fk (σ : mx_Hp) (L : mx_L) (st : List mx_V) : Prop := (∀ v ∈ st, mx_vk σ v) ∧ ∀ (i : Nat) (v : mx_V), L[i]? = some (some v) → mx_vk σ v
theorem mx_Lr.mv {ρ ρ' : mx_Ad → Nat} {σ σ' : mx_Hp} {L : mx_L} {st : List mx_V} {ls : Array Slot} {nL : Nat} (h : mx_Lr ρ L ls nL) (hF : mx_Fk σ L st) (hE : mx_Ext ρ σ ρ' σ') : mx_Lr ρ' L ls nL := ⟨h.1, h.2.1, fun i v hi hb => by
  rw [(hE.tv (hF.2 i v hi)).1]
  exact h.2.2 i v hi hb⟩
theorem mx_Fk.mv {ρ ρ' : mx_Ad → Nat} {σ σ' : mx_Hp} {L : mx_L} {st : List mx_V} (hF : mx_Fk σ L st) (hE : mx_Ext ρ σ ρ' σ') : mx_Fk σ' L st ∧ st.map (mx_tv ρ') = st.map (mx_tv ρ) := ⟨⟨fun v hv => (hE.tv (hF.1 v hv)).2, fun i v hi => (hE.tv (hF.2 i v hi)).2⟩, List.map_congr_left (fun v hv => (hE.tv (hF.1 v hv)).1)⟩
theorem mx_Fk.st {σ : mx_Hp} {L : mx_L} {st st' : List mx_V} (hF : mx_Fk σ L st) (h : ∀ v ∈ st', v ∈ st ∨ mx_vk σ v) : mx_Fk σ L st' := ⟨fun v hv => (h v hv).elim (hF.1 v) id, hF.2⟩
theorem mx_Fk.put1 {σ : mx_Hp} {L : mx_L} {st st' : List mx_V} {i : Nat} {v : mx_V} (hF : mx_Fk σ L st) (hv : mx_vk σ v) (h : ∀ v ∈ st', v ∈ st) : mx_Fk σ (mx_put1 L i v) st' := ⟨fun w hw => hF.1 w (h w hw), fun j w hj => by
  rcases mx_put1_get hj with ⟨-, rfl⟩ | ⟨-, h2⟩
  · exact hv
  · exact hF.2 j w h2⟩
theorem mx_Fk.put2 {σ : mx_Hp} {L : mx_L} {st st' : List mx_V} {i : Nat} {v : mx_V} (hF : mx_Fk σ L st) (hv : mx_vk σ v) (h : ∀ v ∈ st', v ∈ st) : mx_Fk σ (mx_put2 L i v) st' := ⟨fun w hw => hF.1 w (h w hw), fun j w hj => by
  rcases mx_put2_get hj with ⟨-, rfl⟩ | ⟨-, -, h2⟩
  · exact hv
  · exact hF.2 j w h2⟩
end
section
/-! one instruction of the abstract machine is one of the real machine -/
def mx_SW (D : mx_D) (s : State) : Prop := va_K (D.1, D.2.1) mx_cls [] s ∧ (∀ ty ∈ mx_aty, ArrOfT s (D.2.2.1 ty) ty ∧ va_RA s (D.2.2.1 ty) ty) ∧ (∀ w ∈ mx_nf, va_Nw (.fieldLinkNest w.1 w.2.1 w.2.2.1 w.2.2.2.1 w.2.2.2.2.1 w.2.2.2.2.2) s) ∧ (∀ w ∈ mx_nm, va_Nw (.methodLinkNest w.1 w.2.1 w.2.2.1 w.2.2.2) s) ∧ (∀ C ∈ mx_ao, va_AO C s) ∧ s.isArrayOf D.2.2.2 .int
theorem mx_SW.warm {D : mx_D} {s U : State} (hW : s.WarmedH U.vm) (h : mx_SW D s) : mx_SW D U := ⟨va_K.moved hW.alike h.1, fun ty ht => ⟨arrOfT_moved hW.alike (h.2.1 ty ht).1, (h.2.1 ty ht).2.moved hW.alike⟩, fun w hw => va_Nw.warmF hW (h.2.2.1 w hw), fun w hw => va_Nw.warmM hW (h.2.2.2.1 w hw), fun C hC => (h.2.2.2.2.1 C hC).moved hW.alike, State.isArrayOf_alike hW.alike h.2.2.2.2.2⟩
theorem mx_SW.calling {D : mx_D} {U : State} (g : JFrame) (mk : MethodId) (a : Array Value) (h : mx_SW D U) : mx_SW D (U.calling g mk a) := ⟨va_K.moved (u := U) (U := U.calling g mk a) (Vm.Alike.refl U.vm) h.1, fun ty ht => ⟨arrOfT_moved (u := U) (E := U.calling g mk a) (Vm.Alike.refl U.vm) (h.2.1 ty ht).1, va_RA.moved (u := U) (U := U.calling g mk a) (Vm.Alike.refl U.vm) (h.2.1 ty ht).2⟩, fun w hw => va_Nw.same rfl rfl (h.2.2.1 w hw), fun w hw => va_Nw.same rfl rfl (h.2.2.2.1 w hw), fun C hC => va_AO.moved (u := U) (U := U.calling g mk a) (Vm.Alike.refl U.vm) (h.2.2.2.2.1 C hC), State.isArrayOf_alike (s := U) (T := U.calling g mk a) (Vm.Alike.refl U.vm) h.2.2.2.2.2⟩
def mx_Cx (p : Program) (s : State) (m : MethodId) (args : Array Value) (meth : Method) (c : Code) (R : Room) (D : mx_D) (mid d : Nat) : Prop :=
  p.tables.exec = Jvm.exec ∧ c.code = mx_mb mid ∧ c.maxLocals = mx_mL mid ∧ s.vm.findClass (mx_own (mx_mc mid)) = some m.cls ∧ (∀ w ∈ mx_GT, w.before args s = true) ∧ mx_SW D s ∧ (mx_mi mid = true → meth.name = "<init>") ∧ d + 1 ≤ R.frames ∧ (d + 1) * 64 ≤ R.locals
def mx_At (D : mx_D) (z0 K0 Z0 nL : Nat) (ρ : mx_Ad → Nat) (σ : mx_Hp) (L : mx_L) (st : List mx_V) (H : Heap) (locs : List Loc) (cells slots : Nat) (ls : Array Slot) : Prop :=
  mx_Rep D z0 ρ σ H ∧ mx_Lr ρ L ls nL ∧ mx_Fk σ L st ∧ (∀ q ∈ locs, z0 ≤ q.base) ∧ cells + K0 = mx_K σ ∧ slots + Z0 = mx_Z σ ∧ z0 ≤ H.size
/-! inversions -/
theorem mx_ildc_i {L : mx_L} {i q : Nat} {st : List mx_V} {σ : mx_Hp} {o : mx_Rs} (h : mx_ildc L i q st σ = some o) : ∃ x, L[i]? = some (some (.inl x)) ∧ o = .inl (q, L, .inl x :: st, σ) := by
  unfold mx_ildc at h
  split at h
  · cases h
    exact ⟨_, by assumption, rfl⟩
  · cases h
theorem mx_lldc_i {L : mx_L} {i q : Nat} {st : List mx_V} {σ : mx_Hp} {o : mx_Rs} (h : mx_lldc L i q st σ = some o) : ∃ x, L[i]? = some (some (.inr (.inl x))) ∧ mx_hb L i (.inr (.inl x)) = true ∧ o = .inl (q, L, .inr (.inl x) :: st, σ) := by
  unfold mx_lldc at h
  split at h
  · cases hb : mx_hb L i (.inr (.inl (by assumption))) with
    | false =>
      rw [hb] at h
      cases h
    | true =>
      rw [hb] at h
      cases h
      exact ⟨_, by assumption, hb, rfl⟩
  · cases h
theorem mx_aldc_i {L : mx_L} {i q : Nat} {st : List mx_V} {σ : mx_Hp} {o : mx_Rs} (h : mx_aldc L i q st σ = some o) : ∃ x, L[i]? = some (some (.inr (.inr x))) ∧ o = .inl (q, L, .inr (.inr x) :: st, σ) := by
  unfold mx_aldc at h
  split at h
  · cases h
    exact ⟨_, by assumption, rfl⟩
  · cases h
theorem mx_bif {α : Type} {b : Bool} {x y : Option α} {o : α} (h : (bif b then x else y) = some o) (hy : y = none) : b = true ∧ x = some o := by
  cases b
  · rw [hy] at h
    cases h
  · exact ⟨rfl, h⟩
theorem mx_istc_i {nL : Nat} {L : mx_L} {i q : Nat} {st : List mx_V} {σ : mx_Hp} {o : mx_Rs} (h : mx_istc nL L i q st σ = some o) : ∃ x r, st = .inl x :: r ∧ i < nL ∧ o = .inl (q, mx_put1 L i (.inl x), r, σ) := by
  unfold mx_istc at h
  split at h
  · obtain ⟨h1, h2⟩ := mx_bif h rfl
    cases h2
    exact ⟨_, _, rfl, by simpa [Nat.blt_eq] using h1, rfl⟩
  · cases h
theorem mx_lstc_i {nL : Nat} {L : mx_L} {i q : Nat} {st : List mx_V} {σ : mx_Hp} {o : mx_Rs} (h : mx_lstc nL L i q st σ = some o) : ∃ x r, st = .inr (.inl x) :: r ∧ i + 1 < nL ∧ o = .inl (q, mx_put2 L i (.inr (.inl x)), r, σ) := by
  unfold mx_lstc at h
  split at h
  · obtain ⟨h1, h2⟩ := mx_bif h rfl
    cases h2
    exact ⟨_, _, rfl, by simpa [Nat.blt_eq] using h1, rfl⟩
  · cases h
theorem mx_astc_i {nL : Nat} {L : mx_L} {i q : Nat} {st : List mx_V} {σ : mx_Hp} {o : mx_Rs} (h : mx_astc nL L i q st σ = some o) : ∃ x r, st = .inr (.inr x) :: r ∧ i < nL ∧ o = .inl (q, mx_put1 L i (.inr (.inr x)), r, σ) := by
  unfold mx_astc at h
  split at h
  · obtain ⟨h1, h2⟩ := mx_bif h rfl
    cases h2
    exact ⟨_, _, rfl, by simpa [Nat.blt_eq] using h1, rfl⟩
  · cases h
theorem mx_b2_i {f : Int32 → Int32 → Int32} {q : Nat} {L : mx_L} {st : List mx_V} {σ : mx_Hp} {o : mx_Rs} (h : mx_b2 f q L st σ = some o) : ∃ x y r, st = .inl y :: .inl x :: r ∧ o = .inl (q, L, .inl (f x y) :: r, σ) := by
  unfold mx_b2 at h
  split at h
  · cases h
    exact ⟨_, _, _, rfl, rfl⟩
  · cases h
theorem mx_d2_i {f : Int32 → Int32 → Int32} {q : Nat} {L : mx_L} {st : List mx_V} {σ : mx_Hp} {o : mx_Rs} (h : mx_d2 f q L st σ = some o) : ∃ x y r, st = .inl y :: .inl x :: r ∧ ¬ y = 0 ∧ o = .inl (q, L, .inl (f x y) :: r, σ) := by
  unfold mx_d2 at h
  split at h
  · split at h
    · cases h
    · cases h
      exact ⟨_, _, _, rfl, by assumption, rfl⟩
  · cases h
theorem mx_m2_i {f : Int64 → Int64 → Int64} {q : Nat} {L : mx_L} {st : List mx_V} {σ : mx_Hp} {o : mx_Rs} (h : mx_m2 f q L st σ = some o) : ∃ x y r, st = .inr (.inl y) :: .inr (.inl x) :: r ∧ o = .inl (q, L, .inr (.inl (f x y)) :: r, σ) := by
  unfold mx_m2 at h
  split at h
  · cases h
    exact ⟨_, _, _, rfl, rfl⟩
  · cases h
theorem mx_s2_i {f : Int64 → Int32 → Int64} {q : Nat} {L : mx_L} {st : List mx_V} {σ : mx_Hp} {o : mx_Rs} (h : mx_s2 f q L st σ = some o) : ∃ x y r, st = .inl y :: .inr (.inl x) :: r ∧ o = .inl (q, L, .inr (.inl (f x y)) :: r, σ) := by
  unfold mx_s2 at h
  split at h
  · cases h
    exact ⟨_, _, _, rfl, rfl⟩
  · cases h
theorem mx_b1_i {f : Int32 → mx_V} {q : Nat} {L : mx_L} {st : List mx_V} {σ : mx_Hp} {o : mx_Rs} (h : mx_b1 f q L st σ = some o) : ∃ x r, st = .inl x :: r ∧ o = .inl (q, L, f x :: r, σ) := by
  unfold mx_b1 at h
  split at h
  · cases h
    exact ⟨_, _, rfl, rfl⟩
  · cases h
theorem mx_m1_i {f : Int64 → mx_V} {q : Nat} {L : mx_L} {st : List mx_V} {σ : mx_Hp} {o : mx_Rs} (h : mx_m1 f q L st σ = some o) : ∃ x r, st = .inr (.inl x) :: r ∧ o = .inl (q, L, f x :: r, σ) := by
  unfold mx_m1 at h
  split at h
  · cases h
    exact ⟨_, _, rfl, rfl⟩
  · cases h
theorem mx_to_i {pc q : Nat} {off : Int} (h : mx_to pc off = some q) : (pc : Int) + off = (q : Int) := by
  unfold mx_to at h
  split at h
  · rename_i q' hq
    cases h
    exact hq
  · cases h
theorem mx_br_i {b : Bool} {pc : Nat} {off : Int} {L : mx_L} {st : List mx_V} {σ : mx_Hp} {o : mx_Rs} (h : mx_br b pc off L st σ = some o) : ∃ q : Nat, (pc : Int) + off = (q : Int) ∧ o = .inl (bif b then q else pc + 3, L, st, σ) := by
  unfold mx_br at h
  split at h
  · cases h
    exact ⟨_, mx_to_i (by assumption), rfl⟩
  · cases h
theorem mx_sw_i {w : Option Int} {pc : Nat} {L : mx_L} {r : List mx_V} {σ : mx_Hp} {o : mx_Rs} (h : mx_sw w pc L r σ = some o) : ∃ (off : Int) (q : Nat), w = some off ∧ (pc : Int) + off = (q : Int) ∧ o = .inl (q, L, r, σ) := by
  unfold mx_sw at h
  split at h
  · split at h
    · cases h
      exact ⟨_, _, rfl, mx_to_i (by assumption), rfl⟩
    · cases h
  · cases h
theorem mx_at_i {σ : mx_Hp} {a : mx_Ad} {i : Int32} (h : mx_at σ a i = true) : ¬ (i < 0 ∨ mx_N σ a ≤ i.toNatClampNeg) := by
  unfold mx_at at h
  simpa using h
theorem mx_ald_i {ty : FieldType → Bool} {q : Nat} {L : mx_L} {st : List mx_V} {σ : mx_Hp} {o : mx_Rs} (h : mx_ald ty q L st σ = some o) : ∃ i a r t, st = .inl i :: .inr (.inr (some a)) :: r ∧ mx_knd a.2.1 = .inr t ∧ ty t = true ∧ ¬ (i < 0 ∨ mx_N σ a ≤ i.toNatClampNeg) ∧ o = .inl (q, L, mx_rd σ a t i.toNatClampNeg :: r, σ) := by
  unfold mx_ald at h
  split at h
  · split at h
    · obtain ⟨h1, h2⟩ := mx_bif h rfl
      cases h2
      rw [Bool.and_eq_true] at h1
      exact ⟨_, _, _, _, rfl, by assumption, h1.1, mx_at_i h1.2, rfl⟩
    · cases h
  · cases h
theorem mx_iast_i {q : Nat} {L : mx_L} {st : List mx_V} {σ : mx_Hp} {o : mx_Rs} (h : mx_iast q L st σ = some o) : ∃ x i a r, st = .inl x :: .inl i :: .inr (.inr (some a)) :: r ∧ mx_knd a.2.1 = .inr .int ∧ a.1 < 2 ∧ ¬ (i < 0 ∨ mx_N σ a ≤ i.toNatClampNeg) ∧ o = .inl (q, L, r, mx_sI σ a i.toNatClampNeg x) := by
  unfold mx_iast at h
  split at h
  · split at h
    · obtain ⟨h1, h2⟩ := mx_bif h rfl
      cases h2
      rw [Bool.and_eq_true] at h1
      exact ⟨_, _, _, _, rfl, by assumption, by simpa [Nat.blt_eq] using h1.1, mx_at_i h1.2, rfl⟩
    · cases h
  · cases h
theorem mx_bast_i {q : Nat} {L : mx_L} {st : List mx_V} {σ : mx_Hp} {o : mx_Rs} (h : mx_bast q L st σ = some o) : ∃ x i a r ty, st = .inl x :: .inl i :: .inr (.inr (some a)) :: r ∧ mx_knd a.2.1 = .inr ty ∧ (ty = .byte ∨ ty = .boolean) ∧ a.1 < 2 ∧ ¬ (i < 0 ∨ mx_N σ a ≤ i.toNatClampNeg) ∧ o = .inl (q, L, r, mx_sI σ a i.toNatClampNeg (vp_nar ty x)) := by
  unfold mx_bast at h
  split at h
  · split at h
    · obtain ⟨h1, h2⟩ := mx_bif h rfl
      cases h2
      rw [Bool.and_eq_true] at h1
      exact ⟨_, _, _, _, _, rfl, by assumption, Or.inl rfl, by simpa [Nat.blt_eq] using h1.1, mx_at_i h1.2, rfl⟩
    · obtain ⟨h1, h2⟩ := mx_bif h rfl
      cases h2
      rw [Bool.and_eq_true] at h1
      exact ⟨_, _, _, _, _, rfl, by assumption, Or.inr rfl, by simpa [Nat.blt_eq] using h1.1, mx_at_i h1.2, rfl⟩
    · cases h
  · cases h
theorem mx_last_i {q : Nat} {L : mx_L} {st : List mx_V} {σ : mx_Hp} {o : mx_Rs} (h : mx_last q L st σ = some o) : ∃ x i a r, st = .inr (.inl x) :: .inl i :: .inr (.inr (some a)) :: r ∧ mx_knd a.2.1 = .inr .long ∧ a.1 < 2 ∧ ¬ (i < 0 ∨ mx_N σ a ≤ i.toNatClampNeg) ∧ o = .inl (q, L, r, mx_sJ σ a i.toNatClampNeg x) := by
  unfold mx_last at h
  split at h
  · split at h
    · obtain ⟨h1, h2⟩ := mx_bif h rfl
      cases h2
      rw [Bool.and_eq_true] at h1
      exact ⟨_, _, _, _, rfl, by assumption, by simpa [Nat.blt_eq] using h1.1, mx_at_i h1.2, rfl⟩
    · cases h
  · cases h
theorem mx_aast_i {q : Nat} {L : mx_L} {st : List mx_V} {σ : mx_Hp} {o : mx_Rs} (h : mx_aast q L st σ = some o) : ∃ b i a r C ci, st = .inr (.inr (some b)) :: .inl i :: .inr (.inr (some a)) :: r ∧ mx_knd a.2.1 = .inr (.object C) ∧ mx_knd b.2.1 = .inl ci ∧ a.1 < 2 ∧ b.1 < 2 ∧ ¬ (i < 0 ∨ mx_N σ a ≤ i.toNatClampNeg) ∧ (mx_cls[ci]?).map (fun q => q.1) = some C ∧ o = .inl (q, L, r, mx_sR σ a i.toNatClampNeg (some b)) := by
  unfold mx_aast at h
  split at h
  · split at h
    · obtain ⟨h1, h2⟩ := mx_bif h rfl
      cases h2
      simp only [Bool.and_eq_true, decide_eq_true_eq, Nat.blt_eq] at h1
      exact ⟨_, _, _, _, _, _, rfl, by assumption, by assumption, h1.1.1.1, h1.1.1.2, mx_at_i h1.1.2, h1.2, rfl⟩
    · cases h
  · cases h
theorem mx_len_i {q : Nat} {L : mx_L} {st : List mx_V} {σ : mx_Hp} {o : mx_Rs} (h : mx_len q L st σ = some o) : ∃ a r t, st = .inr (.inr (some a)) :: r ∧ mx_knd a.2.1 = .inr t ∧ o = .inl (q, L, mx_i (Int32.ofNat (mx_N σ a)) :: r, σ) := by
  unfold mx_len at h
  split at h
  · split at h
    · cases h
      exact ⟨_, _, _, rfl, by assumption, rfl⟩
    · cases h
  · cases h
theorem mx_get_i {mid idx q : Nat} {L : mx_L} {st : List mx_V} {σ : mx_Hp} {o : mx_Rs} (h : mx_get mid idx q L st σ = some o) : ∃ ci k nst g i r, mx_fld (mx_mc mid) idx = some (ci, k, nst) ∧ st = .inr (.inr (some (g, ci, i))) :: r ∧ g < 2 ∧ o = .inl (q, L, mx_rd σ (g, ci, i) (mx_fty ci k) k :: r, σ) := by
  unfold mx_get at h
  split at h
  · obtain ⟨h1, h2⟩ := mx_bif h rfl
    cases h2
    simp only [Bool.and_eq_true, Nat.blt_eq, Nat.beq_eq] at h1
    obtain ⟨rfl, h1⟩ := h1
    exact ⟨_, _, _, _, _, _, by assumption, rfl, h1, rfl⟩
  · cases h
theorem mx_pt_i {mid idx q : Nat} {L : mx_L} {st : List mx_V} {σ : mx_Hp} {o : mx_Rs} (h : mx_pt mid idx q L st σ = some o) : ∃ ci k nst g i r v σ', mx_fld (mx_mc mid) idx = some (ci, k, nst) ∧ st = v :: .inr (.inr (some (g, ci, i))) :: r ∧ g < 2 ∧ (mx_fin ci k = false ∨ (mx_mi mid = true ∧ mx_mc mid = ci ∧ nst = false)) ∧ mx_wr σ (g, ci, i) (mx_fty ci k) k v = some σ' ∧ o = .inl (q, L, r, σ') := by
  unfold mx_pt at h
  split at h
  · obtain ⟨h1, h2⟩ := mx_bif h rfl
    simp only [Bool.and_eq_true, Nat.blt_eq, Nat.beq_eq, Bool.or_eq_true, Bool.not_eq_true'] at h1
    obtain ⟨⟨rfl, h1⟩, h3⟩ := h1
    split at h2
    · cases h2
      refine ⟨_, _, _, _, _, _, _, _, by assumption, rfl, h1, ?_, by assumption, rfl⟩
      rcases h3 with h3 | ⟨⟨h3, h4⟩, h5⟩
      · exact Or.inl h3
      · exact Or.inr ⟨h3, h4, h5⟩
    · cases h2
  · cases h
theorem mx_nw_i {mid idx q : Nat} {L : mx_L} {st : List mx_V} {σ : mx_Hp} {o : mx_Rs} (h : mx_nw mid idx q L st σ = some o) : ∃ ci, mx_new (mx_mc mid) idx = some ci ∧ mx_crg ci < 2 ∧ o = .inl (q, L, mx_r (some (mx_crg ci, ci, mx_C σ (mx_crg ci) ci)) :: st, mx_al σ (mx_crg ci) ci 0 (mx_fn ci)) := by
  unfold mx_nw at h
  split at h
  · obtain ⟨h1, h2⟩ := mx_bif h rfl
    cases h2
    exact ⟨_, by assumption, by simpa [Nat.blt_eq] using h1, rfl⟩
  · cases h
theorem mx_na_i {mid pc : Nat} {ty : FieldType} {q : Nat} {L : mx_L} {st : List mx_V} {σ : mx_Hp} {o : mx_Rs} (h : mx_na mid pc ty q L st σ = some o) : ∃ g t n r, st = .inl n :: r ∧ g < 2 ∧ mx_knd t = .inr ty ∧ ¬ n < 0 ∧ n.toNatClampNeg ≤ 65536 ∧ o = .inl (q, L, mx_r (some (g, t, mx_C σ g t)) :: r, mx_al σ g t n.toNatClampNeg n.toNatClampNeg) := by
  unfold mx_na at h
  split at h
  · obtain ⟨h1, h2⟩ := mx_bif h rfl
    cases h2
    simp only [Bool.and_eq_true, Nat.blt_eq, decide_eq_true_eq, Bool.not_eq_true', decide_eq_false_iff_not, Nat.ble_eq] at h1
    exact ⟨_, _, _, _, rfl, h1.1.1.1, h1.1.1.2, h1.1.2, h1.2, rfl⟩
  · cases h
theorem mx_dup_i {q : Nat} {L : mx_L} {st : List mx_V} {σ : mx_Hp} {o : mx_Rs} (h : mx_dup q L st σ = some o) : ∃ v r, st = v :: r ∧ mx_w v = 1 ∧ o = .inl (q, L, v :: v :: r, σ) := by
  unfold mx_dup at h
  split at h
  · cases h
    exact ⟨_, _, rfl, rfl, rfl⟩
  · cases h
    exact ⟨_, _, rfl, rfl, rfl⟩
  · cases h
theorem mx_popc_i {q : Nat} {L : mx_L} {st : List mx_V} {σ : mx_Hp} {o : mx_Rs} (h : mx_popc q L st σ = some o) : ∃ v r, st = v :: r ∧ mx_w v = 1 ∧ o = .inl (q, L, r, σ) := by
  unfold mx_popc at h
  split at h
  · cases h
    exact ⟨_, _, rfl, rfl, rfl⟩
  · cases h
    exact ⟨_, _, rfl, rfl, rfl⟩
  · cases h
theorem mx_ldcc_i {w : Option Int32} {q : Nat} {L : mx_L} {st : List mx_V} {σ : mx_Hp} {o : mx_Rs} (h : mx_ldcc w q L st σ = some o) : ∃ v, w = some v ∧ o = .inl (q, L, mx_i v :: st, σ) := by
  unfold mx_ldcc at h
  split at h
  · cases h
    exact ⟨_, rfl, rfl⟩
  · cases h
theorem mx_ldlc_i {w : Option Int64} {q : Nat} {L : mx_L} {st : List mx_V} {σ : mx_Hp} {o : mx_Rs} (h : mx_ldlc w q L st σ = some o) : ∃ v, w = some v ∧ o = .inl (q, L, mx_l v :: st, σ) := by
  unfold mx_ldlc at h
  split at h
  · cases h
    exact ⟨_, rfl, rfl⟩
  · cases h
theorem mx_iincc_i {nL : Nat} {L : mx_L} {k : Nat} {n : Int} {q : Nat} {st : List mx_V} {σ : mx_Hp} {o : mx_Rs} (h : mx_iincc nL L k n q st σ = some o) : ∃ x, L[k]? = some (some (.inl x)) ∧ k < nL ∧ o = .inl (q, mx_put1 L k (.inl (x + Int32.ofInt n)), st, σ) := by
  unfold mx_iincc at h
  split at h
  · obtain ⟨h1, h2⟩ := mx_bif h rfl
    cases h2
    exact ⟨_, by assumption, by simpa [Nat.blt_eq] using h1, rfl⟩
  · cases h
theorem mx_lcmpc_i {q : Nat} {L : mx_L} {st : List mx_V} {σ : mx_Hp} {o : mx_Rs} (h : mx_lcmpc q L st σ = some o) : ∃ x y r, st = .inr (.inl y) :: .inr (.inl x) :: r ∧ o = .inl (q, L, mx_i (lg_cmp x y) :: r, σ) := by
  unfold mx_lcmpc at h
  split at h
  · cases h
    exact ⟨_, _, _, rfl, rfl⟩
  · cases h
theorem mx_ifcc_i {cd : Jvm.ClassFile.Cond} {pc : Nat} {off : Int} {L : mx_L} {st : List mx_V} {σ : mx_Hp} {o : mx_Rs} (h : mx_ifcc cd pc off L st σ = some o) : ∃ x r, ∃ q : Nat, st = .inl x :: r ∧ (pc : Int) + off = (q : Int) ∧ o = .inl (bif mx_cd cd x 0 then q else pc + 3, L, r, σ) := by
  unfold mx_ifcc at h
  split at h
  · obtain ⟨q, h1, h2⟩ := mx_br_i h
    exact ⟨_, _, q, rfl, h1, h2⟩
  · cases h
theorem mx_icmc_i {cd : Jvm.ClassFile.Cond} {pc : Nat} {off : Int} {L : mx_L} {st : List mx_V} {σ : mx_Hp} {o : mx_Rs} (h : mx_icmc cd pc off L st σ = some o) : ∃ x y r, ∃ q : Nat, st = .inl y :: .inl x :: r ∧ (pc : Int) + off = (q : Int) ∧ o = .inl (bif mx_cd cd x y then q else pc + 3, L, r, σ) := by
  unfold mx_icmc at h
  split at h
  · obtain ⟨q, h1, h2⟩ := mx_br_i h
    exact ⟨_, _, _, q, rfl, h1, h2⟩
  · cases h
theorem mx_tswc_i {dflt lo hi : Int} {offs : Array Int} {pc : Nat} {L : mx_L} {st : List mx_V} {σ : mx_Hp} {o : mx_Rs} (h : mx_tswc dflt lo hi offs pc L st σ = some o) : ∃ x r, ∃ off : Int, ∃ q : Nat, st = .inl x :: r ∧ mx_tsw dflt lo hi offs x = some off ∧ (pc : Int) + off = (q : Int) ∧ o = .inl (q, L, r, σ) := by
  unfold mx_tswc at h
  split at h
  · obtain ⟨off, q, h1, h2, h3⟩ := mx_sw_i h
    exact ⟨_, _, off, q, rfl, h1, h2, h3⟩
  · cases h
theorem mx_lswc_i {dflt : Int} {ps : Array (Int × Int)} {pc : Nat} {L : mx_L} {st : List mx_V} {σ : mx_Hp} {o : mx_Rs} (h : mx_lswc dflt ps pc L st σ = some o) : ∃ x r, ∃ q : Nat, st = .inl x :: r ∧ (ps.toList.zip (ps.toList.drop 1)).all (fun (a, next) => a.1 < next.1) = true ∧ (pc : Int) + Op.lookupswitch.offset ps.toList dflt x.toInt = (q : Int) ∧ o = .inl (q, L, r, σ) := by
  unfold mx_lswc at h
  split at h
  · obtain ⟨h1, h2⟩ := mx_bif h rfl
    obtain ⟨off, q, h3, h4, h5⟩ := mx_sw_i h2
    cases h3
    exact ⟨_, _, q, rfl, h1, h4, h5⟩
  · cases h
theorem mx_anwc_i {w : Option String} {mid pc q : Nat} {L : mx_L} {st : List mx_V} {σ : mx_Hp} {o : mx_Rs} (h : mx_anwc w mid pc q L st σ = some o) : ∃ C, w = some C ∧ mx_na mid pc (.object C) q L st σ = some o := by
  unfold mx_anwc at h
  split at h
  · exact ⟨_, rfl, h⟩
  · cases h
theorem mx_wd_map (ρ : mx_Ad → Nat) (r : List mx_V) : ((r.map (mx_tv ρ)).map fun v => v.category).sum = mx_wd r := by
  induction r with
  | nil => rfl
  | cons v r ih => simp only [List.map_cons, List.sum_cons, mx_tv_cat, mx_wd, ih]
theorem mx_callS_i {mid idx q : Nat} {st : List mx_V} {o : mx_Rs} (h : mx_callS mid idx q st = some o) : ∃ y nst as r, mx_cal (mx_mc mid) idx = some (y, nst) ∧ mx_ms y = true ∧ mx_pop (mx_mn y) st [] = some (as, r) ∧ mx_wd r ≤ 8 ∧ o = .inr (.inl (y, as, q, r)) := by
  unfold mx_callS at h
  split at h
  · obtain ⟨h1, h2⟩ := mx_bif h rfl
    split at h2
    · obtain ⟨h3, h4⟩ := mx_bif h2 rfl
      cases h4
      exact ⟨_, _, _, _, by assumption, h1, by assumption, by simpa [Nat.ble_eq] using h3, rfl⟩
    · cases h2
  · cases h
theorem mx_callV_i {mid idx q : Nat} {st : List mx_V} {o : mx_Rs} (h : mx_callV mid idx q st = some o) : ∃ y nst as g i r, mx_cal (mx_mc mid) idx = some (y, nst) ∧ mx_ms y = false ∧ mx_mi y = false ∧ mx_pop (mx_mn y) st [] = some (as, .inr (.inr (some (g, mx_mc y, i))) :: r) ∧ g < 2 ∧ mx_wd r ≤ 8 ∧ o = .inr (.inl (y, mx_r (some (g, mx_mc y, i)) :: as, q, r)) := by
  unfold mx_callV at h
  split at h
  · obtain ⟨h1, h2⟩ := mx_bif h rfl
    simp only [Bool.and_eq_true, Bool.not_eq_true'] at h1
    split at h2
    · obtain ⟨h3, h4⟩ := mx_bif h2 rfl
      cases h4
      simp only [Bool.and_eq_true, Nat.beq_eq, Nat.blt_eq, Nat.ble_eq] at h3
      obtain ⟨⟨rfl, h5⟩, h6⟩ := h3
      exact ⟨_, _, _, _, _, _, by assumption, h1.1, h1.2, by assumption, h5, h6, rfl⟩
    · cases h2
  · cases h
theorem mx_callI_i {mid idx q : Nat} {L : mx_L} {st : List mx_V} {σ : mx_Hp} {o : mx_Rs} (h : mx_callI mid idx q L st σ = some o) : (∃ a r, mx_obi (mx_mc mid) idx = true ∧ st = .inr (.inr (some a)) :: r ∧ mx_wd r ≤ 8 ∧ o = .inl (q, L, r, σ)) ∨ ∃ y nst as a r, mx_cal (mx_mc mid) idx = some (y, nst) ∧ mx_ms y = false ∧ mx_mi y = true ∧ mx_pop (mx_mn y) st [] = some (as, .inr (.inr (some a)) :: r) ∧ mx_wd r ≤ 8 ∧ o = .inr (.inl (y, mx_r (some a) :: as, q, r)) := by
  unfold mx_callI at h
  cases hob : mx_obi (mx_mc mid) idx with
  | true =>
    rw [hob] at h
    simp only [cond_true] at h
    split at h
    · obtain ⟨h1, h2⟩ := mx_bif h rfl
      cases h2
      exact Or.inl ⟨_, _, rfl, rfl, by simpa [Nat.ble_eq] using h1, rfl⟩
    · cases h
  | false =>
    rw [hob] at h
    simp only [cond_false] at h
    split at h
    · obtain ⟨h1, h2⟩ := mx_bif h rfl
      simp only [Bool.and_eq_true, Bool.not_eq_true'] at h1
      split at h2
      · obtain ⟨h3, h4⟩ := mx_bif h2 rfl
        cases h4
        exact Or.inr ⟨_, _, _, _, _, by assumption, h1.1, h1.2, by assumption, by simpa [Nat.ble_eq] using h3, rfl⟩
      · cases h2
    · cases h
theorem mx_callI_o {mid idx q : Nat} {L : mx_L} {st : List mx_V} {σ : mx_Hp} {x : mx_St} (h : mx_callI mid idx q L st σ = some (.inl x)) : ∃ a r, mx_obi (mx_mc mid) idx = true ∧ st = .inr (.inr (some a)) :: r ∧ mx_wd r ≤ 8 ∧ x = (q, L, r, σ) := by
  rcases mx_callI_i h with ⟨a, r, h1, h2, h3, h4⟩ | ⟨y, nst, as, a, r, h1, h2, h3, h4, h5, h6⟩
  · exact ⟨a, r, h1, h2, h3, Sum.inl.inj h4⟩
  · cases h6
theorem mx_callS_n {mid idx q : Nat} {st : List mx_V} {x : mx_St} : ¬ mx_callS mid idx q st = some (.inl x) := fun h => by
  obtain ⟨_, _, _, _, _, _, _, _, ho⟩ := mx_callS_i h
  cases ho
theorem mx_callV_n {mid idx q : Nat} {st : List mx_V} {x : mx_St} : ¬ mx_callV mid idx q st = some (.inl x) := fun h => by
  obtain ⟨_, _, _, _, _, _, _, _, _, _, _, _, ho⟩ := mx_callV_i h
  cases ho
theorem mx_ireturn_i {mid : Nat} {st : List mx_V} {o : mx_Rs} (h : mx_ireturn mid st = some o) : ∃ x, st = [.inl x] ∧ (mx_mr mid = some .int ∨ (mx_mr mid = some .boolean ∧ (x = 0 ∨ x = 1))) ∧ o = .inr (.inr (some (.inl x))) := by
  unfold mx_ireturn at h
  split at h
  · cases h
    exact ⟨_, rfl, Or.inl (by assumption), rfl⟩
  · split at h
    · cases h
      exact ⟨_, rfl, Or.inr ⟨by assumption, by assumption⟩, rfl⟩
    · cases h
  · cases h
theorem mx_lreturn_i {mid : Nat} {st : List mx_V} {o : mx_Rs} (h : mx_lreturn mid st = some o) : ∃ x, st = [.inr (.inl x)] ∧ mx_mr mid = some .long ∧ o = .inr (.inr (some (.inr (.inl x)))) := by
  unfold mx_lreturn at h
  split at h
  · cases h
    exact ⟨_, rfl, by assumption, rfl⟩
  · cases h
theorem mx_areturn_i {mid : Nat} {st : List mx_V} {o : mx_Rs} (h : mx_areturn mid st = some o) : ∃ x, st = [.inr (.inr x)] ∧ ((∃ n, mx_mr mid = some (.object n)) ∨ ∃ t, mx_mr mid = some (.array t)) ∧ o = .inr (.inr (some (.inr (.inr x)))) := by
  unfold mx_areturn at h
  split at h
  · cases h
    exact ⟨_, rfl, Or.inl ⟨_, by assumption⟩, rfl⟩
  · cases h
    exact ⟨_, rfl, Or.inr ⟨_, by assumption⟩, rfl⟩
  · cases h
theorem mx_vreturn_i {mid : Nat} {st : List mx_V} {o : mx_Rs} (h : mx_vreturn mid st = some o) : st = [] ∧ mx_mr mid = none ∧ o = .inr (.inr none) := by
  unfold mx_vreturn at h
  split at h
  · cases h
    exact ⟨rfl, by assumption, rfl⟩
  · cases h
theorem mx_ret_n {mid : Nat} {st : List mx_V} {x : mx_St} : (¬ mx_ireturn mid st = some (.inl x)) ∧ (¬ mx_lreturn mid st = some (.inl x)) ∧ (¬ mx_areturn mid st = some (.inl x)) ∧ ¬ mx_vreturn mid st = some (.inl x) := by
  refine ⟨fun h => ?_, fun h => ?_, fun h => ?_, fun h => ?_⟩
  · obtain ⟨_, _, _, ho⟩ := mx_ireturn_i h
    cases ho
  · obtain ⟨_, _, _, ho⟩ := mx_lreturn_i h
    cases ho
  · obtain ⟨_, _, _, ho⟩ := mx_areturn_i h
    cases ho
  · obtain ⟨_, _, ho⟩ := mx_vreturn_i h
    cases ho
end
section
/-! the rows: a step of the abstract machine, then the rest -/
theorem mx_nwf {a : String} {i : Nat} {b n d h : String} {args : Array Value} {s : State} (hZ : va_Nw (.fieldLinkNest a i b n d h) s) : (Cond.fieldLinkNest a i b n d h).before args s = true := va_Nw.use rfl hZ
theorem mx_nfU {D : mx_D} {s : State} {args : Array Value} (h : mx_SW D s) {a : String} {i : Nat} {b n d host : String} (hh : (a, i, b, n, d, host) ∈ mx_nf) : (Cond.fieldLinkNest a i b n d host).before args s = true := by
  obtain ⟨-, -, h3, -⟩ := h
  exact mx_nwf (h3 _ hh)
section MXS
variable {p : Program} {l : Launch} {e : Env} {R : Room} {s : State} {m : MethodId} {args : Array Value} {below : List Frame} {meth : Method} {c : Code} {H : Heap} {locs : List Loc} {cells slots : Nat} {Q : State → Prop}
variable {cc : ByteArray} {pc : Nat} {ls : Array Slot} {rest : List Value}
theorem mx_ifc (hexec : p.tables.exec = Jvm.exec) (hb : c.code = cc) {x : Int32} {cd : Jvm.ClassFile.Cond} {off : Int} {tgt : Nat} (hdg : decode cc pc = .ok (.ifCond cd off, 3)) (ht : (pc : Int) + off = (tgt : Int))
    (k : W p l e R s m args below meth c H locs cells slots Q (F0 m (bif mx_cd cd x 0 then tgt else pc + 3) ls rest)) : W p l e R s m args below meth c H locs cells slots Q (F0 m pc ls (.int x :: rest)) := by
  cases cd
  · exact lv_if_eq hexec hb hdg ht (fun h => by simpa [mx_cd, h] using k) (fun h => by simpa [mx_cd, h] using k)
  · exact lv_if_ne hexec hb hdg ht (fun h => by simpa [mx_cd, h] using k) (fun h => by simpa [mx_cd, h] using k)
  · exact lv_if_lt hexec hb hdg ht (fun h => by simpa [mx_cd, h] using k) (fun h => by rw [show mx_cd .lt x 0 = false from decide_eq_false h] at k; exact k)
  · exact lv_if_ge hexec hb hdg ht (fun h => by rw [show mx_cd .ge x 0 = true from decide_eq_true h] at k; exact k) (fun h => by rw [show mx_cd .ge x 0 = false from decide_eq_false h] at k; exact k)
  · exact lv_if_gt hexec hb hdg ht (fun h => by rw [show mx_cd .gt x 0 = true from decide_eq_true h] at k; exact k) (fun h => by rw [show mx_cd .gt x 0 = false from decide_eq_false h] at k; exact k)
  · exact lv_if_le hexec hb hdg ht (fun h => by rw [show mx_cd .le x 0 = true from decide_eq_true h] at k; exact k) (fun h => by rw [show mx_cd .le x 0 = false from decide_eq_false h] at k; exact k)
theorem mx_icc (hexec : p.tables.exec = Jvm.exec) (hb : c.code = cc) {x y : Int32} {cd : Jvm.ClassFile.Cond} {off : Int} {tgt : Nat} (hdg : decode cc pc = .ok (.if_icmp cd off, 3)) (ht : (pc : Int) + off = (tgt : Int))
    (k : W p l e R s m args below meth c H locs cells slots Q (F0 m (bif mx_cd cd x y then tgt else pc + 3) ls rest)) : W p l e R s m args below meth c H locs cells slots Q (F0 m pc ls (.int y :: .int x :: rest)) := by
  cases cd
  · exact lv_icmp_eq hexec hb hdg ht (fun h => by rw [show mx_cd .eq x y = true from decide_eq_true h] at k; exact k) (fun h => by rw [show mx_cd .eq x y = false from decide_eq_false h] at k; exact k)
  · exact lv_icmp_ne hexec hb hdg ht (fun h => by rw [show mx_cd .ne x y = true by simp [mx_cd, h]] at k; exact k) (fun h => by rw [show mx_cd .ne x y = false by simp [mx_cd, h]] at k; exact k)
  · exact lv_icmp_lt hexec hb hdg ht (fun h => by rw [show mx_cd .lt x y = true from decide_eq_true h] at k; exact k) (fun h => by rw [show mx_cd .lt x y = false from decide_eq_false h] at k; exact k)
  · exact lv_icmp_ge hexec hb hdg ht (fun h => by rw [show mx_cd .ge x y = true from decide_eq_true h] at k; exact k) (fun h => by rw [show mx_cd .ge x y = false from decide_eq_false h] at k; exact k)
  · exact lv_icmp_gt hexec hb hdg ht (fun h => by rw [show mx_cd .gt x y = true from decide_eq_true h] at k; exact k) (fun h => by rw [show mx_cd .gt x y = false from decide_eq_false h] at k; exact k)
  · exact lv_icmp_le hexec hb hdg ht (fun h => by rw [show mx_cd .le x y = true from decide_eq_true h] at k; exact k) (fun h => by rw [show mx_cd .le x y = false from decide_eq_false h] at k; exact k)
variable {D : mx_D} {z0 K0 Z0 mid d nL : Nat} {ρ : mx_Ad → Nat} {σ : mx_Hp} {L : mx_L} {st : List mx_V}
/-- the stack alone changes -/
theorem mx_At.stk {st' : List mx_V} (h : mx_At D z0 K0 Z0 nL ρ σ L st H locs cells slots ls) (hs : ∀ v ∈ st', v ∈ st ∨ mx_vk σ v) : mx_At D z0 K0 Z0 nL ρ σ L st' H locs cells slots ls := ⟨h.1, h.2.1, h.2.2.1.st hs, h.2.2.2⟩
theorem mx_m0 {v : mx_V} {r : List mx_V} (hv : mx_vk σ v) : ∀ w ∈ v :: r, w ∈ r ∨ mx_vk σ w := fun w hw => by
  rcases List.mem_cons.mp hw with rfl | h
  · exact Or.inr hv
  · exact Or.inl h
theorem mx_mm1 {v x : mx_V} {r : List mx_V} (hv : mx_vk σ v) : ∀ w ∈ v :: r, w ∈ x :: r ∨ mx_vk σ w := fun w hw => by
  rcases List.mem_cons.mp hw with rfl | h
  · exact Or.inr hv
  · exact Or.inl (List.mem_cons_of_mem _ h)
theorem mx_mm2 {v x y : mx_V} {r : List mx_V} (hv : mx_vk σ v) : ∀ w ∈ v :: r, w ∈ y :: x :: r ∨ mx_vk σ w := fun w hw => by
  rcases List.mem_cons.mp hw with rfl | h
  · exact Or.inr hv
  · exact Or.inl (List.mem_cons_of_mem _ (List.mem_cons_of_mem _ h))
theorem mx_p1 {x : mx_V} {r : List mx_V} : ∀ w ∈ r, w ∈ x :: r ∨ mx_vk σ w := fun _ h => Or.inl (List.mem_cons_of_mem _ h)
theorem mx_p2 {x y : mx_V} {r : List mx_V} : ∀ w ∈ r, w ∈ y :: x :: r ∨ mx_vk σ w := fun _ h => Or.inl (List.mem_cons_of_mem _ (List.mem_cons_of_mem _ h))
theorem mx_p3 {x y z : mx_V} {r : List mx_V} : ∀ w ∈ r, w ∈ z :: y :: x :: r ∨ mx_vk σ w := fun _ h => Or.inl (List.mem_cons_of_mem _ (List.mem_cons_of_mem _ (List.mem_cons_of_mem _ h)))
/-- locals -/
theorem mx_ldk {i : Nat} {x : mx_V} (h : mx_At D z0 K0 Z0 nL ρ σ L st H locs cells slots ls) (hl : L[i]? = some (some x)) (hb : mx_hb L i x = true) : ls[i]? = some (.val (mx_tv ρ x)) ∧ mx_At D z0 K0 Z0 nL ρ σ L (x :: st) H locs cells slots ls := ⟨h.2.1.2.2 i x hl hb, h.stk (mx_m0 (h.2.2.1.2 i x hl))⟩
theorem mx_store1 {i : Nat} {x : mx_V} {r : List mx_V} {ls' : Array Slot} (h : mx_At D z0 K0 Z0 nL ρ σ L (x :: r) H locs cells slots ls) (hl : lv_has ls' nL ((i, mx_tv ρ x) :: (mx_lv ρ L).filter (fun q => !(q.1 == i) && !(q.1 + 1 == i && q.2.category == 2)))) : mx_At D z0 K0 Z0 nL ρ σ (mx_put1 L i x) r H locs cells slots ls' := ⟨h.1, mx_Lr.put1 hl, h.2.2.1.put1 (h.2.2.1.1 x List.mem_cons_self) (fun _ q => List.mem_cons_of_mem _ q), h.2.2.2⟩
theorem mx_store2 {i : Nat} {x : mx_V} {r : List mx_V} {ls' : Array Slot} (h : mx_At D z0 K0 Z0 nL ρ σ L (x :: r) H locs cells slots ls) (hl : lv_has ls' nL ((i, mx_tv ρ x) :: (mx_lv ρ L).filter (fun q => !(q.1 == i) && (!(q.1 == i + 1) && !(q.1 + 1 == i && q.2.category == 2))))) : mx_At D z0 K0 Z0 nL ρ σ (mx_put2 L i x) r H locs cells slots ls' := ⟨h.1, mx_Lr.put2 hl, h.2.2.1.put2 (h.2.2.1.1 x List.mem_cons_self) (fun _ q => List.mem_cons_of_mem _ q), h.2.2.2⟩
/-- reading -/
theorem mx_rdk (h : mx_Rep D z0 ρ σ H) {a : mx_Ad} (ha : mx_ok σ a) (ty : FieldType) (k : Nat) : mx_vk σ (mx_rd σ a ty k) := by
  cases ty <;> (simp only [mx_rd]; first | trivial | skip)
  all_goals
    cases hr : mx_R σ a k with
    | none => trivial
    | some b => exact h.2.2.1 a k b ha hr
theorem mx_fitsO {ty : FieldType} {v : mx_V} {σ' : mx_Hp} {a : mx_Ad} {k : Nat} (h : mx_wr σ a ty k v = some σ') : narrow ty (mx_tv ρ v) = mx_tv ρ v ∧ fits ty (mx_tv ρ v) = true := by
  unfold mx_wr at h
  split at h
  · exact ⟨rfl, rfl⟩
  · rename_i x
    cases x <;> exact ⟨rfl, rfl⟩
  · rename_i x
    cases x <;> exact ⟨rfl, rfl⟩
  · exact ⟨rfl, rfl⟩
  · split at h
    · rename_i hx
      rcases hx with rfl | rfl
      · exact ⟨show narrow .boolean (.int 0) = .int 0 by decide, show fits .boolean (.int 0) = true by decide⟩
      · exact ⟨show narrow .boolean (.int 1) = .int 1 by decide, show fits .boolean (.int 1) = true by decide⟩
    · cases h
  · cases h
/-- what a write does to the abstract heap -/
theorem mx_wr_o {ty : FieldType} {v : mx_V} {σ' : mx_Hp} {a : mx_Ad} {k : Nat} (h : mx_wr σ a ty k v = some σ') (hg : a.1 < 2) (hv : mx_vk σ v) (hR : ∀ k b, mx_R σ a k = some b → mx_ok σ b) :
    (∀ g t, mx_C σ' g t = mx_C σ g t) ∧ (∀ b, b ≠ a → ∀ k, mx_I σ' b k = mx_I σ b k) ∧ (∀ b, b ≠ a → ∀ k, mx_J σ' b k = mx_J σ b k) ∧ (∀ b, b ≠ a → ∀ k, mx_R σ' b k = mx_R σ b k) ∧ (∀ b, mx_N σ' b = mx_N σ b) ∧ (∀ k b, mx_R σ' a k = some b → mx_ok σ b) ∧ mx_K σ' = mx_K σ ∧ mx_Z σ' = mx_Z σ ∧ mx_rd σ' a ty k = v ∧ (∀ ty' j, j ≠ k → mx_rd σ' a ty' j = mx_rd σ a ty' j) := by
  unfold mx_wr at h
  split at h
  · cases h
    rename_i x
    obtain ⟨o1, o2, o3, o4, o5, o6⟩ := mx_sJ_o (σ := σ) (k := k) hg x
    refine ⟨o3, fun b _ j => o1 b j, fun b hb j => ?_, fun b _ j => o2 b j, o4, fun j b => by rw [o2]; exact hR j b, o5, o6, ?_, fun ty' j hj => mx_rd_eq (o1 a j) ?_ (o2 a j) ty'⟩
    · rw [mx_J_sJ hg, if_neg (fun q => hb q.1)]
    · simp only [mx_rd]
      rw [mx_J_sJ hg, if_pos ⟨rfl, rfl⟩]
    · rw [mx_J_sJ hg, if_neg (fun q => hj q.2)]
  · cases h
    rename_i x
    obtain ⟨o1, o2, o3, o4, o5, o6⟩ := mx_sR_o (σ := σ) (k := k) hg x
    refine ⟨o3, fun b _ j => o1 b j, fun b _ j => o2 b j, fun b hb j => ?_, o4, fun j b => ?_, o5, o6, ?_, fun ty' j hj => mx_rd_eq (o1 a j) (o2 a j) ?_ ty'⟩
    · rw [mx_R_sR hg, if_neg (fun q => hb q.1)]
    · rw [mx_R_sR hg]
      split
      · intro hx
        subst hx
        exact hv
      · exact hR j b
    · simp only [mx_rd]
      rw [mx_R_sR hg, if_pos ⟨rfl, rfl⟩]
    · rw [mx_R_sR hg, if_neg (fun q => hj q.2)]
  · cases h
    rename_i x
    obtain ⟨o1, o2, o3, o4, o5, o6⟩ := mx_sR_o (σ := σ) (k := k) hg x
    refine ⟨o3, fun b _ j => o1 b j, fun b _ j => o2 b j, fun b hb j => ?_, o4, fun j b => ?_, o5, o6, ?_, fun ty' j hj => mx_rd_eq (o1 a j) (o2 a j) ?_ ty'⟩
    · rw [mx_R_sR hg, if_neg (fun q => hb q.1)]
    · rw [mx_R_sR hg]
      split
      · intro hx
        subst hx
        exact hv
      · exact hR j b
    · simp only [mx_rd]
      rw [mx_R_sR hg, if_pos ⟨rfl, rfl⟩]
    · rw [mx_R_sR hg, if_neg (fun q => hj q.2)]
  · cases h
    rename_i x
    obtain ⟨o1, o2, o3, o4, o5, o6⟩ := mx_sI_o (σ := σ) (k := k) hg x
    refine ⟨o3, fun b hb j => ?_, fun b _ j => o1 b j, fun b _ j => o2 b j, o4, fun j b => by rw [o2]; exact hR j b, o5, o6, ?_, fun ty' j hj => mx_rd_eq ?_ (o1 a j) (o2 a j) ty'⟩
    · rw [mx_I_sI hg, if_neg (fun q => hb q.1)]
    · simp only [mx_rd]
      rw [mx_I_sI hg, if_pos ⟨rfl, rfl⟩]
    · rw [mx_I_sI hg, if_neg (fun q => hj q.2)]
  · split at h
    · cases h
      rename_i x _
      obtain ⟨o1, o2, o3, o4, o5, o6⟩ := mx_sI_o (σ := σ) (k := k) hg x
      refine ⟨o3, fun b hb j => ?_, fun b _ j => o1 b j, fun b _ j => o2 b j, o4, fun j b => by rw [o2]; exact hR j b, o5, o6, ?_, fun ty' j hj => mx_rd_eq ?_ (o1 a j) (o2 a j) ty'⟩
      · rw [mx_I_sI hg, if_neg (fun q => hb q.1)]
      · simp only [mx_rd]
        rw [mx_I_sI hg, if_pos ⟨rfl, rfl⟩]
      · rw [mx_I_sI hg, if_neg (fun q => hj q.2)]
    · cases h
  · cases h
/-- the cell behind a field -/
theorem mx_objc (h : mx_Rep D z0 ρ σ H) {g ci i : Nat} (ha : mx_ok σ (g, ci, i)) (hg : g < 2) {q : vw_C} (hq : mx_cls[ci]? = some q) : t_OB (ρ (g, ci, i)) (D.1 ci) q.2.2 (D.2.1 ci) H (fun k => mx_tv ρ (mx_rd σ (g, ci, i) (mx_fty ci k) k)) := by
  have h1 := (h.1 _ ha).2 hg
  have h2 : mx_knd ci = .inl ci := (mx_cls_ok hq).2.2.2.2.2.1
  simp only [h2] at h1
  obtain ⟨q', hq', hO⟩ := h1
  cases hq.symm.trans hq'
  exact hO
/-- getfield -/
theorem mx_getS (Cx : mx_Cx p s m args meth c R D mid d) (hA : mx_At D z0 K0 Z0 nL ρ σ L st H locs cells slots ls) {idx q : Nat} {o : mx_Rs} (hq : q = pc + 3) (hd : decode (mx_mb mid) pc = .ok (.getfield idx, 3)) (h : mx_get mid idx q L st σ = some o)
    (kk : ∀ st', o = .inl (q, L, st', σ) → mx_At D z0 K0 Z0 nL ρ σ L st' H locs cells slots ls → W p l e R s m args below meth c H locs cells slots Q (F0 m q ls (st'.map (mx_tv ρ)))) : W p l e R s m args below meth c H locs cells slots Q (F0 m pc ls (st.map (mx_tv ρ))) := by
  subst hq
  obtain ⟨hx, hb, hml, hown, hts, hSW, -⟩ := Cx
  obtain ⟨ci, k, nst, g, i, r, hf, rfl, hg, rfl⟩ := mx_get_i h
  obtain ⟨qc, hqc, hkN, hw1, hw2⟩ := mx_fld_ok hf
  have ha : mx_ok σ (g, ci, i) := hA.2.2.1.1 _ List.mem_cons_self
  obtain ⟨cell, c1, c2, c3, c4⟩ := mx_objc hA.1 ha hg hqc
  obtain ⟨hin, -⟩ := mx_cls_ok hqc
  obtain ⟨hS, hfc, kC, hkC, hkind⟩ := hSW.1.1 ci _ hqc
  obtain ⟨cf, kf, fi, f, hi, hsl⟩ := hS k hkN
  have hst := (u_facts hfc hkC (u_lays hts hin hkN) hi).1
  have hdl : (qc.2.1 k).1 = qc.1 := ((mx_cls_ok hqc).2.2.2.1 k hkN).2.1
  have hi' := hi
  rw [hdl] at hi'
  have go := kk _ rfl (hA.stk (mx_mm1 (mx_rdk hA.1 ha (mx_fty ci k) k)))
  cases nst with
  | false => exact W.getf hx hb hown (hts _ (hw1 rfl)) hi' hst c1 (by rw [c3]; exact fun h => by cases h) (by rw [hsl, c4 k hkN]) rfl rfl hd go
  | true =>
    obtain ⟨host, hh⟩ := hw2 rfl
    have hn : (Cond.fieldLinkNest (mx_own (mx_mc mid)) idx qc.1 (qc.2.1 k).2.1 (qc.2.1 k).2.2.1 host).before args s = true := mx_nfU hSW hh
    exact va_Wgetf hx hb hown hn hi' hst c1 (by rw [c3]; exact fun h => by cases h) (by rw [hsl, c4 k hkN]) rfl rfl hd go
/-- putfield -/
theorem mx_ptS (Cx : mx_Cx p s m args meth c R D mid d) (hA : mx_At D z0 K0 Z0 nL ρ σ L st H locs cells slots ls) {idx q : Nat} {o : mx_Rs} (hq : q = pc + 3) (hd : decode (mx_mb mid) pc = .ok (.putfield idx, 3)) (h : mx_pt mid idx q L st σ = some o)
    (kk : ∀ st' σ' H' locs', o = .inl (q, L, st', σ') → mx_At D z0 K0 Z0 nL ρ σ' L st' H' locs' cells slots ls → mx_Ext ρ σ ρ σ' → W p l e R s m args below meth c H' locs' cells slots Q (F0 m q ls (st'.map (mx_tv ρ)))) : W p l e R s m args below meth c H locs cells slots Q (F0 m pc ls (st.map (mx_tv ρ))) := by
  subst hq
  obtain ⟨hx, hb, hml, hown, hts, hSW, hin0, -⟩ := Cx
  obtain ⟨ci, k, nst, g, i, r, v, σ', hf, rfl, hg, hfinal, hwr, rfl⟩ := mx_pt_i h
  obtain ⟨qc, hqc, hkN, hw1, hw2⟩ := mx_fld_ok hf
  have hvk : mx_vk σ v := hA.2.2.1.1 _ List.mem_cons_self
  have ha : mx_ok σ (g, ci, i) := hA.2.2.1.1 _ (List.mem_cons_of_mem _ List.mem_cons_self)
  have hO := mx_objc hA.1 ha hg hqc
  obtain ⟨cell, c1, c2, c3, c4⟩ := hO
  obtain ⟨hin, hnm, hty, hrest, hcn, hknd, -⟩ := mx_cls_ok hqc
  have hap := va_apart (own := mx_own (mx_mc mid)) hts hin (mx_fty ci) hty hnm hSW.1 hqc
  obtain ⟨hS, hfc, kC, hkC, hkind⟩ := hSW.1.1 ci _ hqc
  obtain ⟨cf, kf, fi, f, hi, hsl⟩ := hS k hkN
  have hlays := u_lays hts hin hkN
  have hst := (u_facts hfc hkC hlays hi).1
  obtain ⟨hfin, hdl, -⟩ := hrest k hkN
  have hi' := hi
  rw [hdl] at hi'
  obtain ⟨hn, hfit⟩ := mx_fitsO (ρ := ρ) hwr
  obtain ⟨w1, w2, w3, w4, w5, w6, w7, w8, w9, w10⟩ := mx_wr_o hwr hg hvk (fun j b => hA.1.2.2.1 _ j b ha)
  have go : ∀ H' : Heap, H'[ρ (g, ci, i)]? = some (cell.setSlot f.slot (mx_tv ρ v)) → H'.size = H.size → (∀ q, q ≠ ρ (g, ci, i) → H'[q]? = H[q]?) → W p l e R s m args below meth c H' (locs ++ [⟨ρ (g, ci, i), f.slot⟩]) cells slots Q (F0 m (pc + 3) ls (r.map (mx_tv ρ))) := by
    intro H' e1 e2 e3
    rw [hsl] at e1 ⊢
    have hE : mx_Ext ρ σ ρ σ' := fun b hb => ⟨by unfold mx_ok at hb ⊢; rw [w1]; exact hb, rfl⟩
    refine kk r σ' H' _ rfl ⟨?_, hA.2.1, ?_, ?_, by rw [w7]; exact hA.2.2.2.2.1, by rw [w8]; exact hA.2.2.2.2.2.1, by rw [e2]; exact hA.2.2.2.2.2.2⟩ hE
    · refine hA.1.wr ha hg w1 w2 w3 w4 w5 ?_ w6 e3
      simp only [hknd]
      refine ⟨qc, hqc, t_OB.to (V := updV (fun k => mx_tv ρ (mx_rd σ (g, ci, i) (mx_fty ci k) k)) k (mx_tv ρ v)) ⟨_, e1, c2, c3, t_set c4 hap hkN _⟩ (fun j _ => ?_)⟩
      unfold updV
      by_cases hj : j = k
      · subst hj
        rw [if_pos rfl, w9]
      · rw [if_neg hj, w10 _ j hj]
    · exact ((hA.2.2.1.st (st' := r) mx_p2).mv hE).1
    · intro x hx2
      rcases List.mem_append.mp hx2 with h1 | h1
      · exact hA.2.2.2.1 x h1
      · rw [List.mem_singleton.mp h1]
        exact hA.1.2.2.2 _ ha hg
  rcases hfinal with hff | ⟨hmi, hmc, hnst⟩
  · have hlay := hts _ (hin _ (u_in_lay hkN))
    unfold u_lay at hlay
    rw [if_neg (by rw [hfin, hff]; decide)] at hlay
    have h6 := u_store hfc hkC hkind hlay hi (hty k hkN) hn hfit
    cases nst with
    | false => exact W.putK hx hb (f := f) ⟨hown, hts _ (hw1 rfl), ⟨_, _, _, hi'⟩, hst⟩ (by rw [c2]; exact h6) c1 c3 (by rw [hsl]; exact k2_hasslot (c4 k hkN)) rfl rfl hd go
    | true =>
      obtain ⟨host, hh⟩ := hw2 rfl
      have hn : (Cond.fieldLinkNest (mx_own (mx_mc mid)) idx qc.1 (qc.2.1 k).2.1 (qc.2.1 k).2.2.1 host).before args s = true := mx_nfU hSW hh
      exact va_WputK hx hb (f := f) hown hn hi' hst (by rw [c2]; exact h6) c1 c3 (by rw [hsl]; exact k2_hasslot (c4 k hkN)) rfl rfl hd go
  · by_cases hff : mx_fin ci k = true
    · have hlay := hts _ (hin _ (u_in_lay hkN))
      unfold u_lay at hlay
      rw [if_pos (by rw [hfin, hff])] at hlay
      have hcf : m.cls = cf := by
        obtain ⟨_, _, c', _, _, _, -, -, hf', -, -, -, hown2, -⟩ := Cond.laysFinal_spec hlay
        have e1 : c' = cf := by have := hi.symm.trans hf'; simp at this; exact this.1.symm
        rw [hdl, ← hcn, ← hmc] at hown2
        rw [← e1]; exact Option.some.inj (hown.symm.trans hown2)
      have h6 := u_fits hfc hkC hkind (Or.inr hlay) hi (hty k hkN) hn hfit
      exact W.putFinK hx hb hown (hts _ (hw1 hnst)) hi' hst hcf (hin0 hmi) (by rw [c2]; exact h6) c1 c3 (by rw [hsl]; exact k2_hasslot (c4 k hkN)) rfl rfl hd go
    · have hff : mx_fin ci k = false := by simpa using hff
      have hlay := hts _ (hin _ (u_in_lay hkN))
      unfold u_lay at hlay
      rw [if_neg (by rw [hfin, hff]; decide)] at hlay
      have h6 := u_store hfc hkC hkind hlay hi (hty k hkN) hn hfit
      exact W.putK hx hb (f := f) ⟨hown, hts _ (hw1 hnst), ⟨_, _, _, hi'⟩, hst⟩ (by rw [c2]; exact h6) c1 c3 (by rw [hsl]; exact k2_hasslot (c4 k hkN)) rfl rfl hd go
/-- an array's cell -/
theorem mx_arrc (h : mx_Rep D z0 ρ σ H) (hSW : mx_SW D s) {a : mx_Ad} (ha : mx_ok σ a) {ty : FieldType} (hk : mx_knd a.2.1 = .inr ty) : ∃ cell : Cell, H[ρ a]? = some cell ∧ s.isArrayOf cell ty ∧ cell.vm ≠ .unknown ∧ cell.slots.size = mx_N σ a ∧ ∀ k, k < mx_N σ a → cell.slots[k]? = some (mx_tv ρ (mx_rd σ a ty k)) := by
  by_cases hg : a.1 < 2
  · have h1 := (h.1 a ha).2 hg
    simp only [hk] at h1
    have h1 : H[ρ a]? = some (arrV (D.2.2.1 ty) (mx_N σ a) (fun k => mx_tv ρ (mx_rd σ a ty k))) := h1
    refine ⟨arrV (D.2.2.1 ty) (mx_N σ a) (fun k => mx_tv ρ (mx_rd σ a ty k)), h1, (hSW.2.1 ty (mx_knd_ok hk)).1 _ _, ?_, arrV_size _ _ _, fun k hkn => arrV_read _ _ hkn⟩
    intro q
    cases q
  · obtain ⟨h1, h2, h3, h4⟩ := (h.1 a ha).1 (by omega)
    have hs : a.2.1 = 63 := by
      obtain ⟨g, t, i⟩ := a
      unfold mx_ok mx_C mx_rg at ha
      simp only at ha hg ⊢
      match g, hg with
      | 2, _ =>
        simp only at ha
        by_cases ht : t = 63
        · exact ht
        · rw [if_neg ht] at ha
          omega
      | n + 3, _ => simp only at ha; omega
    rw [hs, mx_knd_scr] at hk
    cases hk
    exact ⟨_, h1, hSW.2.2.2.2.2, h2, h3, fun k hkn => h4 k hkn⟩
theorem mx_aldS (Cx : mx_Cx p s m args meth c R D mid d) (hA : mx_At D z0 K0 Z0 nL ρ σ L st H locs cells slots ls) {ty : FieldType → Bool} {q : Nat} {o : mx_Rs} (hq : q = pc + 1) (h : mx_ald ty q L st σ = some o)
    (row : ∀ (t : FieldType) (a : Nat) (cell : Cell) (j : Int32) (v : Value) (rest : List Value), ty t = true → H[a]? = some cell → s.isArrayOf cell t → cell.vm ≠ .unknown → ¬ (j < 0 ∨ cell.slots.size ≤ j.toNatClampNeg) → cell.slots[j.toNatClampNeg]? = some v → W p l e R s m args below meth c H locs cells slots Q (F0 m (pc + 1) ls (v :: rest)) → W p l e R s m args below meth c H locs cells slots Q (F0 m pc ls (.int j :: .ref a :: rest)))
    (kk : ∀ st', o = .inl (q, L, st', σ) → mx_At D z0 K0 Z0 nL ρ σ L st' H locs cells slots ls → W p l e R s m args below meth c H locs cells slots Q (F0 m q ls (st'.map (mx_tv ρ)))) : W p l e R s m args below meth c H locs cells slots Q (F0 m pc ls (st.map (mx_tv ρ))) := by
  subst hq
  obtain ⟨i, a, r, t, rfl, hk, hty, hin, rfl⟩ := mx_ald_i h
  have ha : mx_ok σ a := hA.2.2.1.1 _ (List.mem_cons_of_mem _ List.mem_cons_self)
  obtain ⟨cell, c1, c2, c3, c4, c5⟩ := mx_arrc hA.1 Cx.2.2.2.2.2.1 ha hk
  have hlt : i.toNatClampNeg < mx_N σ a := Nat.not_le.mp fun q => hin (Or.inr q)
  exact row t (ρ a) cell i _ _ hty c1 c2 c3 (by rw [c4]; exact hin) (c5 _ hlt) (kk _ rfl (hA.stk (mx_mm2 (mx_rdk hA.1 ha t _))))
/-- a store into an array -/
theorem mx_astS (Cx : mx_Cx p s m args meth c R D mid d) (hA : mx_At D z0 K0 Z0 nL ρ σ L st H locs cells slots ls) {a : mx_Ad} {i : Int32} {ty : FieldType} {v : mx_V} {r : List mx_V} {σ' : mx_Hp} (ha : mx_ok σ a) (hg : a.1 < 2) (hk : mx_knd a.2.1 = .inr ty) (hin : ¬ (i < 0 ∨ mx_N σ a ≤ i.toNatClampNeg)) (hr : ∀ w ∈ r, w ∈ st)
    (w1 : ∀ g t, mx_C σ' g t = mx_C σ g t) (w2 : ∀ b, b ≠ a → ∀ k, mx_I σ' b k = mx_I σ b k) (w3 : ∀ b, b ≠ a → ∀ k, mx_J σ' b k = mx_J σ b k) (w4 : ∀ b, b ≠ a → ∀ k, mx_R σ' b k = mx_R σ b k) (w5 : ∀ b, mx_N σ' b = mx_N σ b) (w6 : ∀ k b, mx_R σ' a k = some b → mx_ok σ b) (w7 : mx_K σ' = mx_K σ) (w8 : mx_Z σ' = mx_Z σ) (w9 : mx_rd σ' a ty i.toNatClampNeg = v) (w10 : ∀ j, j ≠ i.toNatClampNeg → mx_rd σ' a ty j = mx_rd σ a ty j)
    (kk : ∀ H' locs', mx_At D z0 K0 Z0 nL ρ σ' L r H' locs' cells slots ls → mx_Ext ρ σ ρ σ' → W p l e R s m args below meth c H' locs' cells slots Q (F0 m (pc + 1) ls (r.map (mx_tv ρ)))) :
    ∀ H' : Heap, H'[ρ a]? = some ((arrV (D.2.2.1 ty) (mx_N σ a) (fun k => mx_tv ρ (mx_rd σ a ty k))).setSlot i.toNatClampNeg (mx_tv ρ v)) → H'.size = H.size → (∀ q, q ≠ ρ a → H'[q]? = H[q]?) → W p l e R s m args below meth c H' (locs ++ [⟨ρ a, i.toNatClampNeg⟩]) cells slots Q (F0 m (pc + 1) ls (r.map (mx_tv ρ))) := by
  intro H' e1 e2 e3
  have hE : mx_Ext ρ σ ρ σ' := fun b hb => ⟨by unfold mx_ok at hb ⊢; rw [w1]; exact hb, rfl⟩
  refine kk H' _ ⟨?_, hA.2.1, ?_, ?_, by rw [w7]; exact hA.2.2.2.2.1, by rw [w8]; exact hA.2.2.2.2.2.1, by rw [e2]; exact hA.2.2.2.2.2.2⟩ hE
  · refine hA.1.wr ha hg w1 w2 w3 w4 w5 ?_ w6 e3
    simp only [hk]
    show H'[ρ a]? = _
    rw [e1, arrV_store, w5]
    congr 2
    funext j
    unfold updV
    by_cases hj : j = i.toNatClampNeg
    · subst hj
      rw [if_pos rfl, w9]
    · rw [if_neg hj, w10 j hj]
  · exact ((hA.2.2.1.st (st' := r) (fun w hw => Or.inl (hr w hw))).mv hE).1
  · intro x hx2
    rcases List.mem_append.mp hx2 with h1 | h1
    · exact hA.2.2.2.1 x h1
    · rw [List.mem_singleton.mp h1]
      exact hA.1.2.2.2 _ ha hg
end MXS
end
section
section MXT
variable {p : Program} {l : Launch} {e : Env} {R : Room} {s : State} {m : MethodId} {args : Array Value} {below : List Frame} {meth : Method} {c : Code} {H : Heap} {locs : List Loc} {cells slots : Nat} {Q : State → Prop}
variable {pc : Nat} {ls : Array Slot} {D : mx_D} {z0 K0 Z0 mid d nL : Nat} {ρ : mx_Ad → Nat} {σ : mx_Hp} {L : mx_L} {st : List mx_V}
theorem mx_arrw (h : mx_Rep D z0 ρ σ H) {a : mx_Ad} (ha : mx_ok σ a) (hg : a.1 < 2) {ty : FieldType} (hk : mx_knd a.2.1 = .inr ty) : H[ρ a]? = some (arrV (D.2.2.1 ty) (mx_N σ a) (fun k => mx_tv ρ (mx_rd σ a ty k))) := by
  have h1 := (h.1 a ha).2 hg
  simp only [hk] at h1
  exact h1
theorem mx_iastS (Cx : mx_Cx p s m args meth c R D mid d) (hA : mx_At D z0 K0 Z0 nL ρ σ L st H locs cells slots ls) {o : mx_Rs} (hd : decode (mx_mb mid) pc = .ok (.iastore, 1)) (h : mx_iast (pc + 1) L st σ = some o)
    (kk : ∀ st' σ' H' locs', o = .inl (pc + 1, L, st', σ') → mx_At D z0 K0 Z0 nL ρ σ' L st' H' locs' cells slots ls → mx_Ext ρ σ ρ σ' → W p l e R s m args below meth c H' locs' cells slots Q (F0 m (pc + 1) ls (st'.map (mx_tv ρ)))) : W p l e R s m args below meth c H locs cells slots Q (F0 m pc ls (st.map (mx_tv ρ))) := by
  obtain ⟨hx, hb, -⟩ := id Cx
  obtain ⟨x, i, a, r, rfl, hk, hg, hin, rfl⟩ := mx_iast_i h
  have ha : mx_ok σ a := hA.2.2.1.1 _ (List.mem_cons_of_mem _ (List.mem_cons_of_mem _ List.mem_cons_self))
  obtain ⟨o1, o2, o3, o4, o5, o6⟩ := mx_sI_o (σ := σ) (k := i.toNatClampNeg) hg x
  have hc := mx_arrw hA.1 ha hg hk
  refine W.iast hx hb hc ((Cx.2.2.2.2.2.1.2.1 .int (mx_knd_ok hk)).1 _ _) (fun q => by cases q) (by rw [arrV_size]; exact hin) rfl rfl hd ?_
  refine mx_astS (v := .inl x) Cx hA ha hg hk hin (fun w hw => by simp [hw]) o3 (fun b hb2 j => by rw [mx_I_sI hg, if_neg (fun q => hb2 q.1)]) (fun b _ j => o1 b j) (fun b _ j => o2 b j) o4 (fun j b => by rw [o2]; exact hA.1.2.2.1 _ j b ha) o5 o6 (by simp only [mx_rd]; rw [mx_I_sI hg, if_pos ⟨rfl, rfl⟩]) (fun j hj => by simp only [mx_rd]; rw [mx_I_sI hg, if_neg (fun q => hj q.2)]) (fun H' locs' => kk r _ H' locs' rfl)
theorem mx_lastS (Cx : mx_Cx p s m args meth c R D mid d) (hA : mx_At D z0 K0 Z0 nL ρ σ L st H locs cells slots ls) {o : mx_Rs} (hd : decode (mx_mb mid) pc = .ok (.lastore, 1)) (h : mx_last (pc + 1) L st σ = some o)
    (kk : ∀ st' σ' H' locs', o = .inl (pc + 1, L, st', σ') → mx_At D z0 K0 Z0 nL ρ σ' L st' H' locs' cells slots ls → mx_Ext ρ σ ρ σ' → W p l e R s m args below meth c H' locs' cells slots Q (F0 m (pc + 1) ls (st'.map (mx_tv ρ)))) : W p l e R s m args below meth c H locs cells slots Q (F0 m pc ls (st.map (mx_tv ρ))) := by
  obtain ⟨hx, hb, -⟩ := id Cx
  obtain ⟨x, i, a, r, rfl, hk, hg, hin, rfl⟩ := mx_last_i h
  have ha : mx_ok σ a := hA.2.2.1.1 _ (List.mem_cons_of_mem _ (List.mem_cons_of_mem _ List.mem_cons_self))
  obtain ⟨o1, o2, o3, o4, o5, o6⟩ := mx_sJ_o (σ := σ) (k := i.toNatClampNeg) hg x
  have hc := mx_arrw hA.1 ha hg hk
  refine W.last hx hb hc ((Cx.2.2.2.2.2.1.2.1 .long (mx_knd_ok hk)).1 _ _) (fun q => by cases q) (by rw [arrV_size]; exact hin) rfl rfl hd ?_
  refine mx_astS (v := .inr (.inl x)) Cx hA ha hg hk hin (fun w hw => by simp [hw]) o3 (fun b _ j => o1 b j) (fun b hb2 j => by rw [mx_J_sJ hg, if_neg (fun q => hb2 q.1)]) (fun b _ j => o2 b j) o4 (fun j b => by rw [o2]; exact hA.1.2.2.1 _ j b ha) o5 o6 (by simp only [mx_rd]; rw [mx_J_sJ hg, if_pos ⟨rfl, rfl⟩]) (fun j hj => by simp only [mx_rd]; rw [mx_J_sJ hg, if_neg (fun q => hj q.2)]) (fun H' locs' => kk r _ H' locs' rfl)
theorem mx_bastS (Cx : mx_Cx p s m args meth c R D mid d) (hA : mx_At D z0 K0 Z0 nL ρ σ L st H locs cells slots ls) {o : mx_Rs} (hd : decode (mx_mb mid) pc = .ok (.bastore, 1)) (h : mx_bast (pc + 1) L st σ = some o)
    (kk : ∀ st' σ' H' locs', o = .inl (pc + 1, L, st', σ') → mx_At D z0 K0 Z0 nL ρ σ' L st' H' locs' cells slots ls → mx_Ext ρ σ ρ σ' → W p l e R s m args below meth c H' locs' cells slots Q (F0 m (pc + 1) ls (st'.map (mx_tv ρ)))) : W p l e R s m args below meth c H locs cells slots Q (F0 m pc ls (st.map (mx_tv ρ))) := by
  obtain ⟨hx, hb, -⟩ := id Cx
  obtain ⟨x, i, a, r, ty, rfl, hk, hty, hg, hin, rfl⟩ := mx_bast_i h
  have ha : mx_ok σ a := hA.2.2.1.1 _ (List.mem_cons_of_mem _ (List.mem_cons_of_mem _ List.mem_cons_self))
  obtain ⟨o1, o2, o3, o4, o5, o6⟩ := mx_sI_o (σ := σ) (k := i.toNatClampNeg) hg (vp_nar ty x)
  have hc := mx_arrw hA.1 ha hg hk
  have hrd : ∀ (τ : mx_Hp) (j : Nat), mx_rd τ a ty j = mx_i (mx_I τ a j) := fun τ j => by rcases hty with rfl | rfl <;> rfl
  have go := mx_astS (v := .inl (vp_nar ty x)) Cx hA ha hg hk hin (r := r) (pc := pc) (l := l) (e := e) (below := below) (Q := Q) (fun w hw => by simp [hw]) o3 (fun b hb2 j => by rw [mx_I_sI hg, if_neg (fun q => hb2 q.1)]) (fun b _ j => o1 b j) (fun b _ j => o2 b j) o4 (fun j b => by rw [o2]; exact hA.1.2.2.1 _ j b ha) o5 o6 (by rw [hrd, mx_I_sI hg, if_pos ⟨rfl, rfl⟩]) (fun j hj => by rw [hrd, hrd, mx_I_sI hg, if_neg (fun q => hj q.2)]) (fun H' locs' => kk r _ H' locs' rfl)
  rcases hty with rfl | rfl
  · exact W.bast hx hb hc ((Cx.2.2.2.2.2.1.2.1 .byte (mx_knd_ok hk)).1 _ _) (fun q => by cases q) (by rw [arrV_size]; exact hin) rfl rfl hd go
  · exact W.zast hx hb hc ((Cx.2.2.2.2.2.1.2.1 .boolean (mx_knd_ok hk)).1 _ _) (fun q => by cases q) (by rw [arrV_size]; exact hin) rfl rfl hd go
theorem mx_aastS (Cx : mx_Cx p s m args meth c R D mid d) (hA : mx_At D z0 K0 Z0 nL ρ σ L st H locs cells slots ls) {o : mx_Rs} (hd : decode (mx_mb mid) pc = .ok (.aastore, 1)) (h : mx_aast (pc + 1) L st σ = some o)
    (kk : ∀ st' σ' H' locs', o = .inl (pc + 1, L, st', σ') → mx_At D z0 K0 Z0 nL ρ σ' L st' H' locs' cells slots ls → mx_Ext ρ σ ρ σ' → W p l e R s m args below meth c H' locs' cells slots Q (F0 m (pc + 1) ls (st'.map (mx_tv ρ)))) : W p l e R s m args below meth c H locs cells slots Q (F0 m pc ls (st.map (mx_tv ρ))) := by
  obtain ⟨hx, hb, -⟩ := id Cx
  have hSW := Cx.2.2.2.2.2.1
  obtain ⟨b, i, a, r, C, ci, rfl, hk, hkb, hg, hgb, hin, hC, rfl⟩ := mx_aast_i h
  have ha : mx_ok σ a := hA.2.2.1.1 _ (List.mem_cons_of_mem _ (List.mem_cons_of_mem _ List.mem_cons_self))
  have hbk : mx_ok σ b := hA.2.2.1.1 _ List.mem_cons_self
  obtain ⟨o1, o2, o3, o4, o5, o6⟩ := mx_sR_o (σ := σ) (k := i.toNatClampNeg) hg (some b)
  have hc := mx_arrw hA.1 ha hg hk
  have hbc := (hA.1.1 b hbk).2 hgb
  simp only [hkb] at hbc
  obtain ⟨q, hq, cellV, g1, g2, g3, -⟩ := hbc
  have hqC : q.1 = C := by
    rw [hq] at hC
    exact Option.some.inj hC
  subst hqC
  have hcls := (hSW.1.1 ci q hq).2
  obtain ⟨kA, comp, k1, k2, k3, -⟩ := (hSW.2.1 _ (mx_knd_ok hk)).2
  have hcomp : comp = D.1 ci := Option.some.inj (k3.symm.trans hcls.1)
  subst hcomp
  obtain ⟨kC, hkC, -⟩ := hcls.2
  have h0 : ¬ i < 0 := fun q => hin (Or.inl q)
  have hlt : i.toNatClampNeg < mx_N σ a := Nat.not_le.mp fun q => hin (Or.inr q)
  refine W.aast hx hb hc (fun q h => by cases h) (fun h => by cases h) k1 k2 rfl hkC ⟨h0, by rw [arrV_size]; exact hlt⟩ g1 (fun q h => by rw [g3] at h; cases h) (by rw [g2]; exact hkC) (by rw [g2]; exact va_assign hcls) rfl rfl hd ?_
  refine mx_astS (v := .inr (.inr (some b))) Cx hA ha hg hk hin (fun w hw => by simp [hw]) o3 (fun b2 _ j => o1 b2 j) (fun b2 _ j => o2 b2 j) (fun b2 hb2 j => by rw [mx_R_sR hg, if_neg (fun q => hb2 q.1)]) o4 (fun j b2 => ?_) o5 o6 (by simp only [mx_rd]; rw [mx_R_sR hg, if_pos ⟨rfl, rfl⟩]) (fun j hj => by simp only [mx_rd]; rw [mx_R_sR hg, if_neg (fun q => hj q.2)]) (fun H' locs' => kk r _ H' locs' rfl)
  rw [mx_R_sR hg]
  split
  · intro hx2
    cases hx2
    exact hbk
  · exact hA.1.2.2.1 _ j b2 ha
/-- new -/
theorem mx_nwS (Cx : mx_Cx p s m args meth c R D mid d) (hA : mx_At D z0 K0 Z0 nL ρ σ L st H locs cells slots ls) {idx : Nat} {o : mx_Rs} (hd : decode (mx_mb mid) pc = .ok (.new idx, 3)) (h : mx_nw mid idx (pc + 3) L st σ = some o)
    (hKe : ∀ st' σ', o = .inl (pc + 3, L, st', σ') → mx_K σ' ≤ R.cells + K0 ∧ mx_Z σ' ≤ R.slots + Z0)
    (kk : ∀ ρ' st' σ' H' cells' slots', o = .inl (pc + 3, L, st', σ') → mx_At D z0 K0 Z0 nL ρ' σ' L st' H' locs cells' slots' ls → mx_Ext ρ σ ρ' σ' → W p l e R s m args below meth c H' locs cells' slots' Q (F0 m (pc + 3) ls (st'.map (mx_tv ρ')))) : W p l e R s m args below meth c H locs cells slots Q (F0 m pc ls (st.map (mx_tv ρ))) := by
  obtain ⟨hx, hb, hml, hown, hts, hSW, -⟩ := id Cx
  obtain ⟨ci, hci, hg, rfl⟩ := mx_nw_i h
  obtain ⟨q, hq, hw1, hw2, hw3⟩ := mx_new_ok hci
  obtain ⟨hin, hnm, hty, hrest, hcn, hknd, hfn⟩ := mx_cls_ok hq
  obtain ⟨o1, o2, o3, o4, o5, o6, o7⟩ := mx_al_o (σ := σ) (t := ci) (n := 0) (z := mx_fn ci) hg
  obtain ⟨hKe, hZe⟩ := hKe _ _ rfl
  have hKn := hSW.1.1 ci q hq
  have hK := hA.2.2.2.2.1
  have hZ := hA.2.2.2.2.2.1
  have hz := hA.2.2.2.2.2.2
  refine W.newcK (n := q.2.2) hx hb hown (hts _ hw1) (hts _ hw2) (hts _ hw3) rfl hd (by omega) (by omega) hKn.2.1 rfl fun H1 kC hkC e1 z1 q1 => ?_
  have hcell : match mx_knd ci with
      | .inl cj => mx_cellO D (mx_ext ρ (mx_crg ci, ci, mx_C σ (mx_crg ci) ci) H.size) (mx_al σ (mx_crg ci) ci 0 (mx_fn ci)) H1 (mx_crg ci, ci, mx_C σ (mx_crg ci) ci) cj
      | .inr ty => mx_cellA D (mx_ext ρ (mx_crg ci, ci, mx_C σ (mx_crg ci) ci) H.size) (mx_al σ (mx_crg ci) ci 0 (mx_fn ci)) H1 (mx_crg ci, ci, mx_C σ (mx_crg ci) ci) ty := by
    simp only [hknd]
    refine ⟨q, hq, ?_⟩
    have hb0 := u_born (mx_fty ci) hts hin hKn hkC e1 hty
    have e0 : mx_ext ρ (mx_crg ci, ci, mx_C σ (mx_crg ci) ci) H.size (mx_crg ci, ci, mx_C σ (mx_crg ci) ci) = H.size := if_pos rfl
    rw [e0]
    refine hb0.to (fun k hk => ?_)
    have hgt := (hrest k hk).2.2
    cases hft : mx_fty ci k <;> (rw [hft] at hgt; simp only [mx_rd, o1, o2, o3, if_true, defaultValue]; first | rfl | (exact absurd hgt (by decide)))
  obtain ⟨hR, hE, hnew⟩ := hA.1.al (n := 0) (z := mx_fn ci) hg hA.2.2.2.2.2.2 hcell q1
  have hst := hA.2.2.1.mv hE
  have go := kk _ _ _ H1 (cells + 1) (slots + q.2.2) rfl ⟨hR, hA.2.1.mv hA.2.2.1 hE, hst.1.st (mx_m0 hnew), hA.2.2.2.1, by omega, by omega, by omega⟩ hE
  rw [List.map_cons, hst.2] at go
  have e0 : mx_tv (mx_ext ρ (mx_crg ci, ci, mx_C σ (mx_crg ci) ci) H.size) (mx_r (some (mx_crg ci, ci, mx_C σ (mx_crg ci) ci))) = .ref H.size := congrArg Value.ref (if_pos rfl)
  rw [e0] at go
  exact go
/-- the cell of a new array -/
theorem mx_naC (hSW : mx_SW D s) (hA : mx_At D z0 K0 Z0 nL ρ σ L st H locs cells slots ls) {g t n : Nat} {ty : FieldType} (hg : g < 2) (hk : mx_knd t = .inr ty) {H1 : Heap} {cA : ClassId} (hcA : cA = D.2.2.1 ty) (hgt : mx_gty ty = true) (e1 : H1[H.size]? = some (arrV cA n (fun _ => defaultValue ty))) (z1 : H1.size = H.size + 1) (q1 : ∀ q, q < H.size → H1[q]? = H[q]?) {r : List mx_V} (hr : ∀ w ∈ r, w ∈ st) :
    ∃ ρ', mx_At D z0 K0 Z0 nL ρ' (mx_al σ g t n n) L (mx_r (some (g, t, mx_C σ g t)) :: r) H1 locs (cells + 1) (slots + n) ls ∧ mx_Ext ρ σ ρ' (mx_al σ g t n n) ∧ (mx_r (some (g, t, mx_C σ g t)) :: r).map (mx_tv ρ') = .ref H.size :: r.map (mx_tv ρ) := by
  subst hcA
  obtain ⟨o1, o2, o3, o4, o5, o6, o7⟩ := mx_al_o (σ := σ) (t := t) (n := n) (z := n) hg
  have hcell : match mx_knd t with
      | .inl cj => mx_cellO D (mx_ext ρ (g, t, mx_C σ g t) H.size) (mx_al σ g t n n) H1 (g, t, mx_C σ g t) cj
      | .inr ty => mx_cellA D (mx_ext ρ (g, t, mx_C σ g t) H.size) (mx_al σ g t n n) H1 (g, t, mx_C σ g t) ty := by
    simp only [hk]
    show H1[mx_ext ρ (g, t, mx_C σ g t) H.size (g, t, mx_C σ g t)]? = _
    have e0 : mx_ext ρ (g, t, mx_C σ g t) H.size (g, t, mx_C σ g t) = H.size := if_pos rfl
    rw [e0, e1, o5, if_pos rfl]
    congr 2
    funext k
    cases ty <;> (simp only [mx_rd, o1, o2, o3, if_true, defaultValue]; first | rfl | (exact absurd hgt (by decide)))
  obtain ⟨hR, hE, hnew⟩ := hA.1.al (n := n) (z := n) hg hA.2.2.2.2.2.2 hcell q1
  have hF := hA.2.2.1.st (st' := r) (fun w hw => Or.inl (hr w hw))
  have hst := hF.mv hE
  have hK := hA.2.2.2.2.1
  have hZ := hA.2.2.2.2.2.1
  have hz := hA.2.2.2.2.2.2
  refine ⟨_, ⟨hR, hA.2.1.mv hA.2.2.1 hE, hst.1.st (mx_m0 hnew), hA.2.2.2.1, by omega, by omega, by omega⟩, hE, ?_⟩
  rw [List.map_cons, hst.2]
  exact congrArg (· :: r.map (mx_tv ρ)) (congrArg Value.ref (if_pos rfl))
theorem mx_naS (Cx : mx_Cx p s m args meth c R D mid d) (hA : mx_At D z0 K0 Z0 nL ρ σ L st H locs cells slots ls) {at_ : Jvm.ClassFile.ArrayType} {o : mx_Rs} (hd : decode (mx_mb mid) pc = .ok (.newarray at_, 2)) (h : mx_na mid pc (newarray.typeOf at_) (pc + 2) L st σ = some o)
    (hKe : ∀ st' σ', o = .inl (pc + 2, L, st', σ') → mx_K σ' ≤ R.cells + K0 ∧ mx_Z σ' ≤ R.slots + Z0)
    (kk : ∀ ρ' st' σ' H' cells' slots', o = .inl (pc + 2, L, st', σ') → mx_At D z0 K0 Z0 nL ρ' σ' L st' H' locs cells' slots' ls → mx_Ext ρ σ ρ' σ' → W p l e R s m args below meth c H' locs cells' slots' Q (F0 m (pc + 2) ls (st'.map (mx_tv ρ')))) : W p l e R s m args below meth c H locs cells slots Q (F0 m pc ls (st.map (mx_tv ρ))) := by
  obtain ⟨hx, hb, hml, hown, hts, hSW, -⟩ := id Cx
  obtain ⟨g, t, n, r, rfl, hg, hk, hn, hle, rfl⟩ := mx_na_i h
  obtain ⟨hKe, hZe⟩ := hKe _ _ rfl
  obtain ⟨o1, o2, o3, o4, o5, o6, o7⟩ := mx_al_o (σ := σ) (t := t) (n := n.toNatClampNeg) (z := n.toNatClampNeg) hg
  have hK := hA.2.2.2.2.1
  have hZ := hA.2.2.2.2.2.1
  have hty := mx_knd_ok hk
  have hcb : componentBytes (newarray.typeOf at_) ≤ 8 := by cases at_ <;> decide
  refine va_newaK hx hb (hts _ (mx_aty_ok hty)) rfl hd rfl hn rfl (Nat.le_trans (Nat.mul_le_mul hle hcb) (by decide)) (by omega) (by omega) rfl fun H1 cA e1 z1 q1 hAr hNm => ?_
  have hcA : cA = D.2.2.1 (newarray.typeOf at_) := by
    have h2 := (hSW.2.1 _ hty).2
    have h3 : s.vm.findClass ("[" ++ (newarray.typeOf at_).toString) = some (D.2.2.1 (newarray.typeOf at_)) := by
      cases at_ <;> exact h2
    exact Option.some.inj (hNm.symm.trans h3)
  obtain ⟨ρ', a1, a2, a3⟩ := mx_naC hSW hA hg hk hcA (mx_gty_ok hty) e1 z1 q1 (r := r) (fun w hw => List.mem_cons_of_mem _ hw)
  have go := kk ρ' _ _ H1 _ _ rfl a1 a2
  rw [a3] at go
  exact go
theorem mx_nqS (Cx : mx_Cx p s m args meth c R D mid d) (hA : mx_At D z0 K0 Z0 nL ρ σ L st H locs cells slots ls) {idx : Nat} {C : String} (hC : mx_anw (mx_mc mid) idx = some C) {o : mx_Rs} (hd : decode (mx_mb mid) pc = .ok (.anewarray idx, 3)) (h : mx_na mid pc (.object C) (pc + 3) L st σ = some o)
    (hKe : ∀ st' σ', o = .inl (pc + 3, L, st', σ') → mx_K σ' ≤ R.cells + K0 ∧ mx_Z σ' ≤ R.slots + Z0)
    (kk : ∀ ρ' st' σ' H' cells' slots', o = .inl (pc + 3, L, st', σ') → mx_At D z0 K0 Z0 nL ρ' σ' L st' H' locs cells' slots' ls → mx_Ext ρ σ ρ' σ' → W p l e R s m args below meth c H' locs cells' slots' Q (F0 m (pc + 3) ls (st'.map (mx_tv ρ')))) : W p l e R s m args below meth c H locs cells slots Q (F0 m pc ls (st.map (mx_tv ρ))) := by
  obtain ⟨hx, hb, hml, hown, hts, hSW, -⟩ := id Cx
  obtain ⟨g, t, n, r, rfl, hg, hk, hn, hle, rfl⟩ := mx_na_i h
  obtain ⟨hKe, hZe⟩ := hKe _ _ rfl
  obtain ⟨o1, o2, o3, o4, o5, o6, o7⟩ := mx_al_o (σ := σ) (t := t) (n := n.toNatClampNeg) (z := n.toNatClampNeg) hg
  have hK := hA.2.2.2.2.1
  have hZ := hA.2.2.2.2.2.1
  have hty := mx_knd_ok hk
  obtain ⟨hw1, hao⟩ := mx_anw_ok hC
  refine W.anew hx hb hown (hts _ hw1) (va_AO.use (hSW.2.2.2.2.1 C hao)) rfl hd rfl hn (by omega) (by omega) (by omega) fun cA kA comp f1 f2 f3 f4 => ?_
  generalize hH1 : H.push ({ cls := cA, slots := Array.replicate n.toNatClampNeg .null, vm := .none } : Cell) = H1
  have z1 : H1.size = H.size + 1 := by rw [← hH1, Array.size_push]
  have e1 : H1[H.size]? = some (arrV cA n.toNatClampNeg (fun _ => defaultValue (.object C))) := by rw [← hH1, Array.getElem?_push_size, ← arrV_new]; rfl
  have q1 : ∀ q : Nat, q < H.size → H1[q]? = H[q]? := fun q hq => by rw [← hH1, Array.getElem?_push, if_neg (Nat.ne_of_lt hq)]
  have hcA : cA = D.2.2.1 (.object C) := by
    obtain ⟨kA2, comp2, k1, k2, k3, k4⟩ := (hSW.2.1 _ hty).2
    exact Option.some.inj (f1.symm.trans k4)
  obtain ⟨ρ', a1, a2, a3⟩ := mx_naC hSW hA hg hk hcA rfl e1 z1 q1 (r := r) (fun w hw => List.mem_cons_of_mem _ hw)
  have go := kk ρ' _ _ H1 _ _ rfl a1 a2
  rw [a3] at go
  exact go
end MXT
end
section
set_option maxHeartbeats 4000000 in
theorem mx_stp {p : Program} {l : Launch} {e : Env} {R : Room} {s : State} {m : MethodId} {args : Array Value} {below : List Frame} {meth : Method} {c : Code} {H : Heap} {locs : List Loc} {cells slots : Nat} {Q : State → Prop} {pc : Nat} {ls : Array Slot} {D : mx_D} {z0 K0 Z0 mid d : Nat} {ρ : mx_Ad → Nat} {σ : mx_Hp} {L : mx_L} {st : List mx_V} {i : Jvm.ClassFile.Instr} {pc' : Nat} {L' : mx_L} {st' : List mx_V} {σ' : mx_Hp}
    (Cx : mx_Cx p s m args meth c R D mid d) (hi : mx_code mid pc = some i) (he : mx_exec mid pc i L st σ = some (.inl (pc', L', st', σ')))
    (hA : mx_At D z0 K0 Z0 (mx_mL mid) ρ σ L st H locs cells slots ls) (hKe : mx_K σ' ≤ R.cells + K0) (hZe : mx_Z σ' ≤ R.slots + Z0)
    (kk : ∀ (ρ' : mx_Ad → Nat) (ls' : Array Slot) (H' : Heap) (locs' : List Loc) (cells' slots' : Nat), mx_At D z0 K0 Z0 (mx_mL mid) ρ' σ' L' st' H' locs' cells' slots' ls' → mx_Ext ρ σ ρ' σ' → W p l e R s m args below meth c H' locs' cells' slots' Q (F0 m pc' ls' (st'.map (mx_tv ρ')))) :
    W p l e R s m args below meth c H locs cells slots Q (F0 m pc ls (st.map (mx_tv ρ))) := by
  obtain ⟨hx, hb, hml, hown, hts, hSW, -, hfr, hlo⟩ := id Cx
  obtain ⟨len, hd, hlen⟩ := mx_dec hi
  have hd1 : mx_isw i = false → decode (mx_mb mid) pc = .ok (i, mx_ilen i) := fun h => by
    rcases hlen with h2 | h2
    · rw [h] at h2
      cases h2
    · rw [← h2]
      exact hd
  have kp : σ' = σ → L' = L → (∀ v ∈ st', v ∈ st ∨ mx_vk σ v) → W p l e R s m args below meth c H locs cells slots Q (F0 m pc' ls (st'.map (mx_tv ρ))) := by
    intro e1 e2 h
    subst e1
    subst e2
    exact kk ρ ls H locs cells slots (hA.stk h) mx_Ext.rf
  cases i with
  | iconst n => cases he; exact lv_iconst hx hb (hd1 rfl) rfl (kp rfl rfl (mx_m0 trivial))
  | bipush n => cases he; exact lv_bipush hx hb (hd1 rfl) rfl (kp rfl rfl (mx_m0 trivial))
  | sipush n => cases he; exact lv_sipush hx hb (hd1 rfl) rfl (kp rfl rfl (mx_m0 trivial))
  | lconst n => cases he; exact lv_lconst hx hb (hd1 rfl) rfl (kp rfl rfl (mx_m0 trivial))
  | ldc idx =>
    obtain ⟨v, hv, ho⟩ := mx_ldcc_i he
    cases ho
    exact lv_ldc hx hb hown (hts _ (mx_ic_ok hv)) (hd1 rfl) (kp rfl rfl (mx_m0 trivial))
  | ldc2_w idx =>
    obtain ⟨v, hv, ho⟩ := mx_ldlc_i he
    cases ho
    exact lv_ldc2 hx hb hown (hts _ (mx_lc_ok hv)) (hd1 rfl) (kp rfl rfl (mx_m0 trivial))
  | iload_n k =>
    obtain ⟨x, hl, ho⟩ := mx_ildc_i he
    cases ho
    exact lv_iload_n hx hb (hd1 rfl) rfl (mx_ldk hA hl rfl).1 (kp rfl rfl (mx_m0 trivial))
  | iload k =>
    obtain ⟨x, hl, ho⟩ := mx_ildc_i he
    cases ho
    exact lv_iload hx hb (hd1 rfl) (mx_ldk hA hl rfl).1 (kp rfl rfl (mx_m0 trivial))
  | lload_n k =>
    obtain ⟨x, hl, hb9, ho⟩ := mx_lldc_i he
    cases ho
    exact lv_lload_n hx hb (hd1 rfl) rfl (mx_ldk hA hl hb9).1 (kp rfl rfl (mx_m0 trivial))
  | lload k =>
    obtain ⟨x, hl, hb9, ho⟩ := mx_lldc_i he
    cases ho
    exact lv_lload hx hb (hd1 rfl) (mx_ldk hA hl hb9).1 (kp rfl rfl (mx_m0 trivial))
  | aload_n k =>
    obtain ⟨x, hl, ho⟩ := mx_aldc_i he
    cases ho
    have hv := hA.2.2.1.2 _ _ hl
    cases x with
    | none => exact lv_aload_nN hx hb (hd1 rfl) rfl (mx_ldk hA hl rfl).1 (kp rfl rfl (mx_m0 hv))
    | some a => exact lv_aload_n hx hb (hd1 rfl) rfl (mx_ldk hA hl rfl).1 (kp rfl rfl (mx_m0 hv))
  | aload k =>
    obtain ⟨x, hl, ho⟩ := mx_aldc_i he
    cases ho
    have hv := hA.2.2.1.2 _ _ hl
    cases x with
    | none => exact lv_aloadN hx hb (hd1 rfl) (mx_ldk hA hl rfl).1 (kp rfl rfl (mx_m0 hv))
    | some a => exact lv_aload hx hb (hd1 rfl) (mx_ldk hA hl rfl).1 (kp rfl rfl (mx_m0 hv))
  | istore_n k =>
    obtain ⟨x, r, rfl, hn, ho⟩ := mx_istc_i he
    cases ho
    exact lv_istore_n hx hb (hd1 rfl) rfl hA.2.1.has hn rfl (fun ls' hl' => kk ρ ls' H locs cells slots (mx_store1 hA hl') mx_Ext.rf)
  | istore k =>
    obtain ⟨x, r, rfl, hn, ho⟩ := mx_istc_i he
    cases ho
    exact lv_istore hx hb (hd1 rfl) hA.2.1.has hn rfl (fun ls' hl' => kk ρ ls' H locs cells slots (mx_store1 hA hl') mx_Ext.rf)
  | lstore_n k =>
    obtain ⟨x, r, rfl, hn, ho⟩ := mx_lstc_i he
    cases ho
    exact lv_lstore_n hx hb (hd1 rfl) rfl hA.2.1.has hn rfl (fun ls' hl' => kk ρ ls' H locs cells slots (mx_store2 hA hl') mx_Ext.rf)
  | lstore k =>
    obtain ⟨x, r, rfl, hn, ho⟩ := mx_lstc_i he
    cases ho
    exact lv_lstore hx hb (hd1 rfl) hA.2.1.has hn rfl (fun ls' hl' => kk ρ ls' H locs cells slots (mx_store2 hA hl') mx_Ext.rf)
  | astore_n k =>
    obtain ⟨x, r, rfl, hn, ho⟩ := mx_astc_i he
    cases ho
    cases x with
    | none => exact lv_astore_nN hx hb (hd1 rfl) rfl hA.2.1.has hn rfl (fun ls' hl' => kk ρ ls' H locs cells slots (mx_store1 hA hl') mx_Ext.rf)
    | some a => exact lv_astore_n hx hb (hd1 rfl) rfl hA.2.1.has hn rfl (fun ls' hl' => kk ρ ls' H locs cells slots (mx_store1 hA hl') mx_Ext.rf)
  | astore k =>
    obtain ⟨x, r, rfl, hn, ho⟩ := mx_astc_i he
    cases ho
    cases x with
    | none => exact lv_astoreN hx hb (hd1 rfl) hA.2.1.has hn rfl (fun ls' hl' => kk ρ ls' H locs cells slots (mx_store1 hA hl') mx_Ext.rf)
    | some a => exact lv_astore hx hb (hd1 rfl) hA.2.1.has hn rfl (fun ls' hl' => kk ρ ls' H locs cells slots (mx_store1 hA hl') mx_Ext.rf)
  | iinc k n =>
    obtain ⟨x, hl, hn, ho⟩ := mx_iincc_i he
    cases ho
    obtain ⟨j, hj⟩ := List.getElem?_of_mem (mx_lv_mem (q := (k, mx_tv ρ (.inl x))).mpr ⟨_, hl, rfl, rfl⟩)
    exact lv_iinc hx hb (hd1 rfl) hA.2.1.has (k := j) hj rfl hn rfl (fun ls' hl' => kk ρ ls' H locs cells slots (mx_store1 (x := .inl (x + Int32.ofInt n)) (hA.stk (mx_m0 trivial)) hl') mx_Ext.rf)
  | iadd =>
    obtain ⟨x, y, r, rfl, ho⟩ := mx_b2_i he
    cases ho
    exact lv_iadd hx hb (hd1 rfl) (kp rfl rfl (mx_mm2 trivial))
  | isub =>
    obtain ⟨x, y, r, rfl, ho⟩ := mx_b2_i he
    cases ho
    exact lv_isub hx hb (hd1 rfl) (kp rfl rfl (mx_mm2 trivial))
  | imul =>
    obtain ⟨x, y, r, rfl, ho⟩ := mx_b2_i he
    cases ho
    exact lv_imul hx hb (hd1 rfl) (kp rfl rfl (mx_mm2 trivial))
  | iand =>
    obtain ⟨x, y, r, rfl, ho⟩ := mx_b2_i he
    cases ho
    exact lv_iand hx hb (hd1 rfl) (kp rfl rfl (mx_mm2 trivial))
  | ior =>
    obtain ⟨x, y, r, rfl, ho⟩ := mx_b2_i he
    cases ho
    exact lv_ior hx hb (hd1 rfl) (kp rfl rfl (mx_mm2 trivial))
  | ixor =>
    obtain ⟨x, y, r, rfl, ho⟩ := mx_b2_i he
    cases ho
    exact lv_ixor hx hb (hd1 rfl) (kp rfl rfl (mx_mm2 trivial))
  | ishl =>
    obtain ⟨x, y, r, rfl, ho⟩ := mx_b2_i he
    cases ho
    exact lv_ishl hx hb (hd1 rfl) (kp rfl rfl (mx_mm2 trivial))
  | ishr =>
    obtain ⟨x, y, r, rfl, ho⟩ := mx_b2_i he
    cases ho
    exact lv_ishr hx hb (hd1 rfl) (kp rfl rfl (mx_mm2 trivial))
  | iushr =>
    obtain ⟨x, y, r, rfl, ho⟩ := mx_b2_i he
    cases ho
    exact lv_iushr hx hb (hd1 rfl) rfl (kp rfl rfl (mx_mm2 trivial))
  | idiv =>
    obtain ⟨x, y, r, rfl, hne, ho⟩ := mx_d2_i he
    cases ho
    exact lv_idiv hx hb (hd1 rfl) hne (kp rfl rfl (mx_mm2 trivial))
  | irem =>
    obtain ⟨x, y, r, rfl, hne, ho⟩ := mx_d2_i he
    cases ho
    exact lv_irem hx hb (hd1 rfl) hne (kp rfl rfl (mx_mm2 trivial))
  | ladd =>
    obtain ⟨x, y, r, rfl, ho⟩ := mx_m2_i he
    cases ho
    exact lv_ladd hx hb (hd1 rfl) (kp rfl rfl (mx_mm2 trivial))
  | lsub =>
    obtain ⟨x, y, r, rfl, ho⟩ := mx_m2_i he
    cases ho
    exact lv_lsub hx hb (hd1 rfl) (kp rfl rfl (mx_mm2 trivial))
  | land =>
    obtain ⟨x, y, r, rfl, ho⟩ := mx_m2_i he
    cases ho
    exact lv_land hx hb (hd1 rfl) (kp rfl rfl (mx_mm2 trivial))
  | lor =>
    obtain ⟨x, y, r, rfl, ho⟩ := mx_m2_i he
    cases ho
    exact lv_lor hx hb (hd1 rfl) (kp rfl rfl (mx_mm2 trivial))
  | lxor =>
    obtain ⟨x, y, r, rfl, ho⟩ := mx_m2_i he
    cases ho
    exact lv_lxor hx hb (hd1 rfl) (kp rfl rfl (mx_mm2 trivial))
  | lushr =>
    obtain ⟨x, y, r, rfl, ho⟩ := mx_s2_i he
    cases ho
    exact lv_lushr hx hb (hd1 rfl) rfl (kp rfl rfl (mx_mm2 trivial))
  | lshl =>
    obtain ⟨x, y, r, rfl, ho⟩ := mx_s2_i he
    cases ho
    exact lv_lshl hx hb (hd1 rfl) rfl (kp rfl rfl (mx_mm2 trivial))
  | lshr =>
    obtain ⟨x, y, r, rfl, ho⟩ := mx_s2_i he
    cases ho
    exact lv_lshr hx hb (hd1 rfl) rfl (kp rfl rfl (mx_mm2 trivial))
  | ineg =>
    obtain ⟨x, r, rfl, ho⟩ := mx_b1_i he
    cases ho
    exact lv_ineg hx hb (hd1 rfl) (kp rfl rfl (mx_mm1 trivial))
  | i2l =>
    obtain ⟨x, r, rfl, ho⟩ := mx_b1_i he
    cases ho
    exact lv_i2l hx hb (hd1 rfl) rfl (kp rfl rfl (mx_mm1 trivial))
  | i2b =>
    obtain ⟨x, r, rfl, ho⟩ := mx_b1_i he
    cases ho
    exact lv_i2b hx hb (hd1 rfl) rfl (kp rfl rfl (mx_mm1 trivial))
  | l2i =>
    obtain ⟨x, r, rfl, ho⟩ := mx_m1_i he
    cases ho
    exact lv_l2i hx hb (hd1 rfl) rfl (kp rfl rfl (mx_mm1 trivial))
  | lcmp =>
    obtain ⟨x, y, r, rfl, ho⟩ := mx_lcmpc_i he
    cases ho
    exact W.lcmp hx hb (hd1 rfl) (kp rfl rfl (mx_mm2 trivial))
  | dup =>
    obtain ⟨v, r, rfl, hw, ho⟩ := mx_dup_i he
    cases ho
    exact lv_dup hx hb (hd1 rfl) ((mx_tv_cat ρ v).trans hw) (kp rfl rfl (mx_m0 (hA.2.2.1.1 _ List.mem_cons_self)))
  | pop =>
    obtain ⟨v, r, rfl, hw, ho⟩ := mx_popc_i he
    cases ho
    exact lv_pop hx hb (hd1 rfl) ((mx_tv_cat ρ v).trans hw) (kp rfl rfl mx_p1)
  | goto off =>
    obtain ⟨q, hq, ho⟩ := mx_br_i he
    cases ho
    exact lv_goto hx hb (hd1 rfl) hq (kp rfl rfl (fun _ h => Or.inl h))
  | ifCond cd off =>
    obtain ⟨x, r, q, rfl, hq, ho⟩ := mx_ifcc_i he
    cases ho
    exact mx_ifc hx hb (hd1 rfl) hq (kp rfl rfl mx_p1)
  | if_icmp cd off =>
    obtain ⟨x, y, r, q, rfl, hq, ho⟩ := mx_icmc_i he
    cases ho
    exact mx_icc hx hb (hd1 rfl) hq (kp rfl rfl mx_p2)
  | tableswitch dflt lo hi offs =>
    obtain ⟨x, r, off, q, rfl, hsw, hq, ho⟩ := mx_tswc_i he
    cases ho
    unfold mx_tsw at hsw
    split at hsw
    · rename_i hc
      cases hsw
      exact lv_tableOut hx hb hd hc hq (kp rfl rfl mx_p1)
    · rename_i hc
      exact lv_tableIn hx hb hd (fun h => hc (Or.inl h)) (fun h => hc (Or.inr h)) hsw hq (kp rfl rfl mx_p1)
  | lookupswitch dflt ps =>
    obtain ⟨x, r, q, rfl, hp, hq, ho⟩ := mx_lswc_i he
    cases ho
    exact lv_lookup hx hb hd hp rfl hq (kp rfl rfl mx_p1)
  | iaload =>
    refine mx_aldS Cx hA rfl he (fun t a cell j v rest ht h1 h2 h3 h4 h5 k => ?_) (fun st2 ho h2 => ?_)
    · cases t <;> first | (cases ht; done) | exact W.iald hx hb h1 h2 h3 h4 h5 rfl rfl (hd1 rfl) k
    · cases ho
      exact kk ρ ls H locs cells slots h2 mx_Ext.rf
  | baload =>
    refine mx_aldS Cx hA rfl he (fun t a cell j v rest ht h1 h2 h3 h4 h5 k => ?_) (fun st2 ho h2 => ?_)
    · cases t <;> first | (cases ht; done) | exact W.bald hx hb h1 h2 h3 h4 h5 rfl rfl (hd1 rfl) k | exact W.zald hx hb h1 h2 h3 h4 h5 rfl rfl (hd1 rfl) k
    · cases ho
      exact kk ρ ls H locs cells slots h2 mx_Ext.rf
  | laload =>
    refine mx_aldS Cx hA rfl he (fun t a cell j v rest ht h1 h2 h3 h4 h5 k => ?_) (fun st2 ho h2 => ?_)
    · cases t <;> first | (cases ht; done) | exact W.lald hx hb h1 h2 h3 h4 h5 rfl rfl (hd1 rfl) k
    · cases ho
      exact kk ρ ls H locs cells slots h2 mx_Ext.rf
  | aaload =>
    refine mx_aldS Cx hA rfl he (fun t a cell j v rest ht h1 h2 h3 h4 h5 k => ?_) (fun st2 ho h2 => ?_)
    · cases t <;> first | (cases ht; done) | exact W.aald hx hb h1 h2 rfl h3 h4 h5 rfl rfl (hd1 rfl) k
    · cases ho
      exact kk ρ ls H locs cells slots h2 mx_Ext.rf
  | iastore =>
    refine mx_iastS Cx hA (hd1 rfl) he (fun st2 σ2 H2 locs2 ho h2 hE => ?_)
    cases ho
    exact kk ρ ls H2 locs2 cells slots h2 hE
  | bastore =>
    refine mx_bastS Cx hA (hd1 rfl) he (fun st2 σ2 H2 locs2 ho h2 hE => ?_)
    cases ho
    exact kk ρ ls H2 locs2 cells slots h2 hE
  | lastore =>
    refine mx_lastS Cx hA (hd1 rfl) he (fun st2 σ2 H2 locs2 ho h2 hE => ?_)
    cases ho
    exact kk ρ ls H2 locs2 cells slots h2 hE
  | aastore =>
    refine mx_aastS Cx hA (hd1 rfl) he (fun st2 σ2 H2 locs2 ho h2 hE => ?_)
    cases ho
    exact kk ρ ls H2 locs2 cells slots h2 hE
  | arraylength =>
    obtain ⟨a, r, t, rfl, hk, ho⟩ := mx_len_i he
    cases ho
    have ha : mx_ok σ a := hA.2.2.1.1 _ List.mem_cons_self
    obtain ⟨cell, c1, c2, c3, c4, c5⟩ := mx_arrc hA.1 hSW ha hk
    exact W.alen hx hb c1 c2 (by rw [c4]) rfl rfl (hd1 rfl) (kp rfl rfl (mx_mm1 trivial))
  | getfield idx =>
    refine mx_getS Cx hA rfl (hd1 rfl) he (fun st2 ho h2 => ?_)
    cases ho
    exact kk ρ ls H locs cells slots h2 mx_Ext.rf
  | putfield idx =>
    refine mx_ptS Cx hA rfl (hd1 rfl) he (fun st2 σ2 H2 locs2 ho h2 hE => ?_)
    cases ho
    exact kk ρ ls H2 locs2 cells slots h2 hE
  | new idx =>
    refine mx_nwS Cx hA (hd1 rfl) he (fun st2 σ2 ho => ?_) (fun ρ2 st2 σ2 H2 cells2 slots2 ho h2 hE => ?_)
    · cases ho
      exact ⟨hKe, hZe⟩
    · cases ho
      exact kk ρ2 ls H2 locs cells2 slots2 h2 hE
  | newarray at_ =>
    refine mx_naS Cx hA (hd1 rfl) he (fun st2 σ2 ho => ?_) (fun ρ2 st2 σ2 H2 cells2 slots2 ho h2 hE => ?_)
    · cases ho
      exact ⟨hKe, hZe⟩
    · cases ho
      exact kk ρ2 ls H2 locs cells2 slots2 h2 hE
  | anewarray idx =>
    obtain ⟨C, hC, he⟩ := mx_anwc_i he
    refine mx_nqS Cx hA hC (hd1 rfl) he (fun st2 σ2 ho => ?_) (fun ρ2 st2 σ2 H2 cells2 slots2 ho h2 hE => ?_)
    · cases ho
      exact ⟨hKe, hZe⟩
    · cases ho
      exact kk ρ2 ls H2 locs cells2 slots2 h2 hE
  | invokespecial idx =>
    obtain ⟨a, r, hob, rfl, hwd, ho⟩ := mx_callI_o he
    cases ho
    obtain ⟨hw1, hw2, hw3⟩ := mx_obi_ok hob
    refine W.objInit hx hb hown (hts _ hw1) (hts _ hw2) (hts _ hw3) rfl (by rw [hml]; exact hA.2.1.1) rfl (hd1 rfl) (by omega) ?_ (kp rfl rfl mx_p1)
    rw [mx_wd_map]
    show 2 * 0 + mx_wd _ + 12 ≤ R.locals
    omega
  | invokestatic idx => exact absurd he mx_callS_n
  | invokevirtual idx => exact absurd he mx_callV_n
  | ireturn => exact absurd he mx_ret_n.1
  | lreturn => exact absurd he mx_ret_n.2.1
  | areturn => exact absurd he mx_ret_n.2.2.1
  | return_ => exact absurd he mx_ret_n.2.2.2
  | _ => exact absurd (show (none : Option mx_Rs) = _ from he) (fun h => by cases h)
end
section
/-! a run of the abstract machine is one of the real machine -/
set_option maxHeartbeats 4000000 in
theorem mx_exec_K {mid pc : Nat} {i : Jvm.ClassFile.Instr} {L L' : mx_L} {st st' : List mx_V} {σ σ' : mx_Hp} {pc' : Nat} (he : mx_exec mid pc i L st σ = some (.inl (pc', L', st', σ'))) : mx_K σ ≤ mx_K σ' ∧ mx_Z σ ≤ mx_Z σ' := by
  have h0 : mx_K σ ≤ mx_K σ ∧ mx_Z σ ≤ mx_Z σ := ⟨Nat.le_refl _, Nat.le_refl _⟩
  cases i with
  | iconst n => cases he; exact h0
  | bipush n => cases he; exact h0
  | sipush n => cases he; exact h0
  | lconst n => cases he; exact h0
  | ldc idx =>
    obtain ⟨_, _, ho⟩ := mx_ldcc_i he
    cases ho
    exact h0
  | ldc2_w idx =>
    obtain ⟨_, _, ho⟩ := mx_ldlc_i he
    cases ho
    exact h0
  | iload_n k =>
    obtain ⟨_, _, ho⟩ := mx_ildc_i he
    cases ho
    exact h0
  | iload k =>
    obtain ⟨_, _, ho⟩ := mx_ildc_i he
    cases ho
    exact h0
  | lload_n k =>
    obtain ⟨_, _, _, ho⟩ := mx_lldc_i he
    cases ho
    exact h0
  | lload k =>
    obtain ⟨_, _, _, ho⟩ := mx_lldc_i he
    cases ho
    exact h0
  | aload_n k =>
    obtain ⟨_, _, ho⟩ := mx_aldc_i he
    cases ho
    exact h0
  | aload k =>
    obtain ⟨_, _, ho⟩ := mx_aldc_i he
    cases ho
    exact h0
  | istore_n k =>
    obtain ⟨_, _, _, _, ho⟩ := mx_istc_i he
    cases ho
    exact h0
  | istore k =>
    obtain ⟨_, _, _, _, ho⟩ := mx_istc_i he
    cases ho
    exact h0
  | lstore_n k =>
    obtain ⟨_, _, _, _, ho⟩ := mx_lstc_i he
    cases ho
    exact h0
  | lstore k =>
    obtain ⟨_, _, _, _, ho⟩ := mx_lstc_i he
    cases ho
    exact h0
  | astore_n k =>
    obtain ⟨_, _, _, _, ho⟩ := mx_astc_i he
    cases ho
    exact h0
  | astore k =>
    obtain ⟨_, _, _, _, ho⟩ := mx_astc_i he
    cases ho
    exact h0
  | iinc k n =>
    obtain ⟨_, _, _, ho⟩ := mx_iincc_i he
    cases ho
    exact h0
  | iadd =>
    obtain ⟨_, _, _, _, ho⟩ := mx_b2_i he
    cases ho
    exact h0
  | isub =>
    obtain ⟨_, _, _, _, ho⟩ := mx_b2_i he
    cases ho
    exact h0
  | imul =>
    obtain ⟨_, _, _, _, ho⟩ := mx_b2_i he
    cases ho
    exact h0
  | iand =>
    obtain ⟨_, _, _, _, ho⟩ := mx_b2_i he
    cases ho
    exact h0
  | ior =>
    obtain ⟨_, _, _, _, ho⟩ := mx_b2_i he
    cases ho
    exact h0
  | ixor =>
    obtain ⟨_, _, _, _, ho⟩ := mx_b2_i he
    cases ho
    exact h0
  | ishl =>
    obtain ⟨_, _, _, _, ho⟩ := mx_b2_i he
    cases ho
    exact h0
  | ishr =>
    obtain ⟨_, _, _, _, ho⟩ := mx_b2_i he
    cases ho
    exact h0
  | iushr =>
    obtain ⟨_, _, _, _, ho⟩ := mx_b2_i he
    cases ho
    exact h0
  | idiv =>
    obtain ⟨_, _, _, _, _, ho⟩ := mx_d2_i he
    cases ho
    exact h0
  | irem =>
    obtain ⟨_, _, _, _, _, ho⟩ := mx_d2_i he
    cases ho
    exact h0
  | ladd =>
    obtain ⟨_, _, _, _, ho⟩ := mx_m2_i he
    cases ho
    exact h0
  | lsub =>
    obtain ⟨_, _, _, _, ho⟩ := mx_m2_i he
    cases ho
    exact h0
  | land =>
    obtain ⟨_, _, _, _, ho⟩ := mx_m2_i he
    cases ho
    exact h0
  | lor =>
    obtain ⟨_, _, _, _, ho⟩ := mx_m2_i he
    cases ho
    exact h0
  | lxor =>
    obtain ⟨_, _, _, _, ho⟩ := mx_m2_i he
    cases ho
    exact h0
  | lushr =>
    obtain ⟨_, _, _, _, ho⟩ := mx_s2_i he
    cases ho
    exact h0
  | lshl =>
    obtain ⟨_, _, _, _, ho⟩ := mx_s2_i he
    cases ho
    exact h0
  | lshr =>
    obtain ⟨_, _, _, _, ho⟩ := mx_s2_i he
    cases ho
    exact h0
  | ineg =>
    obtain ⟨_, _, _, ho⟩ := mx_b1_i he
    cases ho
    exact h0
  | i2l =>
    obtain ⟨_, _, _, ho⟩ := mx_b1_i he
    cases ho
    exact h0
  | i2b =>
    obtain ⟨_, _, _, ho⟩ := mx_b1_i he
    cases ho
    exact h0
  | l2i =>
    obtain ⟨_, _, _, ho⟩ := mx_m1_i he
    cases ho
    exact h0
  | lcmp =>
    obtain ⟨_, _, _, _, ho⟩ := mx_lcmpc_i he
    cases ho
    exact h0
  | dup =>
    obtain ⟨_, _, _, _, ho⟩ := mx_dup_i he
    cases ho
    exact h0
  | pop =>
    obtain ⟨_, _, _, _, ho⟩ := mx_popc_i he
    cases ho
    exact h0
  | goto off =>
    obtain ⟨_, _, ho⟩ := mx_br_i he
    cases ho
    exact h0
  | ifCond cd off =>
    obtain ⟨_, _, _, _, _, ho⟩ := mx_ifcc_i he
    cases ho
    exact h0
  | if_icmp cd off =>
    obtain ⟨_, _, _, _, _, _, ho⟩ := mx_icmc_i he
    cases ho
    exact h0
  | tableswitch dflt lo hi offs =>
    obtain ⟨_, _, _, _, _, _, _, ho⟩ := mx_tswc_i he
    cases ho
    exact h0
  | lookupswitch dflt ps =>
    obtain ⟨_, _, _, _, _, _, ho⟩ := mx_lswc_i he
    cases ho
    exact h0
  | iaload =>
    obtain ⟨_, _, _, _, _, _, _, _, ho⟩ := mx_ald_i he
    cases ho
    exact h0
  | baload =>
    obtain ⟨_, _, _, _, _, _, _, _, ho⟩ := mx_ald_i he
    cases ho
    exact h0
  | laload =>
    obtain ⟨_, _, _, _, _, _, _, _, ho⟩ := mx_ald_i he
    cases ho
    exact h0
  | aaload =>
    obtain ⟨_, _, _, _, _, _, _, _, ho⟩ := mx_ald_i he
    cases ho
    exact h0
  | arraylength =>
    obtain ⟨_, _, _, _, _, ho⟩ := mx_len_i he
    cases ho
    exact h0
  | getfield idx =>
    obtain ⟨_, _, _, _, _, _, _, _, _, ho⟩ := mx_get_i he
    cases ho
    exact h0
  | iastore =>
    obtain ⟨x, i, a, r, -, -, hg, -, ho⟩ := mx_iast_i he
    cases ho
    obtain ⟨-, -, -, -, o5, o6⟩ := mx_sI_o (σ := σ) (k := i.toNatClampNeg) hg x
    rw [o5, o6]
    exact h0
  | bastore =>
    obtain ⟨x, i, a, r, ty, -, -, -, hg, -, ho⟩ := mx_bast_i he
    cases ho
    obtain ⟨-, -, -, -, o5, o6⟩ := mx_sI_o (σ := σ) (k := i.toNatClampNeg) hg (vp_nar ty x)
    rw [o5, o6]
    exact h0
  | lastore =>
    obtain ⟨x, i, a, r, -, -, hg, -, ho⟩ := mx_last_i he
    cases ho
    obtain ⟨-, -, -, -, o5, o6⟩ := mx_sJ_o (σ := σ) (k := i.toNatClampNeg) hg x
    rw [o5, o6]
    exact h0
  | aastore =>
    obtain ⟨b, i, a, r, C, ci, -, -, -, hg, -, -, -, ho⟩ := mx_aast_i he
    cases ho
    obtain ⟨-, -, -, -, o5, o6⟩ := mx_sR_o (σ := σ) (k := i.toNatClampNeg) hg (some b)
    rw [o5, o6]
    exact h0
  | putfield idx =>
    obtain ⟨ci, k, nst, g, j, r, v, σ2, -, -, hg, -, hw, ho⟩ := mx_pt_i he
    cases ho
    have hK : mx_K σ' = mx_K σ ∧ mx_Z σ' = mx_Z σ := by
      unfold mx_wr at hw
      split at hw
      · cases hw
        obtain ⟨-, -, -, -, o5, o6⟩ := mx_sJ_o (σ := σ) (a := (g, ci, j)) (k := k) hg (by assumption)
        exact ⟨o5, o6⟩
      · cases hw
        exact ⟨(mx_sR_o (a := (g, ci, j)) hg _).2.2.2.2.1, (mx_sR_o (a := (g, ci, j)) hg _).2.2.2.2.2⟩
      · cases hw
        exact ⟨(mx_sR_o (a := (g, ci, j)) hg _).2.2.2.2.1, (mx_sR_o (a := (g, ci, j)) hg _).2.2.2.2.2⟩
      · cases hw
        exact ⟨(mx_sI_o (a := (g, ci, j)) hg _).2.2.2.2.1, (mx_sI_o (a := (g, ci, j)) hg _).2.2.2.2.2⟩
      · split at hw
        · cases hw
          exact ⟨(mx_sI_o (a := (g, ci, j)) hg _).2.2.2.2.1, (mx_sI_o (a := (g, ci, j)) hg _).2.2.2.2.2⟩
        · cases hw
      · cases hw
    rw [hK.1, hK.2]
    exact h0
  | new idx =>
    obtain ⟨ci, -, hg, ho⟩ := mx_nw_i he
    cases ho
    obtain ⟨-, -, -, -, -, o6, o7⟩ := mx_al_o (σ := σ) (t := ci) (n := 0) (z := mx_fn ci) hg
    rw [o6, o7]
    exact ⟨Nat.le_add_right _ _, Nat.le_add_right _ _⟩
  | newarray at_ =>
    obtain ⟨g, t, n, r, -, hg, -, -, -, ho⟩ := mx_na_i he
    cases ho
    obtain ⟨-, -, -, -, -, o6, o7⟩ := mx_al_o (σ := σ) (t := t) (n := n.toNatClampNeg) (z := n.toNatClampNeg) hg
    rw [o6, o7]
    exact ⟨Nat.le_add_right _ _, Nat.le_add_right _ _⟩
  | anewarray idx =>
    obtain ⟨C, hC, he⟩ := mx_anwc_i he
    obtain ⟨g, t, n, r, -, hg, -, -, -, ho⟩ := mx_na_i he
    cases ho
    obtain ⟨-, -, -, -, -, o6, o7⟩ := mx_al_o (σ := σ) (t := t) (n := n.toNatClampNeg) (z := n.toNatClampNeg) hg
    rw [o6, o7]
    exact ⟨Nat.le_add_right _ _, Nat.le_add_right _ _⟩
  | invokespecial idx =>
    obtain ⟨a, r, -, -, -, ho⟩ := mx_callI_o he
    cases ho
    exact h0
  | invokestatic idx => exact absurd he mx_callS_n
  | invokevirtual idx => exact absurd he mx_callV_n
  | ireturn => exact absurd he mx_ret_n.1
  | lreturn => exact absurd he mx_ret_n.2.1
  | areturn => exact absurd he mx_ret_n.2.2.1
  | return_ => exact absurd he mx_ret_n.2.2.2
  | _ => exact absurd (show (none : Option mx_Rs) = _ from he) (fun h => by cases h)
/-- an instruction that calls -/
def mx_isC (mid pc : Nat) (y : Nat) (as : List mx_V) (q : Nat) (r st : List mx_V) : Prop := q = pc + 3 ∧ mx_wd r ≤ 8 ∧ ∃ idx nst, mx_cal (mx_mc mid) idx = some (y, nst) ∧ ((mx_ms y = true ∧ decode (mx_mb mid) pc = .ok (.invokestatic idx, 3) ∧ mx_pop (mx_mn y) st [] = some (as, r)) ∨ (mx_ms y = false ∧ mx_mi y = false ∧ decode (mx_mb mid) pc = .ok (.invokevirtual idx, 3) ∧ ∃ bs g i, g < 2 ∧ as = mx_r (some (g, mx_mc y, i)) :: bs ∧ mx_pop (mx_mn y) st [] = some (bs, .inr (.inr (some (g, mx_mc y, i))) :: r)) ∨ (mx_ms y = false ∧ mx_mi y = true ∧ decode (mx_mb mid) pc = .ok (.invokespecial idx, 3) ∧ ∃ bs a, as = mx_r (some a) :: bs ∧ mx_pop (mx_mn y) st [] = some (bs, .inr (.inr (some a)) :: r)))
def mx_isR (mid pc : Nat) (v : Option mx_V) : Prop := (v = none ∧ mx_mr mid = none ∧ decode (mx_mb mid) pc = .ok (.return_, 1)) ∨ (∃ x, v = some (.inl x) ∧ (mx_mr mid = some .int ∨ (mx_mr mid = some .boolean ∧ (x = 0 ∨ x = 1))) ∧ decode (mx_mb mid) pc = .ok (.ireturn, 1)) ∨ (∃ x, v = some (.inr (.inl x)) ∧ mx_mr mid = some .long ∧ decode (mx_mb mid) pc = .ok (.lreturn, 1)) ∨ (∃ x, v = some (.inr (.inr x)) ∧ ((∃ n, mx_mr mid = some (.object n)) ∨ ∃ t, mx_mr mid = some (.array t)) ∧ decode (mx_mb mid) pc = .ok (.areturn, 1))
set_option maxHeartbeats 4000000 in
theorem mx_exec_C {mid pc : Nat} {i : Jvm.ClassFile.Instr} {L : mx_L} {st : List mx_V} {σ : mx_Hp} {y : Nat} {as : List mx_V} {q : Nat} {r : List mx_V} (hi : mx_code mid pc = some i) (he : mx_exec mid pc i L st σ = some (.inr (.inl (y, as, q, r)))) : mx_isC mid pc y as q r st := by
  obtain ⟨len, hd, hlen⟩ := mx_dec hi
  have hd1 : mx_isw i = false → decode (mx_mb mid) pc = .ok (i, mx_ilen i) := fun h => by
    rcases hlen with h2 | h2
    · rw [h] at h2
      cases h2
    · rw [← h2]
      exact hd
  cases i with
  | iconst n => cases he
  | bipush n => cases he
  | sipush n => cases he
  | lconst n => cases he
  | ldc idx =>
    obtain ⟨_, _, ho⟩ := mx_ldcc_i he
    cases ho
  | ldc2_w idx =>
    obtain ⟨_, _, ho⟩ := mx_ldlc_i he
    cases ho
  | iload_n k =>
    obtain ⟨_, _, ho⟩ := mx_ildc_i he
    cases ho
  | iload k =>
    obtain ⟨_, _, ho⟩ := mx_ildc_i he
    cases ho
  | lload_n k =>
    obtain ⟨_, _, _, ho⟩ := mx_lldc_i he
    cases ho
  | lload k =>
    obtain ⟨_, _, _, ho⟩ := mx_lldc_i he
    cases ho
  | aload_n k =>
    obtain ⟨_, _, ho⟩ := mx_aldc_i he
    cases ho
  | aload k =>
    obtain ⟨_, _, ho⟩ := mx_aldc_i he
    cases ho
  | istore_n k =>
    obtain ⟨_, _, _, _, ho⟩ := mx_istc_i he
    cases ho
  | istore k =>
    obtain ⟨_, _, _, _, ho⟩ := mx_istc_i he
    cases ho
  | lstore_n k =>
    obtain ⟨_, _, _, _, ho⟩ := mx_lstc_i he
    cases ho
  | lstore k =>
    obtain ⟨_, _, _, _, ho⟩ := mx_lstc_i he
    cases ho
  | astore_n k =>
    obtain ⟨_, _, _, _, ho⟩ := mx_astc_i he
    cases ho
  | astore k =>
    obtain ⟨_, _, _, _, ho⟩ := mx_astc_i he
    cases ho
  | iinc k n =>
    obtain ⟨_, _, _, ho⟩ := mx_iincc_i he
    cases ho
  | iadd =>
    obtain ⟨_, _, _, _, ho⟩ := mx_b2_i he
    cases ho
  | isub =>
    obtain ⟨_, _, _, _, ho⟩ := mx_b2_i he
    cases ho
  | imul =>
    obtain ⟨_, _, _, _, ho⟩ := mx_b2_i he
    cases ho
  | iand =>
    obtain ⟨_, _, _, _, ho⟩ := mx_b2_i he
    cases ho
  | ior =>
    obtain ⟨_, _, _, _, ho⟩ := mx_b2_i he
    cases ho
  | ixor =>
    obtain ⟨_, _, _, _, ho⟩ := mx_b2_i he
    cases ho
  | ishl =>
    obtain ⟨_, _, _, _, ho⟩ := mx_b2_i he
    cases ho
  | ishr =>
    obtain ⟨_, _, _, _, ho⟩ := mx_b2_i he
    cases ho
  | iushr =>
    obtain ⟨_, _, _, _, ho⟩ := mx_b2_i he
    cases ho
  | idiv =>
    obtain ⟨_, _, _, _, _, ho⟩ := mx_d2_i he
    cases ho
  | irem =>
    obtain ⟨_, _, _, _, _, ho⟩ := mx_d2_i he
    cases ho
  | ladd =>
    obtain ⟨_, _, _, _, ho⟩ := mx_m2_i he
    cases ho
  | lsub =>
    obtain ⟨_, _, _, _, ho⟩ := mx_m2_i he
    cases ho
  | land =>
    obtain ⟨_, _, _, _, ho⟩ := mx_m2_i he
    cases ho
  | lor =>
    obtain ⟨_, _, _, _, ho⟩ := mx_m2_i he
    cases ho
  | lxor =>
    obtain ⟨_, _, _, _, ho⟩ := mx_m2_i he
    cases ho
  | lushr =>
    obtain ⟨_, _, _, _, ho⟩ := mx_s2_i he
    cases ho
  | lshl =>
    obtain ⟨_, _, _, _, ho⟩ := mx_s2_i he
    cases ho
  | lshr =>
    obtain ⟨_, _, _, _, ho⟩ := mx_s2_i he
    cases ho
  | ineg =>
    obtain ⟨_, _, _, ho⟩ := mx_b1_i he
    cases ho
  | i2l =>
    obtain ⟨_, _, _, ho⟩ := mx_b1_i he
    cases ho
  | i2b =>
    obtain ⟨_, _, _, ho⟩ := mx_b1_i he
    cases ho
  | l2i =>
    obtain ⟨_, _, _, ho⟩ := mx_m1_i he
    cases ho
  | lcmp =>
    obtain ⟨_, _, _, _, ho⟩ := mx_lcmpc_i he
    cases ho
  | dup =>
    obtain ⟨_, _, _, _, ho⟩ := mx_dup_i he
    cases ho
  | pop =>
    obtain ⟨_, _, _, _, ho⟩ := mx_popc_i he
    cases ho
  | goto off =>
    obtain ⟨_, _, ho⟩ := mx_br_i he
    cases ho
  | ifCond cd off =>
    obtain ⟨_, _, _, _, _, ho⟩ := mx_ifcc_i he
    cases ho
  | if_icmp cd off =>
    obtain ⟨_, _, _, _, _, _, ho⟩ := mx_icmc_i he
    cases ho
  | tableswitch dflt lo hi offs =>
    obtain ⟨_, _, _, _, _, _, _, ho⟩ := mx_tswc_i he
    cases ho
  | lookupswitch dflt ps =>
    obtain ⟨_, _, _, _, _, _, ho⟩ := mx_lswc_i he
    cases ho
  | iaload =>
    obtain ⟨_, _, _, _, _, _, _, _, ho⟩ := mx_ald_i he
    cases ho
  | baload =>
    obtain ⟨_, _, _, _, _, _, _, _, ho⟩ := mx_ald_i he
    cases ho
  | laload =>
    obtain ⟨_, _, _, _, _, _, _, _, ho⟩ := mx_ald_i he
    cases ho
  | aaload =>
    obtain ⟨_, _, _, _, _, _, _, _, ho⟩ := mx_ald_i he
    cases ho
  | arraylength =>
    obtain ⟨_, _, _, _, _, ho⟩ := mx_len_i he
    cases ho
  | getfield idx =>
    obtain ⟨_, _, _, _, _, _, _, _, _, ho⟩ := mx_get_i he
    cases ho
  | iastore =>
    obtain ⟨_, _, _, _, _, _, _, _, ho⟩ := mx_iast_i he
    cases ho
  | bastore =>
    obtain ⟨_, _, _, _, _, _, _, _, _, _, ho⟩ := mx_bast_i he
    cases ho
  | lastore =>
    obtain ⟨_, _, _, _, _, _, _, _, ho⟩ := mx_last_i he
    cases ho
  | aastore =>
    obtain ⟨_, _, _, _, _, _, _, _, _, _, _, _, _, ho⟩ := mx_aast_i he
    cases ho
  | putfield idx =>
    obtain ⟨_, _, _, _, _, _, _, _, _, _, _, _, _, ho⟩ := mx_pt_i he
    cases ho
  | new idx =>
    obtain ⟨_, _, _, ho⟩ := mx_nw_i he
    cases ho
  | newarray at_ =>
    obtain ⟨_, _, _, _, _, _, _, _, _, ho⟩ := mx_na_i he
    cases ho
  | anewarray idx =>
    obtain ⟨C, hC, he⟩ := mx_anwc_i he
    obtain ⟨_, _, _, _, _, _, _, _, _, ho⟩ := mx_na_i he
    cases ho
  | invokestatic idx =>
    obtain ⟨y, nst, as, r, h1, h2, h3, h4, ho⟩ := mx_callS_i he
    cases ho
    exact ⟨rfl, h4, idx, nst, h1, Or.inl ⟨h2, hd1 rfl, h3⟩⟩
  | invokevirtual idx =>
    obtain ⟨y, nst, as, g, j, r, h1, h2, h3, h4, h5, h6, ho⟩ := mx_callV_i he
    cases ho
    exact ⟨rfl, h6, idx, nst, h1, Or.inr (Or.inl ⟨h2, h3, hd1 rfl, as, g, j, h5, rfl, h4⟩)⟩
  | invokespecial idx =>
    rcases mx_callI_i he with ⟨a, r, h1, h2, h3, ho⟩ | ⟨y, nst, as, a, r, h1, h2, h3, h4, h5, ho⟩
    · cases ho
    · cases ho
      exact ⟨rfl, h5, idx, nst, h1, Or.inr (Or.inr ⟨h2, h3, hd1 rfl, as, a, rfl, h4⟩)⟩
  | ireturn =>
    obtain ⟨_, _, _, ho⟩ := mx_ireturn_i he
    cases ho
  | lreturn =>
    obtain ⟨_, _, _, ho⟩ := mx_lreturn_i he
    cases ho
  | areturn =>
    obtain ⟨_, _, _, ho⟩ := mx_areturn_i he
    cases ho
  | return_ =>
    obtain ⟨_, _, ho⟩ := mx_vreturn_i he
    cases ho
  | _ => exact absurd (show (none : Option mx_Rs) = _ from he) (fun h => by cases h)
set_option maxHeartbeats 4000000 in
theorem mx_exec_R {mid pc : Nat} {i : Jvm.ClassFile.Instr} {L : mx_L} {st : List mx_V} {σ : mx_Hp} {v : Option mx_V} (hi : mx_code mid pc = some i) (he : mx_exec mid pc i L st σ = some (.inr (.inr v))) : mx_isR mid pc v ∧ st = v.toList := by
  obtain ⟨len, hd, hlen⟩ := mx_dec hi
  have hd1 : mx_isw i = false → decode (mx_mb mid) pc = .ok (i, mx_ilen i) := fun h => by
    rcases hlen with h2 | h2
    · rw [h] at h2
      cases h2
    · rw [← h2]
      exact hd
  cases i with
  | iconst n => cases he
  | bipush n => cases he
  | sipush n => cases he
  | lconst n => cases he
  | ldc idx =>
    obtain ⟨_, _, ho⟩ := mx_ldcc_i he
    cases ho
  | ldc2_w idx =>
    obtain ⟨_, _, ho⟩ := mx_ldlc_i he
    cases ho
  | iload_n k =>
    obtain ⟨_, _, ho⟩ := mx_ildc_i he
    cases ho
  | iload k =>
    obtain ⟨_, _, ho⟩ := mx_ildc_i he
    cases ho
  | lload_n k =>
    obtain ⟨_, _, _, ho⟩ := mx_lldc_i he
    cases ho
  | lload k =>
    obtain ⟨_, _, _, ho⟩ := mx_lldc_i he
    cases ho
  | aload_n k =>
    obtain ⟨_, _, ho⟩ := mx_aldc_i he
    cases ho
  | aload k =>
    obtain ⟨_, _, ho⟩ := mx_aldc_i he
    cases ho
  | istore_n k =>
    obtain ⟨_, _, _, _, ho⟩ := mx_istc_i he
    cases ho
  | istore k =>
    obtain ⟨_, _, _, _, ho⟩ := mx_istc_i he
    cases ho
  | lstore_n k =>
    obtain ⟨_, _, _, _, ho⟩ := mx_lstc_i he
    cases ho
  | lstore k =>
    obtain ⟨_, _, _, _, ho⟩ := mx_lstc_i he
    cases ho
  | astore_n k =>
    obtain ⟨_, _, _, _, ho⟩ := mx_astc_i he
    cases ho
  | astore k =>
    obtain ⟨_, _, _, _, ho⟩ := mx_astc_i he
    cases ho
  | iinc k n =>
    obtain ⟨_, _, _, ho⟩ := mx_iincc_i he
    cases ho
  | iadd =>
    obtain ⟨_, _, _, _, ho⟩ := mx_b2_i he
    cases ho
  | isub =>
    obtain ⟨_, _, _, _, ho⟩ := mx_b2_i he
    cases ho
  | imul =>
    obtain ⟨_, _, _, _, ho⟩ := mx_b2_i he
    cases ho
  | iand =>
    obtain ⟨_, _, _, _, ho⟩ := mx_b2_i he
    cases ho
  | ior =>
    obtain ⟨_, _, _, _, ho⟩ := mx_b2_i he
    cases ho
  | ixor =>
    obtain ⟨_, _, _, _, ho⟩ := mx_b2_i he
    cases ho
  | ishl =>
    obtain ⟨_, _, _, _, ho⟩ := mx_b2_i he
    cases ho
  | ishr =>
    obtain ⟨_, _, _, _, ho⟩ := mx_b2_i he
    cases ho
  | iushr =>
    obtain ⟨_, _, _, _, ho⟩ := mx_b2_i he
    cases ho
  | idiv =>
    obtain ⟨_, _, _, _, _, ho⟩ := mx_d2_i he
    cases ho
  | irem =>
    obtain ⟨_, _, _, _, _, ho⟩ := mx_d2_i he
    cases ho
  | ladd =>
    obtain ⟨_, _, _, _, ho⟩ := mx_m2_i he
    cases ho
  | lsub =>
    obtain ⟨_, _, _, _, ho⟩ := mx_m2_i he
    cases ho
  | land =>
    obtain ⟨_, _, _, _, ho⟩ := mx_m2_i he
    cases ho
  | lor =>
    obtain ⟨_, _, _, _, ho⟩ := mx_m2_i he
    cases ho
  | lxor =>
    obtain ⟨_, _, _, _, ho⟩ := mx_m2_i he
    cases ho
  | lushr =>
    obtain ⟨_, _, _, _, ho⟩ := mx_s2_i he
    cases ho
  | lshl =>
    obtain ⟨_, _, _, _, ho⟩ := mx_s2_i he
    cases ho
  | lshr =>
    obtain ⟨_, _, _, _, ho⟩ := mx_s2_i he
    cases ho
  | ineg =>
    obtain ⟨_, _, _, ho⟩ := mx_b1_i he
    cases ho
  | i2l =>
    obtain ⟨_, _, _, ho⟩ := mx_b1_i he
    cases ho
  | i2b =>
    obtain ⟨_, _, _, ho⟩ := mx_b1_i he
    cases ho
  | l2i =>
    obtain ⟨_, _, _, ho⟩ := mx_m1_i he
    cases ho
  | lcmp =>
    obtain ⟨_, _, _, _, ho⟩ := mx_lcmpc_i he
    cases ho
  | dup =>
    obtain ⟨_, _, _, _, ho⟩ := mx_dup_i he
    cases ho
  | pop =>
    obtain ⟨_, _, _, _, ho⟩ := mx_popc_i he
    cases ho
  | goto off =>
    obtain ⟨_, _, ho⟩ := mx_br_i he
    cases ho
  | ifCond cd off =>
    obtain ⟨_, _, _, _, _, ho⟩ := mx_ifcc_i he
    cases ho
  | if_icmp cd off =>
    obtain ⟨_, _, _, _, _, _, ho⟩ := mx_icmc_i he
    cases ho
  | tableswitch dflt lo hi offs =>
    obtain ⟨_, _, _, _, _, _, _, ho⟩ := mx_tswc_i he
    cases ho
  | lookupswitch dflt ps =>
    obtain ⟨_, _, _, _, _, _, ho⟩ := mx_lswc_i he
    cases ho
  | iaload =>
    obtain ⟨_, _, _, _, _, _, _, _, ho⟩ := mx_ald_i he
    cases ho
  | baload =>
    obtain ⟨_, _, _, _, _, _, _, _, ho⟩ := mx_ald_i he
    cases ho
  | laload =>
    obtain ⟨_, _, _, _, _, _, _, _, ho⟩ := mx_ald_i he
    cases ho
  | aaload =>
    obtain ⟨_, _, _, _, _, _, _, _, ho⟩ := mx_ald_i he
    cases ho
  | arraylength =>
    obtain ⟨_, _, _, _, _, ho⟩ := mx_len_i he
    cases ho
  | getfield idx =>
    obtain ⟨_, _, _, _, _, _, _, _, _, ho⟩ := mx_get_i he
    cases ho
  | iastore =>
    obtain ⟨_, _, _, _, _, _, _, _, ho⟩ := mx_iast_i he
    cases ho
  | bastore =>
    obtain ⟨_, _, _, _, _, _, _, _, _, _, ho⟩ := mx_bast_i he
    cases ho
  | lastore =>
    obtain ⟨_, _, _, _, _, _, _, _, ho⟩ := mx_last_i he
    cases ho
  | aastore =>
    obtain ⟨_, _, _, _, _, _, _, _, _, _, _, _, _, ho⟩ := mx_aast_i he
    cases ho
  | putfield idx =>
    obtain ⟨_, _, _, _, _, _, _, _, _, _, _, _, _, ho⟩ := mx_pt_i he
    cases ho
  | new idx =>
    obtain ⟨_, _, _, ho⟩ := mx_nw_i he
    cases ho
  | newarray at_ =>
    obtain ⟨_, _, _, _, _, _, _, _, _, ho⟩ := mx_na_i he
    cases ho
  | anewarray idx =>
    obtain ⟨C, hC, he⟩ := mx_anwc_i he
    obtain ⟨_, _, _, _, _, _, _, _, _, ho⟩ := mx_na_i he
    cases ho
  | invokestatic idx =>
    obtain ⟨_, _, _, _, _, _, _, _, ho⟩ := mx_callS_i he
    cases ho
  | invokevirtual idx =>
    obtain ⟨_, _, _, _, _, _, _, _, _, _, _, _, ho⟩ := mx_callV_i he
    cases ho
  | invokespecial idx =>
    rcases mx_callI_i he with ⟨a, r, h1, h2, h3, ho⟩ | ⟨y, nst, as, a, r, h1, h2, h3, h4, h5, ho⟩
    · cases ho
    · cases ho
  | ireturn =>
    obtain ⟨x, rfl, h2, ho⟩ := mx_ireturn_i he
    cases ho
    exact ⟨Or.inr (Or.inl ⟨x, rfl, h2, hd1 rfl⟩), rfl⟩
  | lreturn =>
    obtain ⟨x, rfl, h2, ho⟩ := mx_lreturn_i he
    cases ho
    exact ⟨Or.inr (Or.inr (Or.inl ⟨x, rfl, h2, hd1 rfl⟩)), rfl⟩
  | areturn =>
    obtain ⟨x, rfl, h2, ho⟩ := mx_areturn_i he
    cases ho
    exact ⟨Or.inr (Or.inr (Or.inr ⟨x, rfl, h2, hd1 rfl⟩)), rfl⟩
  | return_ =>
    obtain ⟨rfl, h2, ho⟩ := mx_vreturn_i he
    cases ho
    exact ⟨Or.inl ⟨rfl, h2, hd1 rfl⟩, rfl⟩
  | _ => exact absurd (show (none : Option mx_Rs) = _ from he) (fun h => by cases h)
end
section
theorem mx_nmU {D : mx_D} {s : State} (h : mx_SW D s) {a : String} {i : Nat} {y : MethodName} {host : String} (hh : (a, i, y, host) ∈ mx_nm) : va_Nw (.methodLinkNest a i y host) s := by
  obtain ⟨-, -, -, h4, -⟩ := h
  exact h4 _ hh
theorem mx_ofW {l : Launch} {y : MethodName} {ws ws' : List Cond} {rm : Room} {Pc : Array Value → State → Prop} {Qc : Array Value → State → Outcome → State → Prop} {mc ms : Nat} {free : Addr → Prop} {cc : ByteArray} {maxL : Nat} {ret : Option FieldType}
    (hy : plainFor y = true) (hw : ws = Cond.code y cc maxL ret :: ws')
    (body : ∀ p e s m args below meth c s₁, BodyLoose p l y (headSpec ws rm) cc maxL ret e s m args below meth c s₁ → c.maxLocals = maxL → Pc args s →
      W p l e (headSpec ws rm).room s m args below meth c s.heap [] 0 0 (MQ below Qc args s mc ms free) (entryFrame m args maxL)) : Met l y ws rm Pc Qc mc ms free := by
  refine MetFree.of_bodySF (code := cc) (maxLocals := maxL) (ret := ret) hy ?_ ?_
  · intro args s m h hn
    obtain ⟨meth, c, h1, h2, h3, h4, h5, h6, -, -⟩ := Cond.code_spec hn (atoms_spec (ws := ws) h _ (by rw [hw]; exact List.mem_cons_self))
    exact ⟨meth, c, h1, h2, h3, h4, h5, h6⟩
  · intro p e s m args below meth c s₁ B hml hP _
    have hh0 : s₁.heap = s.heap := by rw [B.state]; rfl
    obtain ⟨t, a1, o, b1, b2, b3⟩ := body p e s m args below meth c s₁ B hml hP s₁ hh0 (Stand.of_body B)
    exact ⟨t, o, a1, b1, b2, ⟨b3.1, b3.2⟩⟩
theorem mx_pop_i : ∀ (n : Nat) (st acc : List mx_V) {as r : List mx_V}, mx_pop n st acc = some (as, r) → ∃ xs, as = xs ++ acc ∧ xs.length = n ∧ st = xs.reverse ++ r := by
  intro n
  induction n with
  | zero =>
    intro st acc as r h
    simp only [mx_pop] at h
    cases h
    exact ⟨[], rfl, rfl, rfl⟩
  | succ n ih =>
    intro st acc as r h
    cases st with
    | nil =>
      simp only [mx_pop] at h
      cases h
    | cons v st =>
      simp only [mx_pop] at h
      obtain ⟨xs, h1, h2, h3⟩ := ih st (v :: acc) h
      exact ⟨xs ++ [v], by simp [h1], by simp [h2], by simp [h3]⟩
theorem mx_step_i {mid pc : Nat} {L : mx_L} {st : List mx_V} {σ : mx_Hp} {o : mx_Rs} (h : mx_step mid pc L st σ = some o) : ∃ i, mx_code mid pc = some i ∧ mx_exec mid pc i L st σ = some o := by
  unfold mx_step at h
  split at h
  · exact ⟨_, by assumption, h⟩
  · cases h
/-- how a run begins -/
theorem mx_ev_i {n d mid pc : Nat} {L : mx_L} {st : List mx_V} {σ σ' : mx_Hp} {v : Option mx_V} (h : mx_ev (n + 1) d mid pc L st σ = some (v, σ')) :
    (∃ i pc1 L1 st1 σ1, mx_code mid pc = some i ∧ mx_exec mid pc i L st σ = some (.inl (pc1, L1, st1, σ1)) ∧ mx_ev n d mid pc1 L1 st1 σ1 = some (v, σ')) ∨
    (∃ i y as pc1 r d1 v1 σ1, d = d1 + 1 ∧ mx_code mid pc = some i ∧ mx_exec mid pc i L st σ = some (.inr (.inl (y, as, pc1, r))) ∧ (mx_args as).length ≤ mx_mL y ∧ mx_ev n d1 y 0 (mx_ent y as) [] σ = some (v1, σ1) ∧ mx_ev n d mid pc1 L (mx_psh v1 r) σ1 = some (v, σ')) ∨
    (∃ i, mx_code mid pc = some i ∧ mx_exec mid pc i L st σ = some (.inr (.inr v)) ∧ σ' = σ) := by
  simp only [mx_ev] at h
  split at h
  · cases h
  · rename_i pc1 L1 st1 σ1 hs
    obtain ⟨i, h1, h2⟩ := mx_step_i hs
    exact Or.inl ⟨i, pc1, L1, st1, σ1, h1, h2, h⟩
  · rename_i y as pc1 r hs
    obtain ⟨i, h1, h2⟩ := mx_step_i hs
    split at h
    · cases h
    · rename_i d1
      obtain ⟨hb, h⟩ := mx_bif h rfl
      split at h
      · cases h
      · rename_i v1 σ1 h3
        exact Or.inr (Or.inl ⟨i, y, as, pc1, r, d1, v1, σ1, rfl, h1, h2, by simpa [Nat.ble_eq] using hb, h3, h⟩)
  · rename_i v1 hs
    obtain ⟨i, h1, h2⟩ := mx_step_i hs
    cases h
    exact Or.inr (Or.inr ⟨i, h1, h2, rfl⟩)
theorem mx_ev_K : ∀ (n : Nat) {d mid pc : Nat} {L : mx_L} {st : List mx_V} {σ σ' : mx_Hp} {v : Option mx_V}, mx_ev n d mid pc L st σ = some (v, σ') → mx_K σ ≤ mx_K σ' ∧ mx_Z σ ≤ mx_Z σ' := by
  intro n
  induction n with
  | zero =>
    intro d mid pc L st σ σ' v h
    simp only [mx_ev] at h
    cases h
  | succ n ih =>
    intro d mid pc L st σ σ' v h
    rcases mx_ev_i h with ⟨i, pc1, L1, st1, σ1, h1, h2, h3⟩ | ⟨i, y, as, pc1, r, d1, v1, σ1, rfl, h1, h2, h3, h4, h5⟩ | ⟨i, h1, h2, rfl⟩
    · have a1 := mx_exec_K h2
      have a2 := ih h3
      exact ⟨Nat.le_trans a1.1 a2.1, Nat.le_trans a1.2 a2.2⟩
    · have a1 := ih h4
      have a2 := ih h5
      exact ⟨Nat.le_trans a1.1 a2.1, Nat.le_trans a1.2 a2.2⟩
    · exact ⟨Nat.le_refl _, Nat.le_refl _⟩
/-- words, room, start and end of a method -/
def mx_wsy (y : Nat) : List Cond := Cond.code (mx_my y) (mx_mb y) (mx_mL y) (mx_mr y) :: mx_GT
def mx_rm (d : Nat) (σ σ' : mx_Hp) : Room := { frames := d + 1, cells := mx_K σ' - mx_K σ, slots := mx_Z σ' - mx_Z σ, locals := (d + 1) * 64 }
def mx_Pc (D : mx_D) (z0 : Nat) (ρ : mx_Ad → Nat) (σ : mx_Hp) (as : List mx_V) : Array Value → State → Prop := fun v U => v = (as.map (mx_tv ρ)).toArray ∧ mx_Rep D z0 ρ σ U.heap ∧ mx_SW D U ∧ (∀ x ∈ as, mx_vk σ x) ∧ z0 ≤ U.heap.size
def mx_Qc (D : mx_D) (z0 : Nat) (ρ : mx_Ad → Nat) (σ : mx_Hp) (v : Option mx_V) (σ' : mx_Hp) : Array Value → State → Outcome → State → Prop := fun _ _ o t => ∃ ρ', o = .returned (v.map (mx_tv ρ')) ∧ mx_Rep D z0 ρ' σ' t.heap ∧ mx_Ext ρ σ ρ' σ' ∧ (∀ w, v = some w → mx_vk σ' w) ∧ z0 ≤ t.heap.size
theorem mx_good (y : Nat) (hy : y < mx_NM) : GoodIn mx_GT (mx_wsy y) := by
  intro w hw
  have hin : w ∈ mx_GT := by
    rcases List.mem_cons.mp hw with rfl | h
    · exact (mx_meth_ok hy).1
    · exact h
  exact ⟨hin, mx_GT_ok w hin⟩
/-- what is claimed of runs of n steps -/
def mx_Wk (n : Nat) : Prop := ∀ (d mid pc : Nat) (L : mx_L) (st : List mx_V) (σ : mx_Hp) (v : Option mx_V) (σ' : mx_Hp), mx_ev n d mid pc L st σ = some (v, σ') →
  ∀ (p : Program) (l : Launch) (e : Env) (R : Room) (s : State) (m : MethodId) (args : Array Value) (below : List Frame) (meth : Method) (c : Code) (H : Heap) (locs : List Loc) (cells slots : Nat) (Q : State → Prop) (ls : Array Slot) (D : mx_D) (z0 K0 Z0 : Nat) (ρ : mx_Ad → Nat),
    mx_Cx p s m args meth c R D mid d → mx_At D z0 K0 Z0 (mx_mL mid) ρ σ L st H locs cells slots ls → mx_K σ' ≤ R.cells + K0 → mx_Z σ' ≤ R.slots + Z0 →
    (∀ (ρ' : mx_Ad → Nat) (pc' : Nat) (ls' : Array Slot) (H' : Heap) (locs' : List Loc) (cells' slots' : Nat) (L' : mx_L), mx_At D z0 K0 Z0 (mx_mL mid) ρ' σ' L' v.toList H' locs' cells' slots' ls' → mx_Ext ρ σ ρ' σ' → mx_isR mid pc' v → W p l e R s m args below meth c H' locs' cells' slots' Q (F0 m pc' ls' (v.toList.map (mx_tv ρ')))) →
    W p l e R s m args below meth c H locs cells slots Q (F0 m pc ls (st.map (mx_tv ρ)))
theorem mx_args_len (ρ : mx_Ad → Nat) (as : List mx_V) : (lg_sl (as.map (mx_tv ρ))).length = (mx_args as).length := by
  induction as with
  | nil => rfl
  | cons v as ih =>
    unfold lg_sl at ih ⊢
    rw [List.map_cons, List.flatMap_cons, List.length_append, ih, mx_tv_cat]
    match v with
    | .inl x => simp [mx_w, mx_args]; omega
    | .inr (.inl x) => simp [mx_w, mx_args]; omega
    | .inr (.inr x) => simp [mx_w, mx_args]; omega
theorem mx_args_get (ρ : mx_Ad → Nat) : ∀ (as : List mx_V) (j i : Nat) (v : mx_V), (mx_args as)[i]? = some (some v) → (j + i, mx_tv ρ v) ∈ lv_args j (as.map (mx_tv ρ)) ∧ v ∈ as := by
  intro as
  induction as with
  | nil =>
    intro j i v h
    simp [mx_args] at h
  | cons w as ih =>
    intro j i v h
    rw [List.map_cons]
    simp only [lv_args, mx_tv_cat]
    match w, h with
    | .inl x, h =>
      match i, h with
      | 0, h =>
        simp [mx_args] at h
        subst h
        exact ⟨List.mem_cons_self, List.mem_cons_self⟩
      | i + 1, h =>
        simp only [mx_args, List.getElem?_cons_succ] at h
        have h2 := ih (j + 1) i v h
        refine ⟨List.mem_cons_of_mem _ ?_, List.mem_cons_of_mem _ h2.2⟩
        rw [if_neg (by simp [mx_w]), show j + (i + 1) = j + 1 + i by omega]
        exact h2.1
    | .inr (.inr x), h =>
      match i, h with
      | 0, h =>
        simp [mx_args] at h
        subst h
        exact ⟨List.mem_cons_self, List.mem_cons_self⟩
      | i + 1, h =>
        simp only [mx_args, List.getElem?_cons_succ] at h
        have h2 := ih (j + 1) i v h
        refine ⟨List.mem_cons_of_mem _ ?_, List.mem_cons_of_mem _ h2.2⟩
        rw [if_neg (by simp [mx_w]), show j + (i + 1) = j + 1 + i by omega]
        exact h2.1
    | .inr (.inl x), h =>
      match i, h with
      | 0, h =>
        simp [mx_args] at h
        subst h
        exact ⟨List.mem_cons_self, List.mem_cons_self⟩
      | 1, h => simp [mx_args] at h
      | i + 2, h =>
        simp only [mx_args, List.getElem?_cons_succ] at h
        have h2 := ih (j + 2) i v h
        refine ⟨List.mem_cons_of_mem _ ?_, List.mem_cons_of_mem _ h2.2⟩
        rw [if_pos (by simp [mx_w]), show j + (i + 2) = j + 2 + i by omega]
        exact h2.1
theorem mx_ent_get {ρ : mx_Ad → Nat} {y : Nat} {as : List mx_V} {i : Nat} {v : mx_V} (h : (mx_ent y as)[i]? = some (some v)) : (i, mx_tv ρ v) ∈ lv_args 0 (as.map (mx_tv ρ)) ∧ v ∈ as := by
  unfold mx_ent at h
  rw [List.getElem?_append] at h
  split at h
  · have h2 := mx_args_get ρ as 0 i v h
    rw [Nat.zero_add] at h2
    exact h2
  · have hm := List.mem_of_getElem? h
    rw [List.mem_replicate] at hm
    cases hm.2
set_option maxHeartbeats 4000000 in
/-- a method's contract, out of its run -/
theorem mx_metOf {n : Nat} (ih : mx_Wk n) {d y : Nat} {as : List mx_V} {σ : mx_Hp} {v : Option mx_V} {σ' : mx_Hp} (h : mx_ev n d y 0 (mx_ent y as) [] σ = some (v, σ')) (hy : y < mx_NM) (hlen : (mx_args as).length ≤ mx_mL y) (l : Launch) (D : mx_D) (z0 : Nat) (ρ : mx_Ad → Nat) :
    Met l (mx_my y) (mx_wsy y) (mx_rm d σ σ') (mx_Pc D z0 ρ σ as) (mx_Qc D z0 ρ σ v σ') (mx_K σ' - mx_K σ) (mx_Z σ' - mx_Z σ) (fun q => z0 ≤ q) := by
  obtain ⟨hm1, hm2, hm3, hm4, hm5, hm6, hm7, hm8, hm9, hm10, hm11⟩ := mx_meth_ok hy
  have hKm := mx_ev_K n h
  refine mx_ofW (cc := mx_mb y) (maxL := mx_mL y) (ret := mx_mr y) hm2 rfl ?_
  intro p e s m args below meth c s₁ B hml hv
  obtain ⟨rfl, hRep, hSW, hvk, hz⟩ := hv
  have hx := B.exec
  have hb := B.bytes
  have hr := B.returns
  have hlocks := B.notSynchronized
  have hts := atoms_spec (ws := mx_wsy y) B.pre
  have hown : s.vm.findClass (mx_own (mx_mc y)) = some m.cls := by
    rw [hm9]
    exact findClass_of_methodNamed B.named
  have hnm : meth.name = (mx_my y).name := (name_of_methodNamed B.named B.method).1
  rw [lg_entry_eq]
  have hl := lv_entry (as.map (mx_tv ρ)) (n := mx_mL y) (by rw [mx_args_len]; exact hlen)
  generalize (lg_sl (as.map (mx_tv ρ)) ++ List.replicate (mx_mL y - (lg_sl (as.map (mx_tv ρ))).length) Slot.unset).toArray = ls at hl ⊢
  have hA : mx_At D z0 (mx_K σ) (mx_Z σ) (mx_mL y) ρ σ (mx_ent y as) [] s.heap [] 0 0 ls :=
    ⟨hRep, ⟨hl.1, hl.2.1, fun i w hw _ => hl.2.2 _ (mx_ent_get hw).1⟩, ⟨fun w hw => (by cases hw), fun i w hw => hvk w (mx_ent_get (ρ := ρ) hw).2⟩, fun q hq => (by cases hq), Nat.zero_add _, Nat.zero_add _, hz⟩
  have Cx : mx_Cx p s m (as.map (mx_tv ρ)).toArray meth c (headSpec (mx_wsy y) (mx_rm d σ σ')).room D y d :=
    ⟨hx, hb, hml, hown, fun w hw => hts w (List.mem_cons_of_mem _ hw), hSW, fun hi => by rw [hnm]; exact hm8 hi, Nat.le_refl _, Nat.le_refl _⟩
  refine ih d y 0 (mx_ent y as) [] σ v σ' h p l e _ s m _ below meth c s.heap [] 0 0 _ ls D z0 (mx_K σ) (mx_Z σ) ρ Cx hA ?_ ?_ ?_
  · show mx_K σ' ≤ (mx_K σ' - mx_K σ) + mx_K σ
    omega
  · show mx_Z σ' ≤ (mx_Z σ' - mx_Z σ) + mx_Z σ
    omega
  · intro ρ' pc' ls' H' locs' cells' slots' L' hA' hE hR
    obtain ⟨r1, r2, r3, r4, r5, r6, r7⟩ := hA'
    have e1 : cells' = mx_K σ' - mx_K σ := by omega
    have e2 : slots' = mx_Z σ' - mx_Z σ := by omega
    subst e1
    subst e2
    have hQ : ∀ t : State, t.heap = H' → s.WarmedH t.vm → mx_Qc D z0 ρ σ v σ' (as.map (mx_tv ρ)).toArray s (.returned (v.map (mx_tv ρ'))) t := fun t ht _ => ⟨ρ', rfl, by rw [ht]; exact r1, hE, fun w hw => r3.1 w (by rw [hw]; exact List.mem_cons_self), by rw [ht]; exact r7⟩
    rcases hR with ⟨rfl, h2, h3⟩ | ⟨x, rfl, h2, h3⟩ | ⟨x, rfl, h2, h3⟩ | ⟨x, rfl, h2, h3⟩
    · exact W.vret hx hb (hr.trans h2) hQ r4 h3
    · rcases h2 with h2 | ⟨h2, h4⟩
      · exact W.iret hx hb (hr.trans h2) hQ r4 h3
      · exact W.zret hx hb (hr.trans h2) (by rcases h4 with rfl | rfl <;> decide) hQ r4 h3
    · exact W.lret hx hb (hr.trans h2) hQ r4 h3
    · rcases h2 with ⟨nm, h2⟩ | ⟨t, h2⟩
      · refine W.aret hx hb (hr.trans h2) (Or.inl ⟨nm, rfl⟩) ?_ hQ r4 h3
        cases x with
        | none => exact Or.inl rfl
        | some a => exact Or.inr ⟨_, rfl⟩
      · refine W.aret hx hb (hr.trans h2) (Or.inr ⟨t, rfl⟩) ?_ hQ r4 h3
        cases x with
        | none => exact Or.inl rfl
        | some a => exact Or.inr ⟨_, rfl⟩
theorem mx_blind (D : mx_D) (z0 : Nat) (ρ : mx_Ad → Nat) (σ : mx_Hp) (as : List mx_V) : FrameBlind (mx_Pc D z0 ρ σ as) := fun a U g mk h => ⟨h.1, h.2.1, h.2.2.1.calling g mk a, h.2.2.2.1, h.2.2.2.2⟩
/-- behind a call -/
theorem mx_callW {p : Program} {l : Launch} {e : Env} {R : Room} {s : State} {m : MethodId} {args : Array Value} {below : List Frame} {meth : Method} {c : Code} {H : Heap} {locs : List Loc} {cells slots mc ms : Nat} {Q : State → Prop} {pc : Nat} {ls : Array Slot} {D : mx_D} {z0 : Nat} {ρ : mx_Ad → Nat} {σ σ1 : mx_Hp} {v : Option mx_V} {st0 rest : List Value} {a : Array Value}
    (hrun : va_Run p l e R s m args below meth c H locs cells slots mc ms (F0 m pc ls st0) rest (mx_Qc D z0 ρ σ v σ1 a) (fun q => z0 ≤ q)) (hloc : ∀ q ∈ locs, z0 ≤ q.base)
    (kk : ∀ (ρ' : mx_Ad → Nat) (H' : Heap) (locs' : List Loc), mx_Rep D z0 ρ' σ1 H' → mx_Ext ρ σ ρ' σ1 → (∀ w, v = some w → mx_vk σ1 w) → (∀ q ∈ locs', z0 ≤ q.base) → z0 ≤ H'.size → W p l e R s m args below meth c H' locs' (cells + mc) (slots + ms) Q (F0 m (pc + 3) ls ((v.map (mx_tv ρ')).toList ++ rest))) :
    W p l e R s m args below meth c H locs cells slots Q (F0 m pc ls st0) := by
  intro T hT X
  obtain ⟨w, st₀, t, T', Lc, h0, X', hL, e1, e2, ⟨ρ', hv, hRep, hE, hvk, hz⟩, hgo⟩ := hrun T hT X
  cases hv
  obtain ⟨t2, a1, b1⟩ := kk ρ' T'.heap (locs ++ Lc) (by rw [e1]; exact hRep) hE hvk (fun q hq => by
    rcases List.mem_append.mp hq with h | h
    · exact hloc q h
    · exact hL q h) (by rw [e1]; exact hz) T' rfl X'
  exact ⟨t2, hgo t2 a1, b1⟩
set_option maxHeartbeats 4000000 in
/-- THE ABSTRACT MACHINE IS RIGHT -/
theorem mx_walk : ∀ n : Nat, mx_Wk n := by
  intro n
  induction n with
  | zero =>
    intro d mid pc L st σ v σ' h
    simp only [mx_ev] at h
    cases h
  | succ n ih =>
    intro d mid pc L st σ v σ' h p l e R s m args below meth c H locs cells slots Q ls D z0 K0 Z0 ρ Cx hA hKe hZe fin
    rcases mx_ev_i h with ⟨i, pc1, L1, st1, σ1, h1, h2, h3⟩ | ⟨i, y, as, pc1, r, d1, v1, σ1, rfl, h1, h2, h3, h4, h5⟩ | ⟨i, h1, h2, rfl⟩
    · have hm := mx_ev_K n h3
      exact mx_stp Cx h1 h2 hA (Nat.le_trans hm.1 hKe) (Nat.le_trans hm.2 hZe) (fun ρ1 ls1 H1 locs1 cells1 slots1 hA1 hE1 => ih d mid pc1 L1 st1 σ1 v σ' h3 p l e R s m args below meth c H1 locs1 cells1 slots1 Q ls1 D z0 K0 Z0 ρ1 Cx hA1 hKe hZe (fun ρ2 pc2 ls2 H2 locs2 cells2 slots2 L2 hA2 hE2 => fin ρ2 pc2 ls2 H2 locs2 cells2 slots2 L2 hA2 (hE1.tr hE2)))
    · obtain ⟨hx, hb, hml, hown, hts, hSW, hini, hfr, hlo⟩ := id Cx
      obtain ⟨rfl, hwd, idx, nst, hcal, hkind⟩ := mx_exec_C h1 h2
      obtain ⟨hy, hcin, hw1, hw2⟩ := mx_cal_ok hcal
      obtain ⟨hm1, hm2, hm3, hm4, hm5, hm6, hm7, hm8, hm9, hm10, hm11⟩ := mx_meth_ok hy
      have hk1 := mx_ev_K n h4
      have hk2 := mx_ev_K n h5
      obtain ⟨q1, q2, q3, q4, q5, q6, q7⟩ := id hA
      have hM := mx_metOf ih h4 hy h3 l D z0 ρ
      have hasF : (∀ x ∈ as, mx_vk σ x) ∧ (∀ x ∈ r, x ∈ st) ∧ (mx_r (none) = mx_r none) := by
        refine ⟨?_, ?_, rfl⟩
        · rcases hkind with ⟨-, -, hp⟩ | ⟨-, -, -, bs, g, j, -, rfl, hp⟩ | ⟨-, -, -, bs, a, rfl, hp⟩
          · obtain ⟨xs, e1, -, e3⟩ := mx_pop_i _ _ _ hp
            rw [List.append_nil] at e1
            subst e1
            intro x hx2
            exact q3.1 x (by rw [e3]; simp [hx2])
          · obtain ⟨xs, e1, -, e3⟩ := mx_pop_i _ _ _ hp
            rw [List.append_nil] at e1
            subst e1
            intro x hx2
            refine q3.1 x ?_
            rw [e3]
            rcases List.mem_cons.mp hx2 with rfl | h9
            · simp
            · simp [h9]
          · obtain ⟨xs, e1, -, e3⟩ := mx_pop_i _ _ _ hp
            rw [List.append_nil] at e1
            subst e1
            intro x hx2
            refine q3.1 x ?_
            rw [e3]
            rcases List.mem_cons.mp hx2 with rfl | h9
            · simp
            · simp [h9]
        · rcases hkind with ⟨-, -, hp⟩ | ⟨-, -, -, bs, g, j, -, rfl, hp⟩ | ⟨-, -, -, bs, a, rfl, hp⟩
          · obtain ⟨xs, -, -, e3⟩ := mx_pop_i _ _ _ hp
            intro x hx2
            rw [e3]
            simp [hx2]
          · obtain ⟨xs, -, -, e3⟩ := mx_pop_i _ _ _ hp
            intro x hx2
            rw [e3]
            simp [hx2]
          · obtain ⟨xs, -, -, e3⟩ := mx_pop_i _ _ _ hp
            intro x hx2
            rw [e3]
            simp [hx2]
      have hpre : ∀ U : State, U.heap = H → s.WarmedH U.vm → mx_Pc D z0 ρ σ as ((as.map (mx_tv ρ)).toArray) U := fun U hU hW => ⟨rfl, by rw [hU]; exact q1, hSW.warm hW, hasF.1, by rw [hU]; exact q7⟩
      have hroom : (mx_rm d1 σ σ1).frames + 1 ≤ R.frames ∧ 8 + (mx_mL y + 11) + (mx_rm d1 σ σ1).locals ≤ R.locals := by
        refine ⟨?_, ?_⟩
        · show d1 + 1 + 1 ≤ R.frames
          exact hfr
        · show 8 + (mx_mL y + 11) + (d1 + 1) * 64 ≤ R.locals
          omega
      have hbud : cells + (mx_K σ1 - mx_K σ) ≤ R.cells ∧ slots + (mx_Z σ1 - mx_Z σ) ≤ R.slots := by
        omega
      have hwdr : 2 * (F0 m pc ls (st.map (mx_tv ρ))).monitorRoom + ((r.map (mx_tv ρ)).map fun v => v.category).sum ≤ 8 := by
        rw [mx_wd_map]
        show 2 * 0 + mx_wd r ≤ 8
        omega
      have S : CallFix p m c (mx_mb mid) (mx_mL mid) s args mx_GT (mx_own (mx_mc mid)) := ⟨hx, hb, hml, hown, hts⟩
      have kk : ∀ (ρ' : mx_Ad → Nat) (H' : Heap) (locs' : List Loc), mx_Rep D z0 ρ' σ1 H' → mx_Ext ρ σ ρ' σ1 → (∀ w, v1 = some w → mx_vk σ1 w) → (∀ q ∈ locs', z0 ≤ q.base) → z0 ≤ H'.size → W p l e R s m args below meth c H' locs' (cells + (mx_K σ1 - mx_K σ)) (slots + (mx_Z σ1 - mx_Z σ)) Q (F0 m (pc + 3) ls ((v1.map (mx_tv ρ')).toList ++ r.map (mx_tv ρ))) := by
        intro ρ' H' locs' hR' hE' hv' hl' hz'
        have hF0 := q3.st (st' := r) (fun w hw => Or.inl (hasF.2.1 w hw))
        have hF := hF0.mv hE'
        have hF1 : mx_Fk σ1 L (mx_psh v1 r) := by
          cases v1 with
          | none => exact hF.1
          | some w => exact hF.1.st (mx_m0 (hv' w rfl))
        have hA1 : mx_At D z0 K0 Z0 (mx_mL mid) ρ' σ1 L (mx_psh v1 r) H' locs' (cells + (mx_K σ1 - mx_K σ)) (slots + (mx_Z σ1 - mx_Z σ)) ls := ⟨hR', q2.mv q3 hE', hF1, hl', by omega, by omega, hz'⟩
        have go := ih (d1 + 1) mid (pc + 3) L (mx_psh v1 r) σ1 v σ' h5 p l e R s m args below meth c H' locs' _ _ Q ls D z0 K0 Z0 ρ' Cx hA1 hKe hZe (fun ρ2 pc2 ls2 H2 locs2 cells2 slots2 L2 hA2 hE2 => fin ρ2 pc2 ls2 H2 locs2 cells2 slots2 L2 hA2 (hE'.tr hE2))
        have est : (mx_psh v1 r).map (mx_tv ρ') = (v1.map (mx_tv ρ')).toList ++ r.map (mx_tv ρ) := by
          cases v1 with
          | none => exact hF.2
          | some w =>
            show mx_tv ρ' w :: r.map (mx_tv ρ') = _
            rw [hF.2]
            rfl
        rw [est] at go
        exact go
      rcases hkind with ⟨hs, hdec, hp⟩ | ⟨hs, hni, hdec, bs, g, j, hg, rfl, hp⟩ | ⟨hs, hni, hdec, bs, a, rfl, hp⟩
      · obtain ⟨xs, e1, e2, e3⟩ := mx_pop_i _ _ _ hp
        rw [List.append_nil] at e1
        subst e1
        have hstk : (F0 m pc ls (st.map (mx_tv ρ))).stack = (as.map (mx_tv ρ)).reverse ++ r.map (mx_tv ρ) := by
          show st.map (mx_tv ρ) = _
          rw [e3, List.map_append, List.map_reverse]
        cases nst with
        | false => exact mx_callW (va_runS S hM ⟨callB_of (mx_mn y) hts (mx_good y hy) rfl rfl rfl (hts _ hcin) (hts _ (hw1 rfl)) ⟨hm3.1, hm3.2, hm4⟩ hroom, hts _ (hm5 hs)⟩ ⟨mx_blind D z0 ρ σ as, hpre⟩ rfl (by rw [List.length_map]; exact e2) q2.1 hstk hwdr hdec hbud) q4 kk
        | true =>
          obtain ⟨host, hh⟩ := hw2 rfl
          exact mx_callW (va_runSN S hM ⟨va_cnB (mx_mn y) hts (mx_good y hy) rfl rfl rfl (mx_nmU hSW hh) (hts _ hcin) ⟨hm3.1, hm3.2, hm4⟩ hroom, hts _ (hm5 hs), trivial⟩ ⟨mx_blind D z0 ρ σ as, hpre⟩ rfl (by rw [List.length_map]; exact e2) q2.1 hstk hwdr hdec hbud) q4 kk
      · obtain ⟨xs, e1, e2, e3⟩ := mx_pop_i _ _ _ hp
        rw [List.append_nil] at e1
        subst e1
        obtain ⟨qc, hqc⟩ := hm11 hs
        have hstk : (F0 m pc ls (st.map (mx_tv ρ))).stack = (bs.map (mx_tv ρ)).reverse ++ .ref (ρ (g, mx_mc y, j)) :: r.map (mx_tv ρ) := by
          show st.map (mx_tv ρ) = _
          rw [e3, List.map_append, List.map_reverse]
          rfl
        have hak : mx_ok σ (g, mx_mc y, j) := hasF.1 _ List.mem_cons_self
        have hcn : (mx_my y).cls = qc.1 := by rw [← hm9]; exact (mx_cls_ok hqc).2.2.2.2.1
        have hrecv : ∃ cellB : Cell, H[ρ (g, mx_mc y, j)]? = some cellB ∧ cellB.vm.isStatics = false ∧ s.vm.findClass (mx_my y).cls = some cellB.cls := by
          obtain ⟨cell, c1, c2, c3, -⟩ := mx_objc q1 hak hg hqc
          exact ⟨cell, c1, by rw [c3]; rfl, by rw [c2, hcn]; exact (hSW.1.1 _ qc hqc).2.1⟩
        cases nst with
        | false => exact mx_callW (va_runV S hM ⟨callB_of (mx_mn y) hts (mx_good y hy) rfl rfl rfl (hts _ hcin) (hts _ (hw1 rfl)) ⟨hm3.1, hm3.2, hm4⟩ hroom, hts _ (hm6 hs), hts _ (hm7 hs hni)⟩ ⟨mx_blind D z0 ρ σ _, hrecv, hpre⟩ rfl (by rw [List.length_map]; exact e2) q2.1 hstk hwdr hdec hbud) q4 kk
        | true =>
          obtain ⟨host, hh⟩ := hw2 rfl
          exact mx_callW (va_runVN S hM ⟨va_cnB (mx_mn y) hts (mx_good y hy) rfl rfl rfl (mx_nmU hSW hh) (hts _ hcin) ⟨hm3.1, hm3.2, hm4⟩ hroom, hts _ (hm6 hs), hts _ (hm7 hs hni)⟩ ⟨mx_blind D z0 ρ σ _, hrecv, hpre⟩ rfl (by rw [List.length_map]; exact e2) q2.1 hstk hwdr hdec hbud) q4 kk
      · obtain ⟨xs, e1, e2, e3⟩ := mx_pop_i _ _ _ hp
        rw [List.append_nil] at e1
        subst e1
        have hstk : (F0 m pc ls (st.map (mx_tv ρ))).stack = (bs.map (mx_tv ρ)).reverse ++ .ref (ρ a) :: r.map (mx_tv ρ) := by
          show st.map (mx_tv ρ) = _
          rw [e3, List.map_append, List.map_reverse]
          rfl
        have hret := (mx_init_ok hy hni).1
        have hM2 := hM
        have hcB := callB_of (own := mx_own (mx_mc mid)) (index := idx) (R := R) (rm := mx_rm d1 σ σ1) (mc := mx_K σ1 - mx_K σ) (ms := mx_Z σ1 - mx_Z σ) (ret := none) (ws' := mx_GT) (bytes := mx_mb y) (maxL := mx_mL y) (mx_mn y) hts (mx_good y hy) (by unfold mx_wsy; rw [hret]) rfl rfl (hts _ hcin)
        cases nst with
        | false => exact mx_callW (va_runI S hM ⟨hcB (hts _ (hw1 rfl)) ⟨hm3.1, hm3.2, hm4⟩ hroom, (mx_init_ok hy hni).2, hts _ (hm6 hs)⟩ ⟨mx_blind D z0 ρ σ _, hpre⟩ rfl (by rw [List.length_map]; exact e2) q2.1 hstk hwdr hdec hbud) q4 kk
        | true =>
          obtain ⟨host, hh⟩ := hw2 rfl
          exact mx_callW (va_runIN S hM ⟨va_cnB (ret := none) (ws' := mx_GT) (mx_mn y) hts (mx_good y hy) (by unfold mx_wsy; rw [hret]) rfl rfl (mx_nmU hSW hh) (hts _ hcin) ⟨hm3.1, hm3.2, hm4⟩ hroom, (mx_init_ok hy hni).2, hts _ (hm6 hs)⟩ ⟨mx_blind D z0 ρ σ _, hpre⟩ rfl (by rw [List.length_map]; exact e2) q2.1 hstk hwdr hdec hbud) q4 kk
    · obtain ⟨hR, rfl⟩ := mx_exec_R h1 h2
      exact fin ρ pc ls H locs cells slots L hA mx_Ext.rf hR
end
section
/-! runs of the abstract machine, from their ends -/
theorem mx_ev_up : ∀ (n : Nat) {d d2 mid pc : Nat} {L : mx_L} {st : List mx_V} {σ : mx_Hp} {o : Option mx_V × mx_Hp}, mx_ev n d mid pc L st σ = some o → d ≤ d2 → ∀ k, mx_ev (n + k) d2 mid pc L st σ = some o := by
  intro n
  induction n with
  | zero =>
    intro d d2 mid pc L st σ o h
    simp only [mx_ev] at h
    cases h
  | succ n ih =>
    intro d d2 mid pc L st σ o h hd k
    rw [show n + 1 + k = (n + k) + 1 by omega]
    simp only [mx_ev] at h ⊢
    cases hs : mx_step mid pc L st σ with
    | none =>
      rw [hs] at h
      cases h
    | some x =>
      rw [hs] at h
      match x, h with
      | .inl (pc1, L1, st1, σ1), h => exact ih h hd k
      | .inr (.inr v), h => exact h
      | .inr (.inl (y, as, pc1, r)), h =>
        match d, d2, h, hd with
        | 0, _, h, _ => cases h
        | d1 + 1, 0, h, hd => omega
        | d1 + 1, d3 + 1, h, hd =>
          simp only at h ⊢
          obtain ⟨hb, h⟩ := mx_bif h rfl
          rw [hb]
          simp only [cond_true]
          cases hc : mx_ev n d1 y 0 (mx_ent y as) [] σ with
          | none =>
            rw [hc] at h
            cases h
          | some z =>
            rw [hc] at h
            rw [ih hc (by omega) k]
            obtain ⟨v1, σ1⟩ := z
            exact ih h hd k
def mx_WP (d mid pc : Nat) (L : mx_L) (st : List mx_V) (σ : mx_Hp) (Q : Option mx_V → mx_Hp → Prop) : Prop := ∃ n v σ', mx_ev n d mid pc L st σ = some (v, σ') ∧ Q v σ'
section MXP
variable {d mid pc : Nat} {L : mx_L} {st : List mx_V} {σ : mx_Hp} {Q : Option mx_V → mx_Hp → Prop}
theorem mx_WP.mono {Q' : Option mx_V → mx_Hp → Prop} (h : mx_WP d mid pc L st σ Q) (hq : ∀ v σ', Q v σ' → Q' v σ') : mx_WP d mid pc L st σ Q' := by
  obtain ⟨n, v, σ', h1, h2⟩ := h
  exact ⟨n, v, σ', h1, hq v σ' h2⟩
theorem mx_WP.up {d2 : Nat} (h : mx_WP d mid pc L st σ Q) (hd : d ≤ d2) : mx_WP d2 mid pc L st σ Q := by
  obtain ⟨n, v, σ', h1, h2⟩ := h
  exact ⟨n, v, σ', mx_ev_up n h1 hd 0, h2⟩
theorem mx_WP.next {pc' : Nat} {L' : mx_L} {st' : List mx_V} {σ' : mx_Hp} (hs : mx_step mid pc L st σ = some (.inl (pc', L', st', σ'))) (h : mx_WP d mid pc' L' st' σ' Q) : mx_WP d mid pc L st σ Q := by
  obtain ⟨n, v, σ2, h1, h2⟩ := h
  refine ⟨n + 1, v, σ2, ?_, h2⟩
  simp only [mx_ev, hs]
  exact h1
theorem mx_WP.ret {v : Option mx_V} (hs : mx_step mid pc L st σ = some (.inr (.inr v))) (h : Q v σ) : mx_WP d mid pc L st σ Q := by
  refine ⟨1, v, σ, ?_, h⟩
  simp only [mx_ev, hs]
theorem mx_WP.call {y : Nat} {as : List mx_V} {pc' : Nat} {r : List mx_V} (hs : mx_step mid pc L st σ = some (.inr (.inl (y, as, pc', r)))) (hl : Nat.ble (mx_args as).length (mx_mL y) = true) (h : mx_WP d y 0 (mx_ent y as) [] σ (fun v σ' => mx_WP (d + 1) mid pc' L (mx_psh v r) σ' Q)) : mx_WP (d + 1) mid pc L st σ Q := by
  obtain ⟨n, v, σ1, h1, n2, v2, σ2, h2, h3⟩ := h
  refine ⟨n + n2 + 1, v2, σ2, ?_, h3⟩
  simp only [mx_ev, hs, hl, cond_true]
  rw [mx_ev_up n h1 (Nat.le_refl _) n2, Nat.add_comm n n2]
  exact mx_ev_up n2 h2 (Nat.le_refl _) n
/-- some steps at once -/
def mx_go : Nat → Nat → Nat → mx_L → List mx_V → mx_Hp → Option mx_St
  | 0, _, pc, L, st, σ => some (pc, L, st, σ)
  | n + 1, mid, pc, L, st, σ => match mx_step mid pc L st σ with
    | some (.inl (pc', L', st', σ')) => mx_go n mid pc' L' st' σ'
    | _ => none
theorem mx_WP.go : ∀ (n : Nat) {pc : Nat} {L : mx_L} {st : List mx_V} {σ : mx_Hp} {pc' : Nat} {L' : mx_L} {st' : List mx_V} {σ' : mx_Hp}, mx_go n mid pc L st σ = some (pc', L', st', σ') → mx_WP d mid pc' L' st' σ' Q → mx_WP d mid pc L st σ Q := by
  intro n
  induction n with
  | zero =>
    intro pc L st σ pc' L' st' σ' h k
    simp only [mx_go] at h
    cases h
    exact k
  | succ n ih =>
    intro pc L st σ pc' L' st' σ' h k
    simp only [mx_go] at h
    split at h
    · rename_i pc1 L1 st1 σ1 hs
      exact mx_WP.next hs (ih h k)
    · cases h
end MXP
end
section
/-! THE CLAIM OUT OF ONE WALK OF THE LAW'S BODY. Your part is whole_start (and what it stands on); all else here is the same for every law, but numbers. -/
def R_law : String := "PluginHallLaw"
def lw_P (b : Addr) (xs : List Int32) (args : Array Value) (s : State) : Prop := args = #[.ref b] ∧ s.IntsAt b xs ∧ xs.length ≤ 2048 ∧ (Jvm.Cond.and given_1 narrow_1).before args s = true
def lw_Q (_ : Array Value) (s : State) (o : Outcome) (t : State) : Prop := o = .returned (some (.int 1)) ∧ Framed s o t [] 600000 7302250
def lw_Z (below : List Frame) (a : Array Value) (s : State) : State → Prop := fun t => ∃ o, t.status = .running ∧ Ended t below o ∧ lw_Q a s o t
/-- the law's own end, with 1 on the stack, nothing written that was there before, its room as the claim has it -/
theorem lw_ret {p : Program} {l : Launch} {e : Env} {s : State} {m : MethodId} {below : List Frame} {meth : Method} {c : Code} {b : Nat} (hx : p.tables.exec = Jvm.exec) (hb : c.code = code) (hr : meth.sig.returnType = ret) (hlocks : meth.locks = false) {pc : Nat} {H : Heap} {ls : Array Slot} (hdg : decode code pc = .ok (.ireturn, 1)) : W p l e room_1 s m #[Value.ref b] below meth c H [] 600000 7302250 (lw_Z below #[Value.ref b] s) (F0 m pc ls [.int 1]) := by
  intro T hT X
  obtain ⟨fs, hret, hrun, hended, hW, hframe⟩ := X.leave (v := some (.int 1)) (hlocks := hlocks) (fun h => by rw [hr] at h; cases h)
  have hmeth' : T.vm.method? m = some meth := X.method'
  refine ⟨T.setFrames fs, ?_, .returned (some (.int 1)), hrun, hended, rfl, ⟨_, rfl⟩, hW, hframe⟩
  jvm_step X.here [X.here.top, hx, hb, hdg, hmeth', hr, ret, narrow_b1]
  (try refine ⟨rfl, ?_⟩); (try refine ⟨rfl, ?_⟩)
  first | (intro acts; rw [hret _ acts rfl rfl rfl]) | rw [hret _ _ rfl rfl rfl]
  exact Steps.refl _
/-- what holds at the law's entry: the machine, the code, the tables' words (any of lw_tbl by 'hts w (by decide +kernel)'), the script of L ints xs at the cell b, what the Statement gives of the start (any of its parts by flat_of_before) -/
def lw_At (p : Program) (s : State) (m : MethodId) (meth : Method) (c : Code) (b L : Nat) (xs : Nat → Int32) : Prop :=
  p.tables.exec = Jvm.exec ∧ c.code = code ∧ meth.sig.returnType = ret ∧ c.maxLocals = 4 ∧ s.vm.findClass R_law = some m.cls ∧ (∀ w ∈ lw_tbl, w.before #[Value.ref b] s = true) ∧ va_X b L xs s s.heap ∧ b < s.heap.size ∧ meth.locks = false ∧ (Jvm.Cond.and given_1 narrow_1).before #[Value.ref b] s = true
set_option maxRecDepth 20000 in
theorem mx_nf_in : ∀ e ∈ mx_nf, (fun (w : String × Nat × String × String × String × String) => Cond.fieldLinkNest w.1 w.2.1 w.2.2.1 w.2.2.2.1 w.2.2.2.2.1 w.2.2.2.2.2 ∈ lw_tbl) e := mx_fc (mx_t1 35 rfl) (mx_fc (mx_t1 37 rfl) (mx_fc (mx_t1 39 rfl) (mx_fc (mx_t1 42 rfl) (mx_fc (mx_t1 44 rfl) (mx_fc (mx_t1 47 rfl) (mx_fc (mx_t1 49 rfl) (mx_fc (mx_t1 73 rfl) (mx_fc (mx_t1 75 rfl) (mx_fc (mx_t1 76 rfl) (mx_fc (mx_t1 78 rfl) (mx_fc (mx_t1 79 rfl) (mx_fc (mx_t1 102 rfl) (mx_fc (mx_t1 104 rfl) (mx_fc (mx_t1 106 rfl) (mx_fc (mx_t1 107 rfl) (mx_fc (mx_t1 108 rfl) (mx_fc (mx_t1 109 rfl) (mx_fc (mx_t1 111 rfl) (mx_fc (mx_t1 112 rfl) (mx_fc (mx_t1 114 rfl) (mx_fc (mx_t1 115 rfl) (mx_fc (mx_t1 116 rfl) (mx_fc (mx_t1 117 rfl) (mx_fc (mx_t1 119 rfl) (mx_fc (mx_t1 120 rfl) (mx_fc (mx_t1 121 rfl) (mx_fc (mx_t1 159 rfl) (mx_fc (mx_t1 161 rfl) (mx_fc (mx_t1 162 rfl) (mx_fc (mx_t1 196 rfl) (mx_fc (mx_t1 198 rfl) (mx_fc (mx_t1 199 rfl) (mx_fc (mx_t1 202 rfl) (mx_fc (mx_t1 203 rfl) (mx_fc (mx_t1 205 rfl) (mx_fc (mx_t1 206 rfl) (mx_fc (mx_t1 207 rfl) (mx_fc (mx_t1 209 rfl) (mx_fc (mx_t1 211 rfl) (mx_fc (mx_t1 212 rfl) (mx_fc (mx_t1 214 rfl) (mx_fc (mx_t1 215 rfl) (mx_fc (mx_t1 217 rfl) (mx_fc (mx_t1 219 rfl) (mx_fc (mx_t2 12 rfl) (mx_fc (mx_t2 13 rfl) (mx_fc (mx_t2 14 rfl) (mx_fc (mx_t2 23 rfl) (mx_fc (mx_t2 24 rfl) (mx_fc (mx_t2 27 rfl) (mx_fc (mx_t2 43 rfl) (mx_fc (mx_t2 45 rfl) (mx_fc (mx_t2 64 rfl) (mx_fc (mx_t2 67 rfl) (mx_fc (mx_t2 69 rfl) (mx_fc (mx_t2 71 rfl) (mx_f0)))))))))))))))))))))))))))))))))))))))))))))))))))))))))
theorem mx_nm_in : ∀ e ∈ mx_nm, (fun (w : String × Nat × MethodName × String) => Cond.methodLinkNest w.1 w.2.1 w.2.2.1 w.2.2.2 ∈ lw_tbl) e := mx_fc (mx_t2 112 rfl) (mx_fc (mx_t2 215 rfl) (mx_fc (mx_t3 27 rfl) (mx_fc (mx_t3 44 rfl) (mx_fc (mx_t3 194 rfl) (mx_fc (mx_t3 228 rfl) (mx_fc (mx_t4 73 rfl) (mx_f0)))))))
theorem mx_ao_in : ∀ e ∈ mx_ao, (fun (C : String) => Cond.arrayOver (.object C) ∈ lw_tbl) e := mx_fc (mx_t1 140 rfl) (mx_fc (mx_t1 155 rfl) (mx_f0))
theorem mx_inst_ok {ci : Nat} {q : vw_C} (h : mx_cls[ci]? = some q) : Cond.instantiable q.1 q.2.2 ∈ mx_GT := by
  match ci, h with
  | 0, h => cases h; exact (mx_g1 15 rfl rfl)
  | 1, h => cases h; exact (mx_g1 23 rfl rfl)
  | 2, h => cases h; exact (mx_g1 29 rfl rfl)
  | 3, h => cases h; exact (mx_g1 94 rfl rfl)
  | 4, h => cases h; exact (mx_g1 149 rfl rfl)
  | 5, h => cases h; exact (mx_g1 171 rfl rfl)
  | 6, h => cases h; exact (mx_g1 141 rfl rfl)
  | 7, h => cases h; exact (mx_g1 88 rfl rfl)
  | 8, h => cases h; exact (mx_g2 36 rfl rfl)
  | 9, h => cases h; exact (mx_g2 58 rfl rfl)
  | 10, h => cases h; exact (mx_g2 4 rfl rfl)
  | 11, h => cases h; exact (mx_g4 75 rfl rfl)
  | n + 12, h => simp [mx_cls] at h
theorem mx_aoA {s : State} {args : Array Value} {C : String} (h : (Cond.arrayOver (.object C)).before args s = true) : ∃ c : ClassId, ArrOfT s c (.object C) ∧ va_RA s c (.object C) := by
  obtain ⟨comp, c, k, h1, h2, h3, h4, h5⟩ := Cond.arrayOver_spec h
  exact ⟨c, fun n z => ⟨(fun k h => by cases h), k, h3, comp, h4⟩, k, comp, h3, h4, h1, h5⟩
def mx_prim : FieldType → Bool | .object _ => false | _ => true
theorem mx_apA {s : State} {args : Array Value} {ty : FieldType} (hp : mx_prim ty = true) (h : (Cond.arrayClass ty).before args s = true) : ∃ c : ClassId, ArrOfT s c ty ∧ va_RA s c ty := by
  obtain ⟨c, k, comp, h1, h2, h3⟩ := Cond.arrayClass_spec h
  refine ⟨c, fun n z => ⟨(fun k h => by cases h), k, h2, comp, h3⟩, ?_⟩
  cases ty <;> first | exact h1 | cases hp
theorem mx_aty_in {s : State} {args : Array Value} (hts : ∀ w ∈ lw_tbl, w.before args s = true) : ∀ e ∈ mx_aty, (fun (ty : FieldType) => ∃ c : ClassId, ArrOfT s c ty ∧ va_RA s c ty) e := by
  exact mx_fc (mx_apA rfl (hts _ (mx_t1 69 rfl))) (mx_fc (mx_apA rfl (hts _ (mx_t1 70 rfl))) (mx_fc (mx_apA rfl (hts _ (mx_t1 71 rfl))) (mx_fc (mx_aoA (hts _ (mx_t1 155 rfl))) (mx_fc (mx_aoA (hts _ (mx_t1 140 rfl))) (mx_fc (mx_apA rfl (hts _ (mx_t2 56 rfl))) (mx_f0))))))
end
section
/-! the law out of a run of the abstract machine -/
def mx_e0 : mx_Rg := (fun _ _ _ => 0, fun _ _ _ => 0, fun _ _ _ => none, fun _ => 0, fun _ _ => 0)
def mx_s0 (L : Nat) (xs : Nat → Int32) : mx_Hp := (mx_e0, mx_e0, (L, xs), (0, 0))
theorem mx_ok0 {L : Nat} {xs : Nat → Int32} {a : mx_Ad} (h : mx_ok (mx_s0 L xs) a) : a = (2, 63, 0) := by
  obtain ⟨g, t, i⟩ := a
  unfold mx_ok mx_C mx_rg at h
  match g, h with
  | 0, h => simp [mx_s0, mx_e0] at h
  | 1, h => simp [mx_s0, mx_e0] at h
  | 2, h =>
    simp only at h
    by_cases ht : t = 63
    · subst ht
      rw [if_pos rfl] at h
      have : i = 0 := by omega
      subst this
      rfl
    · rw [if_neg ht] at h
      omega
  | n + 3, h => simp at h
set_option maxHeartbeats 4000000 in
theorem mx_start {p : Program} {e : Env} {s : State} {m : MethodId} {below : List Frame} {meth : Method} {c : Code} (l : Launch) {b L : Nat} {xs : Nat → Int32} (C0 : lw_At p s m meth c b L xs)
    (run : mx_WP 1000 168 0 (mx_ent 168 [mx_r (some (2, 63, 0))]) [] (mx_s0 L xs) (fun v σ' => v = some (mx_i 1) ∧ mx_K σ' ≤ 600000 ∧ mx_Z σ' ≤ 7302250)) :
    W p l e room_1 s m #[Value.ref b] below meth c s.heap [] 0 0 (lw_Z below #[Value.ref b] s) (entryFrame m ([Value.ref b] : List Value).toArray 4) := by
  obtain ⟨hx, hb, hr, hml, hown, hts, ⟨scr, hX1, hX2, hX3, hX4, hX5⟩, hbl, hlocks, hgv⟩ := C0
  have hGT : ∀ w ∈ mx_GT, w.before #[Value.ref b] s = true := fun w hw => hts w (List.mem_filter.mp hw).1
  have hkn : ∀ ci : Nat, ∃ (cC : ClassId) (iS : Nat → Nat), ∀ q : vw_C, mx_cls[ci]? = some q → u_Kn s q.1 q.2.1 q.2.2 cC iS := by
    intro ci
    cases hq : mx_cls[ci]? with
    | none => exact ⟨0, fun _ => 0, fun q h => by cases h⟩
    | some q0 =>
      obtain ⟨cC, iS, h⟩ := u_known hGT (mx_cls_ok hq).1 (hGT _ (mx_inst_ok hq))
      refine ⟨cC, iS, fun q h2 => ?_⟩
      cases h2
      exact h
  have har : ∀ ty : FieldType, ∃ cA : ClassId, ty ∈ mx_aty → ArrOfT s cA ty ∧ va_RA s cA ty := by
    intro ty
    by_cases h : ty ∈ mx_aty
    · obtain ⟨cA, h2⟩ := mx_aty_in hts ty h
      exact ⟨cA, fun _ => h2⟩
    · exact ⟨0, fun h2 => absurd h2 h⟩
  obtain ⟨dC, hdC⟩ : ∃ dC : Nat → ClassId, ∀ ci, ∃ iS : Nat → Nat, ∀ q : vw_C, mx_cls[ci]? = some q → u_Kn s q.1 q.2.1 q.2.2 (dC ci) iS := ⟨fun ci => Classical.choose (hkn ci), fun ci => Classical.choose_spec (hkn ci)⟩
  obtain ⟨dI, hdI⟩ : ∃ dI : Nat → Nat → Nat, ∀ ci, ∀ q : vw_C, mx_cls[ci]? = some q → u_Kn s q.1 q.2.1 q.2.2 (dC ci) (dI ci) := ⟨fun ci => Classical.choose (hdC ci), fun ci => Classical.choose_spec (hdC ci)⟩
  obtain ⟨dA, hdA⟩ : ∃ dA : FieldType → ClassId, ∀ ty, ty ∈ mx_aty → ArrOfT s (dA ty) ty ∧ va_RA s (dA ty) ty := ⟨fun ty => Classical.choose (har ty), fun ty => Classical.choose_spec (har ty)⟩
  have hSW : mx_SW (dC, dI, dA, scr) s := ⟨⟨fun ci q hq => hdI ci q hq, fun k q h => by simp at h⟩, hdA, fun w hw => va_Nw.of rfl (hts _ (mx_nf_in w hw)), fun w hw => va_Nw.of rfl (hts _ (mx_nm_in w hw)), fun C hC => va_AO.of (hts _ (mx_ao_in C hC)), hX2⟩
  have hRep : mx_Rep (dC, dI, dA, scr) s.heap.size (fun _ => b) (mx_s0 L xs) s.heap := by
    refine ⟨fun a ha => ?_, fun a a2 ha ha2 _ => (mx_ok0 ha).trans (mx_ok0 ha2).symm, fun a k a2 ha hR => ?_, fun a ha hg => ?_⟩
    · rw [mx_ok0 ha]
      exact ⟨fun _ => ⟨hX1, hX3, hX4, hX5⟩, fun h => absurd h (by decide)⟩
    · rw [mx_ok0 ha] at hR
      cases hR
    · rw [mx_ok0 ha] at hg
      exact absurd hg (by decide)
  obtain ⟨n, v, σ', hev, rfl, hK, hZ⟩ := run
  have hl := lv_entry ([.ref b]) (n := 4) (Nat.le_of_ble_eq_true rfl)
  rw [lg_entry_eq]
  generalize (lg_sl ([.ref b]) ++ List.replicate (4 - (lg_sl ([.ref b])).length) Slot.unset).toArray = ls at hl ⊢
  have hA : mx_At (dC, dI, dA, scr) s.heap.size 0 0 (mx_mL 168) (fun _ => b) (mx_s0 L xs) (mx_ent 168 [mx_r (some (2, 63, 0))]) [] s.heap [] 0 0 ls := by
    refine ⟨hRep, ⟨hl.1, hl.2.1, fun i w hw _ => ?_⟩, ⟨fun w hw => (by cases hw), fun i w hw => ?_⟩, fun q hq => (by cases hq), rfl, rfl, Nat.le_refl _⟩
    · exact hl.2.2 _ (mx_ent_get (ρ := fun _ => b) hw).1
    · have h2 := (mx_ent_get (ρ := fun _ => b) hw).2
      rw [List.mem_singleton.mp h2]
      show 0 < mx_C (mx_s0 L xs) 2 63
      exact Nat.zero_lt_one
  have Cx : mx_Cx p s m #[Value.ref b] meth c room_1 (dC, dI, dA, scr) 168 1000 :=
    ⟨hx, hb, hml, hown, hGT, hSW, (fun h => by cases h), by decide, by decide⟩
  refine mx_walk n 1000 168 0 _ [] _ _ σ' hev p l e room_1 s m _ below meth c s.heap [] 0 0 _ ls (dC, dI, dA, scr) s.heap.size 0 0 (fun _ => b) Cx hA hK hZ ?_
  intro ρ' pc' ls' H' locs' cells' slots' L' hA' hE hR
  obtain ⟨r1, r2, r3, r4, r5, r6, r7⟩ := hA'
  rcases hR with ⟨h1, h2, h3⟩ | ⟨x, h1, h2, h3⟩ | ⟨x, h1, h2, h3⟩ | ⟨x, h1, h2, h3⟩
  · cases h1
  · cases h1
    refine va_forget r4 ?_
    refine W.widen (k := 600000) (n := 7302250) (by omega) (by omega) ?_
    exact lw_ret hx hb hr hlocks h3
  · cases h1
  · cases h1
end
section
/-! rules for branches and arrays -/
section MXR
variable {d mid pc : Nat} {L : mx_L} {r : List mx_V} {σ : mx_Hp} {Q : Option mx_V → mx_Hp → Prop} {x y : Int32} {q p3 : Nat}
theorem mx_WP.bb {b : Bool} {st : List mx_V} (hs : mx_step mid pc L st σ = some (.inl (bif b then q else p3, L, r, σ))) (h1 : b = true → mx_WP d mid q L r σ Q) (h2 : b = false → mx_WP d mid p3 L r σ Q) : mx_WP d mid pc L st σ Q := by
  cases b
  · exact mx_WP.next hs (h2 rfl)
  · exact mx_WP.next hs (h1 rfl)
theorem mx_WP.beq {st : List mx_V} (hs : mx_step mid pc L st σ = some (.inl (bif mx_cd .eq x y then q else p3, L, r, σ))) (h1 : x = y → mx_WP d mid q L r σ Q) (h2 : ¬ x = y → mx_WP d mid p3 L r σ Q) : mx_WP d mid pc L st σ Q := mx_WP.bb hs (fun h => h1 (of_decide_eq_true h)) (fun h => h2 (of_decide_eq_false h))
theorem mx_WP.bne {st : List mx_V} (hs : mx_step mid pc L st σ = some (.inl (bif mx_cd .ne x y then q else p3, L, r, σ))) (h1 : ¬ x = y → mx_WP d mid q L r σ Q) (h2 : ¬ ¬ x = y → mx_WP d mid p3 L r σ Q) : mx_WP d mid pc L st σ Q := mx_WP.bb hs (fun h => h1 (by simpa [mx_cd] using h)) (fun h => h2 (by simpa [mx_cd] using h))
theorem mx_WP.blt {st : List mx_V} (hs : mx_step mid pc L st σ = some (.inl (bif mx_cd .lt x y then q else p3, L, r, σ))) (h1 : x < y → mx_WP d mid q L r σ Q) (h2 : ¬ x < y → mx_WP d mid p3 L r σ Q) : mx_WP d mid pc L st σ Q := mx_WP.bb hs (fun h => h1 (of_decide_eq_true h)) (fun h => h2 (of_decide_eq_false h))
theorem mx_WP.bge {st : List mx_V} (hs : mx_step mid pc L st σ = some (.inl (bif mx_cd .ge x y then q else p3, L, r, σ))) (h1 : y ≤ x → mx_WP d mid q L r σ Q) (h2 : ¬ y ≤ x → mx_WP d mid p3 L r σ Q) : mx_WP d mid pc L st σ Q := mx_WP.bb hs (fun h => h1 (of_decide_eq_true h)) (fun h => h2 (of_decide_eq_false h))
theorem mx_WP.bgt {st : List mx_V} (hs : mx_step mid pc L st σ = some (.inl (bif mx_cd .gt x y then q else p3, L, r, σ))) (h1 : y < x → mx_WP d mid q L r σ Q) (h2 : ¬ y < x → mx_WP d mid p3 L r σ Q) : mx_WP d mid pc L st σ Q := mx_WP.bb hs (fun h => h1 (of_decide_eq_true h)) (fun h => h2 (of_decide_eq_false h))
theorem mx_WP.ble {st : List mx_V} (hs : mx_step mid pc L st σ = some (.inl (bif mx_cd .le x y then q else p3, L, r, σ))) (h1 : x ≤ y → mx_WP d mid q L r σ Q) (h2 : ¬ x ≤ y → mx_WP d mid p3 L r σ Q) : mx_WP d mid pc L st σ Q := mx_WP.bb hs (fun h => h1 (of_decide_eq_true h)) (fun h => h2 (of_decide_eq_false h))
theorem mx_atn {a : mx_Ad} {i : Int32} {k : Nat} (hi : i = nI k) (hk : k < mx_N σ a ∧ mx_N σ a < 2147483648) : mx_at σ a i = true ∧ i.toNatClampNeg = k := by
  subst hi
  have h1 : (nI k).toNatClampNeg = k := nI_clamp (by omega)
  refine ⟨?_, h1⟩
  have h2 : ¬ nI k < 0 := nI_pos (by omega)
  unfold mx_at
  rw [h1, decide_eq_false h2, decide_eq_false (by omega)]
  rfl
theorem mx_WP.ald {f : FieldType → Bool} {a : mx_Ad} {i : Int32} {k : Nat} {ty : FieldType} (hs : mx_step mid pc L (.inl i :: .inr (.inr (some a)) :: r) σ = mx_ald f (pc + 1) L (.inl i :: .inr (.inr (some a)) :: r) σ) (hk : mx_knd a.2.1 = .inr ty) (hf : f ty = true) (hi : i = nI k) (hn : k < mx_N σ a ∧ mx_N σ a < 2147483648) (h : mx_WP d mid (pc + 1) L (mx_rd σ a ty k :: r) σ Q) : mx_WP d mid pc L (.inl i :: .inr (.inr (some a)) :: r) σ Q := by
  obtain ⟨h1, h2⟩ := mx_atn hi hn
  refine mx_WP.next (hs.trans ?_) h
  simp only [mx_ald, hk, hf, h1, Bool.and_self, cond_true, h2]
theorem mx_WP.iald {a : mx_Ad} {i : Int32} {k : Nat} (hi : i = nI k) (hn : k < mx_N σ a ∧ mx_N σ a < 2147483648) (h : mx_WP d mid (pc + 1) L (mx_i (mx_I σ a k) :: r) σ Q) (hs : mx_code mid pc = some .iaload := by rfl) (hk : mx_knd a.2.1 = .inr .int := by rfl) : mx_WP d mid pc L (.inl i :: .inr (.inr (some a)) :: r) σ Q := mx_WP.ald (f := mx_isI) (by unfold mx_step; rw [hs]; rfl) hk rfl hi hn h
theorem mx_WP.bald {a : mx_Ad} {i : Int32} {k : Nat} (hi : i = nI k) (hn : k < mx_N σ a ∧ mx_N σ a < 2147483648) (h : mx_WP d mid (pc + 1) L (mx_i (mx_I σ a k) :: r) σ Q) (hs : mx_code mid pc = some .baload := by rfl) (hk : mx_knd a.2.1 = .inr .byte ∨ mx_knd a.2.1 = .inr .boolean := by first | exact Or.inl rfl | exact Or.inr rfl) : mx_WP d mid pc L (.inl i :: .inr (.inr (some a)) :: r) σ Q := by
  rcases hk with hk | hk
  · exact mx_WP.ald (f := mx_isB) (by unfold mx_step; rw [hs]; rfl) hk rfl hi hn h
  · exact mx_WP.ald (f := mx_isB) (by unfold mx_step; rw [hs]; rfl) hk rfl hi hn h
theorem mx_WP.lald {a : mx_Ad} {i : Int32} {k : Nat} (hi : i = nI k) (hn : k < mx_N σ a ∧ mx_N σ a < 2147483648) (h : mx_WP d mid (pc + 1) L (mx_l (mx_J σ a k) :: r) σ Q) (hs : mx_code mid pc = some .laload := by rfl) (hk : mx_knd a.2.1 = .inr .long := by rfl) : mx_WP d mid pc L (.inl i :: .inr (.inr (some a)) :: r) σ Q := mx_WP.ald (f := mx_isJ) (by unfold mx_step; rw [hs]; rfl) hk rfl hi hn h
theorem mx_WP.aald {a : mx_Ad} {i : Int32} {k : Nat} {C : String} (hi : i = nI k) (hn : k < mx_N σ a ∧ mx_N σ a < 2147483648) (h : mx_WP d mid (pc + 1) L (mx_r (mx_R σ a k) :: r) σ Q) (hs : mx_code mid pc = some .aaload := by rfl) (hk : mx_knd a.2.1 = .inr (.object C) := by rfl) : mx_WP d mid pc L (.inl i :: .inr (.inr (some a)) :: r) σ Q := mx_WP.ald (f := mx_isA) (by unfold mx_step; rw [hs]; rfl) hk rfl hi hn h
theorem mx_WP.iast {a : mx_Ad} {i v : Int32} {k : Nat} (hi : i = nI k) (hn : k < mx_N σ a ∧ mx_N σ a < 2147483648) (h : mx_WP d mid (pc + 1) L r (mx_sI σ a k v) Q) (hs : mx_code mid pc = some .iastore := by rfl) (hk : mx_knd a.2.1 = .inr .int := by rfl) (hg : Nat.blt a.1 2 = true := by rfl) : mx_WP d mid pc L (.inl v :: .inl i :: .inr (.inr (some a)) :: r) σ Q := by
  obtain ⟨h1, h2⟩ := mx_atn hi hn
  refine mx_WP.next ?_ h
  unfold mx_step
  rw [hs]
  show mx_iast (pc + 1) L (.inl v :: .inl i :: .inr (.inr (some a)) :: r) σ = _
  simp only [mx_iast, hk, hg, h1, Bool.and_self, cond_true, h2]
theorem mx_WP.bast {a : mx_Ad} {i v : Int32} {k : Nat} {ty : FieldType} (hi : i = nI k) (hn : k < mx_N σ a ∧ mx_N σ a < 2147483648) (h : mx_WP d mid (pc + 1) L r (mx_sI σ a k (vp_nar ty v)) Q) (hs : mx_code mid pc = some .bastore := by rfl) (hk : mx_knd a.2.1 = .inr ty := by rfl) (hty : ty = .byte ∨ ty = .boolean := by first | exact Or.inl rfl | exact Or.inr rfl) (hg : Nat.blt a.1 2 = true := by rfl) : mx_WP d mid pc L (.inl v :: .inl i :: .inr (.inr (some a)) :: r) σ Q := by
  obtain ⟨h1, h2⟩ := mx_atn hi hn
  refine mx_WP.next ?_ h
  unfold mx_step
  rw [hs]
  show mx_bast (pc + 1) L (.inl v :: .inl i :: .inr (.inr (some a)) :: r) σ = _
  rcases hty with rfl | rfl <;> simp only [mx_bast, hk, hg, h1, Bool.and_self, cond_true, h2]
theorem mx_WP.last {a : mx_Ad} {i : Int32} {v : Int64} {k : Nat} (hi : i = nI k) (hn : k < mx_N σ a ∧ mx_N σ a < 2147483648) (h : mx_WP d mid (pc + 1) L r (mx_sJ σ a k v) Q) (hs : mx_code mid pc = some .lastore := by rfl) (hk : mx_knd a.2.1 = .inr .long := by rfl) (hg : Nat.blt a.1 2 = true := by rfl) : mx_WP d mid pc L (.inr (.inl v) :: .inl i :: .inr (.inr (some a)) :: r) σ Q := by
  obtain ⟨h1, h2⟩ := mx_atn hi hn
  refine mx_WP.next ?_ h
  unfold mx_step
  rw [hs]
  show mx_last (pc + 1) L (.inr (.inl v) :: .inl i :: .inr (.inr (some a)) :: r) σ = _
  simp only [mx_last, hk, hg, h1, Bool.and_self, cond_true, h2]
end MXR
/-! rules for functions out of the code -/
def b2i (b : Bool) : Int32 := bif b then 1 else 0
theorem b2i_01 (b : Bool) : b2i b = 0 ∨ b2i b = 1 := by
  cases b
  · exact Or.inl rfl
  · exact Or.inr rfl
/-- a loop: its body goes on or ends -/
def mx_lp {σ ε : Type} (body : σ → Option (σ ⊕ ε)) : Nat → σ → Option ε
  | 0, _ => none
  | n + 1, s => match body s with
    | none => none
    | some (.inl s') => mx_lp body n s'
    | some (.inr e) => some e
def mx_fu : Nat := 1000
theorem mx_lp_ok {σ ε : Type} {body : σ → Option (σ ⊕ ε)} {P : σ → Prop} {E : ε → Prop} (hb : ∀ s o, body s = some o → Sum.elim P E o → P s) : ∀ n s e, mx_lp body n s = some e → E e → P s := by
  intro n
  induction n with
  | zero =>
    intro s e h
    cases h
  | succ n ih =>
    intro s e h he
    simp only [mx_lp] at h
    cases hs : body s with
    | none => rw [hs] at h; cases h
    | some o =>
      rw [hs] at h
      cases o with
      | inl s' => exact hb s _ hs (ih s' e h he)
      | inr e' =>
        cases h
        exact hb s _ hs he
section MXF
variable {d mid pc : Nat} {L : mx_L} {r : List mx_V} {σ : mx_Hp} {Q : Option mx_V → mx_Hp → Prop} {q p3 : Nat}
theorem mx_WP.zeq {b : Bool} {st : List mx_V} (hs : mx_step mid pc L st σ = some (.inl (bif mx_cd .eq (b2i b) 0 then q else p3, L, r, σ))) (h1 : b = false → mx_WP d mid q L r σ Q) (h2 : b = true → mx_WP d mid p3 L r σ Q) : mx_WP d mid pc L st σ Q := by
  cases b
  · exact mx_WP.next hs (h1 rfl)
  · exact mx_WP.next hs (h2 rfl)
theorem mx_WP.zne {b : Bool} {st : List mx_V} (hs : mx_step mid pc L st σ = some (.inl (bif mx_cd .ne (b2i b) 0 then q else p3, L, r, σ))) (h1 : b = true → mx_WP d mid q L r σ Q) (h2 : b = false → mx_WP d mid p3 L r σ Q) : mx_WP d mid pc L st σ Q := by
  cases b
  · exact mx_WP.next hs (h2 rfl)
  · exact mx_WP.next hs (h1 rfl)
theorem mx_atx {a : mx_Ad} {i : Int32} (h : ¬ (i < 0 ∨ mx_N σ a ≤ i.toNatClampNeg)) : mx_at σ a i = true := by
  unfold mx_at
  simpa using h
theorem mx_WP.aldx {f : FieldType → Bool} {a : mx_Ad} {i : Int32} {ty : FieldType} (hs : mx_step mid pc L (.inl i :: .inr (.inr (some a)) :: r) σ = mx_ald f (pc + 1) L (.inl i :: .inr (.inr (some a)) :: r) σ) (hk : mx_knd a.2.1 = .inr ty) (hf : f ty = true) (hn : ¬ (i < 0 ∨ mx_N σ a ≤ i.toNatClampNeg)) (h : mx_WP d mid (pc + 1) L (mx_rd σ a ty i.toNatClampNeg :: r) σ Q) : mx_WP d mid pc L (.inl i :: .inr (.inr (some a)) :: r) σ Q := by
  refine mx_WP.next (hs.trans ?_) h
  simp only [mx_ald, hk, hf, mx_atx hn, Bool.and_self, cond_true]
theorem mx_WP.ialdx {a : mx_Ad} {i : Int32} (hn : ¬ (i < 0 ∨ mx_N σ a ≤ i.toNatClampNeg)) (h : mx_WP d mid (pc + 1) L (mx_i (mx_I σ a i.toNatClampNeg) :: r) σ Q) (hs : mx_code mid pc = some .iaload := by rfl) (hk : mx_knd a.2.1 = .inr .int := by rfl) : mx_WP d mid pc L (.inl i :: .inr (.inr (some a)) :: r) σ Q := mx_WP.aldx (f := mx_isI) (by unfold mx_step; rw [hs]; rfl) hk rfl hn h
theorem mx_WP.baldx {a : mx_Ad} {i : Int32} (hn : ¬ (i < 0 ∨ mx_N σ a ≤ i.toNatClampNeg)) (h : mx_WP d mid (pc + 1) L (mx_i (mx_I σ a i.toNatClampNeg) :: r) σ Q) (hs : mx_code mid pc = some .baload := by rfl) (hk : mx_knd a.2.1 = .inr .byte ∨ mx_knd a.2.1 = .inr .boolean := by first | exact Or.inl rfl | exact Or.inr rfl) : mx_WP d mid pc L (.inl i :: .inr (.inr (some a)) :: r) σ Q := by
  rcases hk with hk | hk
  · exact mx_WP.aldx (f := mx_isB) (by unfold mx_step; rw [hs]; rfl) hk rfl hn h
  · exact mx_WP.aldx (f := mx_isB) (by unfold mx_step; rw [hs]; rfl) hk rfl hn h
theorem mx_WP.laldx {a : mx_Ad} {i : Int32} (hn : ¬ (i < 0 ∨ mx_N σ a ≤ i.toNatClampNeg)) (h : mx_WP d mid (pc + 1) L (mx_l (mx_J σ a i.toNatClampNeg) :: r) σ Q) (hs : mx_code mid pc = some .laload := by rfl) (hk : mx_knd a.2.1 = .inr .long := by rfl) : mx_WP d mid pc L (.inl i :: .inr (.inr (some a)) :: r) σ Q := mx_WP.aldx (f := mx_isJ) (by unfold mx_step; rw [hs]; rfl) hk rfl hn h
theorem mx_WP.aaldx {a : mx_Ad} {i : Int32} {C : String} (hn : ¬ (i < 0 ∨ mx_N σ a ≤ i.toNatClampNeg)) (h : mx_WP d mid (pc + 1) L (mx_r (mx_R σ a i.toNatClampNeg) :: r) σ Q) (hs : mx_code mid pc = some .aaload := by rfl) (hk : mx_knd a.2.1 = .inr (.object C) := by rfl) : mx_WP d mid pc L (.inl i :: .inr (.inr (some a)) :: r) σ Q := mx_WP.aldx (f := mx_isA) (by unfold mx_step; rw [hs]; rfl) hk rfl hn h
theorem mx_WP.iastx {a : mx_Ad} {i v : Int32} (hn : ¬ (i < 0 ∨ mx_N σ a ≤ i.toNatClampNeg)) (h : mx_WP d mid (pc + 1) L r (mx_sI σ a i.toNatClampNeg v) Q) (hs : mx_code mid pc = some .iastore := by rfl) (hk : mx_knd a.2.1 = .inr .int := by rfl) (hg : Nat.blt a.1 2 = true := by rfl) : mx_WP d mid pc L (.inl v :: .inl i :: .inr (.inr (some a)) :: r) σ Q := by
  refine mx_WP.next ?_ h
  unfold mx_step
  rw [hs]
  show mx_iast (pc + 1) L (.inl v :: .inl i :: .inr (.inr (some a)) :: r) σ = _
  simp only [mx_iast, hk, hg, mx_atx hn, Bool.and_self, cond_true]
theorem mx_WP.bastx {a : mx_Ad} {i v : Int32} {ty : FieldType} (hn : ¬ (i < 0 ∨ mx_N σ a ≤ i.toNatClampNeg)) (h : mx_WP d mid (pc + 1) L r (mx_sI σ a i.toNatClampNeg (vp_nar ty v)) Q) (hs : mx_code mid pc = some .bastore := by rfl) (hk : mx_knd a.2.1 = .inr ty := by rfl) (hty : ty = .byte ∨ ty = .boolean := by first | exact Or.inl rfl | exact Or.inr rfl) (hg : Nat.blt a.1 2 = true := by rfl) : mx_WP d mid pc L (.inl v :: .inl i :: .inr (.inr (some a)) :: r) σ Q := by
  refine mx_WP.next ?_ h
  unfold mx_step
  rw [hs]
  show mx_bast (pc + 1) L (.inl v :: .inl i :: .inr (.inr (some a)) :: r) σ = _
  rcases hty with rfl | rfl <;> simp only [mx_bast, hk, hg, mx_atx hn, Bool.and_self, cond_true]
theorem mx_WP.lastx {a : mx_Ad} {i : Int32} {v : Int64} (hn : ¬ (i < 0 ∨ mx_N σ a ≤ i.toNatClampNeg)) (h : mx_WP d mid (pc + 1) L r (mx_sJ σ a i.toNatClampNeg v) Q) (hs : mx_code mid pc = some .lastore := by rfl) (hk : mx_knd a.2.1 = .inr .long := by rfl) (hg : Nat.blt a.1 2 = true := by rfl) : mx_WP d mid pc L (.inr (.inl v) :: .inl i :: .inr (.inr (some a)) :: r) σ Q := by
  refine mx_WP.next ?_ h
  unfold mx_step
  rw [hs]
  show mx_last (pc + 1) L (.inr (.inl v) :: .inl i :: .inr (.inr (some a)) :: r) σ = _
  simp only [mx_last, hk, hg, mx_atx hn, Bool.and_self, cond_true]
theorem mx_WP.retz {v : Int32} (hz : v = 0 ∨ v = 1) (hs : mx_code mid pc = some .ireturn) (hr : mx_mr mid = some .boolean) (h : Q (some (.inl v)) σ) : mx_WP d mid pc L [.inl v] σ Q := by
  refine mx_WP.ret ?_ h
  unfold mx_step
  rw [hs]
  show mx_ireturn mid [.inl v] = _
  simp only [mx_ireturn, hr, if_pos hz]
theorem mx_WP.putz {g t i k idx : Nat} {nst : Bool} {v : Int32} (hz : v = 0 ∨ v = 1) (hs : mx_code mid pc = some (.putfield idx)) (hf : mx_fld (mx_mc mid) idx = some (t, k, nst)) (hb : (Nat.beq t t && Nat.blt g 2 && (!mx_fin t k || (mx_mi mid && Nat.beq (mx_mc mid) t && !nst))) = true) (ht : mx_fty t k = .boolean) (h : mx_WP d mid (pc + 3) L r (mx_sI σ (g, t, i) k v) Q) : mx_WP d mid pc L (.inl v :: .inr (.inr (some (g, t, i))) :: r) σ Q := by
  refine mx_WP.next ?_ h
  unfold mx_step
  rw [hs]
  show mx_pt mid idx (pc + 3) L (.inl v :: .inr (.inr (some (g, t, i))) :: r) σ = _
  simp only [mx_pt, hf, hb, cond_true, mx_wr, ht, if_pos hz]
theorem mx_WP.d2 {x y : Int32} {f : Int32 → Int32 → Int32} (hy : ¬ y = 0) (hs : mx_step mid pc L (.inl y :: .inl x :: r) σ = mx_d2 f (pc + 1) L (.inl y :: .inl x :: r) σ) (h : mx_WP d mid (pc + 1) L (.inl (f x y) :: r) σ Q) : mx_WP d mid pc L (.inl y :: .inl x :: r) σ Q := by
  refine mx_WP.next (hs.trans ?_) h
  simp only [mx_d2, if_neg hy]
theorem mx_WP.sw {x c : Int32} (hx : x = c) (hs : mx_step mid pc L (.inl c :: r) σ = some (.inl (q, L, r, σ))) (h : mx_WP d mid q L r σ Q) : mx_WP d mid pc L (.inl x :: r) σ Q := by
  subst hx
  exact mx_WP.next hs h
theorem mx_WP.swt {x : Int32} {dflt hi : Int} {offs : Array Int} (ho : x.toInt < 0 ∨ hi < x.toInt) (hs : mx_code mid pc = some (.tableswitch dflt 0 hi offs)) (hq : mx_to pc dflt = some q) (h : mx_WP d mid q L r σ Q) : mx_WP d mid pc L (.inl x :: r) σ Q := by
  refine mx_WP.next ?_ h
  unfold mx_step
  rw [hs]
  show mx_tswc dflt 0 hi offs pc L (.inl x :: r) σ = _
  simp only [mx_tswc, mx_tsw, if_pos ho, mx_sw, hq]
theorem mx_WP.swl2 {x a b : Int32} {dflt o1 o2 k1 k2 : Int} (h1 : ¬ x = a) (h2 : ¬ x = b) (hs : mx_code mid pc = some (.lookupswitch dflt #[(k1, o1), (k2, o2)]) ∧ k1 = a.toInt ∧ k2 = b.toInt) (hq : mx_to pc dflt = some q) (hl : (decide (k1 < k2)) = true) (h : mx_WP d mid q L r σ Q) : mx_WP d mid pc L (.inl x :: r) σ Q := by
  obtain ⟨hs, rfl, rfl⟩ := hs
  have e1 : ¬ x.toInt = a.toInt := fun e => h1 (Int32.toInt_inj.mp e)
  have e2 : ¬ x.toInt = b.toInt := fun e => h2 (Int32.toInt_inj.mp e)
  refine mx_WP.next ?_ h
  unfold mx_step
  rw [hs]
  show mx_lswc dflt #[(a.toInt, o1), (b.toInt, o2)] pc L (.inl x :: r) σ = _
  have e3 : Op.lookupswitch.offset [(a.toInt, o1), (b.toInt, o2)] dflt x.toInt = dflt := by
    simp [Op.lookupswitch.offset, Ne.symm e1, Ne.symm e2, e1, e2]
  have e4 : a.toInt < b.toInt := of_decide_eq_true hl
  simp [mx_lswc, mx_sw, hq, e3, e4]
end MXF
theorem mx_tso {x : Int32} {n : Nat} (hn : n < 1000) (h : ∀ k : Nat, k ≤ n → ¬ x = nI k) : x.toInt < 0 ∨ (n : Int) < x.toInt := by
  by_cases h0 : x.toInt < 0
  · exact Or.inl h0
  · refine Or.inr ?_
    by_cases h1 : (n : Int) < x.toInt
    · exact h1
    · exfalso
      refine h x.toInt.toNat (by omega) (Int32.toInt_inj.mp ?_)
      rw [nI_toInt (by omega)]
      omega
theorem mx_tso3 {x : Int32} (h0 : ¬ x = 0) (h1 : ¬ x = 1) (h2 : ¬ x = 2) : x.toInt < 0 ∨ (2 : Int) < x.toInt := mx_tso (n := 2) (by decide) (fun k hk => by match k, hk with | 0, _ => exact h0 | 1, _ => exact h1 | 2, _ => exact h2 | n + 3, hk => omega)
theorem mx_tso5 {x : Int32} (h0 : ¬ x = 0) (h1 : ¬ x = 1) (h2 : ¬ x = 2) (h3 : ¬ x = 3) (h4 : ¬ x = 4) : x.toInt < 0 ∨ (4 : Int) < x.toInt := mx_tso (n := 4) (by decide) (fun k hk => by match k, hk with | 0, _ => exact h0 | 1, _ => exact h1 | 2, _ => exact h2 | 3, _ => exact h3 | 4, _ => exact h4 | n + 5, hk => omega)
theorem mx_tso7 {x : Int32} (h0 : ¬ x = 0) (h1 : ¬ x = 1) (h2 : ¬ x = 2) (h3 : ¬ x = 3) (h4 : ¬ x = 4) (h5 : ¬ x = 5) (h6 : ¬ x = 6) : x.toInt < 0 ∨ (6 : Int) < x.toInt := mx_tso (n := 6) (by decide) (fun k hk => by match k, hk with | 0, _ => exact h0 | 1, _ => exact h1 | 2, _ => exact h2 | 3, _ => exact h3 | 4, _ => exact h4 | 5, _ => exact h5 | 6, _ => exact h6 | n + 7, hk => omega)
theorem mx_tso10 {x : Int32} (h0 : ¬ x = 0) (h1 : ¬ x = 1) (h2 : ¬ x = 2) (h3 : ¬ x = 3) (h4 : ¬ x = 4) (h5 : ¬ x = 5) (h6 : ¬ x = 6) (h7 : ¬ x = 7) (h8 : ¬ x = 8) (h9 : ¬ x = 9) : x.toInt < 0 ∨ (9 : Int) < x.toInt := mx_tso (n := 9) (by decide) (fun k hk => by match k, hk with | 0, _ => exact h0 | 1, _ => exact h1 | 2, _ => exact h2 | 3, _ => exact h3 | 4, _ => exact h4 | 5, _ => exact h5 | 6, _ => exact h6 | 7, _ => exact h7 | 8, _ => exact h8 | 9, _ => exact h9 | n + 10, hk => omega)
/-! the shape of both heaps after their constructors -/
def hC_r (h : Nat → Nat) (t i k : Nat) : Option mx_Ad :=
  bif Nat.beq t 0 then (bif Nat.beq k 0 then some (0, 1, 0) else bif Nat.beq k 1 then some (0, 7, 0) else bif Nat.beq k 2 then some (0, 8, 0) else bif Nat.beq k 3 then some (0, 9, 0) else some (0, 10, 1)) else
  bif Nat.beq t 1 then (bif Nat.beq k 0 then some (0, 64, 0) else some (0, 2, 0)) else
  bif Nat.beq t 2 then some (0, 65 + k, i) else
  bif Nat.beq t 3 then some (0, 70 + k, i) else
  bif Nat.beq t 4 then (bif Nat.beq k 0 then some (0, 72, i) else some (0, 3, 0)) else
  bif Nat.beq t 5 then (bif Nat.beq k 0 then some (0, 4, i) else bif Nat.beq k 1 then some (0, 3, h i) else none) else
  bif Nat.beq t 6 then (bif Nat.beq k 0 then some (0, 2, i + 1) else bif Nat.beq k 1 then some (0, 4, i) else some (0, 5, i)) else
  bif Nat.beq t 7 then (bif Nat.beq k 0 then some (0, 73, 0) else bif Nat.beq k 1 then some (0, 3, 0) else some (0, 10, 0)) else
  bif Nat.beq t 8 then (bif Nat.beq k 0 then some (0, 7, 0) else some (0, 73 + k, 0)) else
  bif Nat.beq t 9 then some (0, 77 + k, 0) else
  bif Nat.beq t 10 then some (0, 81, i) else
  bif Nat.beq t 72 then some (0, 3, 1 + 16 * i + k) else
  bif Nat.beq t 73 then some (0, 6, k) else none
def hC_n (t i : Nat) : Nat :=
  bif Nat.beq t 64 then 200 else bif Nat.beq t 65 then 3 else bif Nat.beq t 66 then 3 else bif Nat.beq t 67 then 3 else bif Nat.beq t 68 then 4 else bif Nat.beq t 69 then 4 else
  bif Nat.beq t 70 then 4 else bif Nat.beq t 71 then 4 else bif Nat.beq t 72 then 16 else bif Nat.beq t 73 then 8 else bif Nat.ble t 76 then 128 else bif Nat.ble t 80 then 24 else bif Nat.beq i 0 then 16 else 32
def hC_c (t : Nat) : Nat :=
  bif Nat.ble t 1 then 1 else bif Nat.beq t 2 then 9 else bif Nat.beq t 3 then 129 else bif Nat.ble t 6 then 8 else bif Nat.ble t 9 then 1 else bif Nat.beq t 10 then 2 else
  bif Nat.beq t 64 then 1 else bif Nat.ble t 64 then 0 else bif Nat.ble t 69 then 9 else bif Nat.ble t 71 then 129 else bif Nat.beq t 72 then 8 else bif Nat.ble t 80 then 1 else bif Nat.beq t 81 then 2 else 0
def hC (I : Nat → Nat → Nat → Int32) (J : Nat → Nat → Nat → Int64) (h : Nat → Nat) : mx_Rg := (I, J, hC_r h, hC_c, hC_n)
def hM_r (t i k : Nat) : Option mx_Ad := bif Nat.ble k 9 then some (1, 82 + k, 0) else some (1, 77 + k, 0)
def hM_n (t : Nat) (i : Nat) : Nat := (([200, 9, 27, 27, 27, 9, 36, 9, 36, 9, 8, 8, 8, 8, 8, 8, 8, 8, 8, 8, 128, 512, 512, 128, 128, 128, 128, 128, 24, 24, 24, 32, 16, 24] : List Nat)[t - 82]?).getD 0
def hM_c (t : Nat) : Nat := bif Nat.beq t 11 then 1 else bif Nat.ble 82 t && Nat.ble t 115 then 1 else 0
def hM (I : Nat → Nat → Nat → Int32) (J : Nat → Nat → Nat → Int64) : mx_Rg := (I, J, hM_r, hM_c, hM_n)
theorem hC_here (h : Nat → Nat) (p e : Nat) : mx_u3 (hC_r h) 5 p 1 (some (0, 3, e)) = hC_r (mx_u1 h p e) := by
  funext t i k
  unfold mx_u3 mx_u1
  by_cases ht : t = 5
  · subst ht
    by_cases hk : k = 1
    · subst hk
      by_cases hi : i = p
      · subst hi
        rw [if_pos ⟨rfl, rfl, rfl⟩]
        show _ = some (0, 3, if i = i then e else h i)
        rw [if_pos rfl]
      · rw [if_neg (fun q => hi q.2.1)]
        show some (0, 3, h i) = some (0, 3, if i = p then e else h i)
        rw [if_neg hi]
    · rw [if_neg (fun q => hk q.2.2)]
      have e1 : Nat.beq k 1 = false := by
        cases hb : Nat.beq k 1
        · rfl
        · exact absurd (Nat.eq_of_beq_eq_true hb) hk
      show (bif Nat.beq k 0 then some (0, 4, i) else bif Nat.beq k 1 then some (0, 3, h i) else none) = (bif Nat.beq k 0 then some (0, 4, i) else bif Nat.beq k 1 then some (0, 3, if i = p then e else h i) else none)
      rw [e1]
      rfl
  · rw [if_neg (fun q => ht q.1)]
    have e5 : Nat.beq t 5 = false := by
      cases hb : Nat.beq t 5
      · rfl
      · exact absurd (Nat.eq_of_beq_eq_true hb) ht
    simp only [hC_r, e5, cond_false]
theorem mx_WP.puth {d mid pc : Nat} {L : mx_L} {r : List mx_V} {Q : Option mx_V → mx_Hp → Prop} {I : Nat → Nat → Nat → Int32} {J : Nat → Nat → Nat → Int64} {h : Nat → Nat} {μ : mx_Rg × (Nat × (Nat → Int32)) × (Nat × Nat)} {p e : Nat} (hs : mx_step mid pc L (mx_r (some (0, 3, e)) :: mx_r (some (0, 5, p)) :: r) (hC I J h, μ) = some (.inl (pc + 3, L, r, mx_sR (hC I J h, μ) (0, 5, p) 1 (some (0, 3, e))))) (k : mx_WP d mid (pc + 3) L r (hC I J (mx_u1 h p e), μ) Q) : mx_WP d mid pc L (mx_r (some (0, 3, e)) :: mx_r (some (0, 5, p)) :: r) (hC I J h, μ) Q := by
  refine mx_WP.next hs ?_
  have e1 : mx_sR (hC I J h, μ) (0, 5, p) 1 (some (0, 3, e)) = (hC I J (mx_u1 h p e), μ) := by
    show ((I, J, mx_u3 (hC_r h) 5 p 1 (some (0, 3, e)), hC_c, hC_n), μ) = _
    rw [hC_here]
    rfl
  rw [e1]
  exact k
end
section
def f2 (x0 : Int64) (x1 : Int32) : Option (Int32) :=
  some ((((x0.toUInt64 >>> ((8 * x1).toInt64.toUInt64 &&& Int64.toUInt64 63)).toInt64).toInt32) &&& 255)
theorem T2 {d : Nat} {x0 : Int64} {x1 : Int32} {σ : mx_Hp} {Q : Option mx_V → mx_Hp → Prop} {o : Int32} (hf : f2 x0 x1 = some o) (hk : Q (some (mx_i o)) σ) : mx_WP (d + 0) 2 0 (mx_ent 2 [mx_l x0, mx_i x1]) [] σ Q := by
  unfold f2 at hf
  refine mx_WP.go 8 (pc' := 11) (L' := [some (mx_l x0), none, some (mx_i x1)]) (st' := [mx_i ((((x0.toUInt64 >>> ((8 * x1).toInt64.toUInt64 &&& Int64.toUInt64 63)).toInt64).toInt32) &&& 255)]) (σ' := σ) rfl ?_
  rw [← Option.some.inj hf] at hk
  refine mx_WP.ret (v := some (mx_i ((((x0.toUInt64 >>> ((8 * x1).toInt64.toUInt64 &&& Int64.toUInt64 63)).toInt64).toInt32) &&& 255))) rfl ?_
  exact hk
def b31_2 (x0 : Int64)  (s : Int32) : Option ((Int32) ⊕ ((Int32) ⊕ (Int32))) :=
  if 8 ≤ s then (some (Sum.inr (Sum.inl s))) else (f2 x0 s).bind fun u102 =>
  if u102 = 0 then (some (Sum.inr (Sum.inl s))) else (f2 x0 s).bind fun u104 =>
  if u104 ≤ 127 then (some (Sum.inl (s + 1))) else some (Sum.inr (Sum.inr 0))
theorem B31_2 {d : Nat} {x0 : Int64} {σ : mx_Hp} {Q : Option mx_V → mx_Hp → Prop} {s : Int32} {o : (Int32) ⊕ ((Int32) ⊕ (Int32))} (hf : b31_2 x0 s = some o) (hk : Sum.elim (fun s : Int32 => mx_WP (d + 1) 31 2 [some (mx_l x0), none, some (mx_i s)] [] σ Q) (Sum.elim (fun x : Int32 => mx_WP (d + 1) 31 34 [some (mx_l x0), none, some (mx_i x)] [] σ Q) (fun x : Int32 => Q (some (mx_i x)) σ)) o) : mx_WP (d + 1) 31 2 [some (mx_l x0), none, some (mx_i s)] [] σ Q := by
  unfold b31_2 at hf
  refine mx_WP.go 2 (pc' := 5) (L' := [some (mx_l x0), none, some (mx_i s)]) (st' := [mx_i 8, mx_i s]) (σ' := σ) rfl ?_
  by_cases c101 : 8 ≤ s
  · rw [if_pos c101] at hf
    refine mx_WP.bge (x := s) (y := 8) (q := 34) (p3 := 8) rfl (fun _ => ?_) (fun hh => absurd c101 hh)
    rw [← Option.some.inj hf] at hk
    exact hk
  · rw [if_neg c101] at hf
    refine mx_WP.bge (x := s) (y := 8) (q := 34) (p3 := 8) rfl (fun hh => absurd hh c101) (fun _ => ?_)
    refine mx_WP.go 2 (pc' := 10) (L' := [some (mx_l x0), none, some (mx_i s)]) (st' := [mx_i s, mx_l x0]) (σ' := σ) rfl ?_
    obtain ⟨u102, e107, hf⟩ := Option.bind_eq_some_iff.mp hf
    refine mx_WP.call (d := d + 0) (y := 2) (as := [mx_l x0, mx_i s]) (pc' := 13) (r := []) rfl rfl (T2 (d := d + 0) e107 ?_)
    show mx_WP (d + 1) 31 13 [some (mx_l x0), none, some (mx_i s)] [mx_i u102] σ Q
    by_cases c103 : u102 = 0
    · rw [if_pos c103] at hf
      refine mx_WP.beq (x := u102) (y := 0) (q := 34) (p3 := 16) rfl (fun _ => ?_) (fun hh => absurd c103 hh)
      rw [← Option.some.inj hf] at hk
      exact hk
    · rw [if_neg c103] at hf
      refine mx_WP.beq (x := u102) (y := 0) (q := 34) (p3 := 16) rfl (fun hh => absurd hh c103) (fun _ => ?_)
      refine mx_WP.go 2 (pc' := 18) (L' := [some (mx_l x0), none, some (mx_i s)]) (st' := [mx_i s, mx_l x0]) (σ' := σ) rfl ?_
      obtain ⟨u104, e106, hf⟩ := Option.bind_eq_some_iff.mp hf
      refine mx_WP.call (d := d + 0) (y := 2) (as := [mx_l x0, mx_i s]) (pc' := 21) (r := []) rfl rfl (T2 (d := d + 0) e106 ?_)
      show mx_WP (d + 1) 31 21 [some (mx_l x0), none, some (mx_i s)] [mx_i u104] σ Q
      refine mx_WP.go 1 (pc' := 23) (L' := [some (mx_l x0), none, some (mx_i s)]) (st' := [mx_i 127, mx_i u104]) (σ' := σ) rfl ?_
      by_cases c105 : u104 ≤ 127
      · rw [if_pos c105] at hf
        refine mx_WP.ble (x := u104) (y := 127) (q := 28) (p3 := 26) rfl (fun _ => ?_) (fun hh => absurd c105 hh)
        refine mx_WP.go 2 (pc' := 2) (L' := [some (mx_l x0), none, some (mx_i (s + 1))]) (st' := []) (σ' := σ) rfl ?_
        rw [← Option.some.inj hf] at hk
        exact hk
      · rw [if_neg c105] at hf
        refine mx_WP.ble (x := u104) (y := 127) (q := 28) (p3 := 26) rfl (fun hh => absurd hh c105) (fun _ => ?_)
        refine mx_WP.go 1 (pc' := 27) (L' := [some (mx_l x0), none, some (mx_i s)]) (st' := [mx_i 0]) (σ' := σ) rfl ?_
        rw [← Option.some.inj hf] at hk
        refine mx_WP.ret (v := some (mx_i 0)) rfl ?_
        exact hk
theorem L31_2 {d : Nat} {x0 : Int64} {σ : mx_Hp} {Q : Option mx_V → mx_Hp → Prop} {n : Nat} {s : Int32} {o : (Int32) ⊕ (Int32)} (hf : mx_lp (b31_2 x0) n s = some o) (hk : (Sum.elim (fun x : Int32 => mx_WP (d + 1) 31 34 [some (mx_l x0), none, some (mx_i x)] [] σ Q) (fun x : Int32 => Q (some (mx_i x)) σ)) o) : mx_WP (d + 1) 31 2 [some (mx_l x0), none, some (mx_i s)] [] σ Q := mx_lp_ok (P := fun s : Int32 => mx_WP (d + 1) 31 2 [some (mx_l x0), none, some (mx_i s)] [] σ Q) (E := (Sum.elim (fun x : Int32 => mx_WP (d + 1) 31 34 [some (mx_l x0), none, some (mx_i x)] [] σ Q) (fun x : Int32 => Q (some (mx_i x)) σ))) (fun s o hf hk => B31_2 hf hk) n s o hf hk
def f31 (x0 : Int64) : Option (Int32) :=
  (mx_lp (b31_2 x0) mx_fu 0).bind fun u108 => Sum.elim (fun w110 =>
  some w110) (fun y111 => some y111) u108
theorem T31 {d : Nat} {x0 : Int64} {σ : mx_Hp} {Q : Option mx_V → mx_Hp → Prop} {o : Int32} (hf : f31 x0 = some o) (hk : Q (some (mx_i o)) σ) : mx_WP (d + 1) 31 0 (mx_ent 31 [mx_l x0]) [] σ Q := by
  unfold f31 at hf
  refine mx_WP.go 2 (pc' := 2) (L' := [some (mx_l x0), none, some (mx_i 0)]) (st' := []) (σ' := σ) rfl ?_
  obtain ⟨u108, e109, hf⟩ := Option.bind_eq_some_iff.mp hf
  cases u108 with
  | inr y111 =>
    rw [Sum.elim_inr] at hf
    rw [← Option.some.inj hf] at hk
    exact (L31_2 (d := d) e109 hk)
  | inl w110 =>
    rw [Sum.elim_inl] at hf
    refine (L31_2 (d := d) e109 ?_)
    show mx_WP (d + 1) 31 34 [some (mx_l x0), none, some (mx_i w110)] [] σ Q
    refine mx_WP.go 1 (pc' := 35) (L' := [some (mx_l x0), none, some (mx_i w110)]) (st' := [mx_i w110]) (σ' := σ) rfl ?_
    rw [← Option.some.inj hf] at hk
    refine mx_WP.ret (v := some (mx_i w110)) rfl ?_
    exact hk
def b30_29 (x1 : Int64) (x3 : Int32) (I : Nat → Nat → Nat → Int32) (s : Int32 × (Nat → Nat → Nat → Int32)) : Option ((Int32 × (Nat → Nat → Nat → Int32)) ⊕ (Int32 × (Nat → Nat → Nat → Int32))) :=
  if x3 ≤ s.1 then (some (Sum.inr (s.1, s.2))) else (f2 x1 s.1).bind fun u105 =>
  if ((s.2 1 0 2) + s.1) < 0 ∨ 200 ≤ ((s.2 1 0 2) + s.1).toNatClampNeg then none else some (Sum.inl (s.1 + 1, (mx_u3 s.2 64 0 (((s.2 1 0 2) + s.1).toNatClampNeg) (vp_nar .byte u105.toInt8.toInt32))))
theorem B30_29 {d : Nat} {x1 : Int64} {x3 : Int32} {I : Nat → Nat → Nat → Int32} {J : Nat → Nat → Nat → Int64} {h : Nat → Nat} {μ : mx_Rg × (Nat × (Nat → Int32)) × (Nat × Nat)} {Q : Option mx_V → mx_Hp → Prop} {s : Int32 × (Nat → Nat → Nat → Int32)} {o : (Int32 × (Nat → Nat → Nat → Int32)) ⊕ (Int32 × (Nat → Nat → Nat → Int32))} (hf : b30_29 x1 x3 I s = some o) (hk : Sum.elim (fun s : Int32 × (Nat → Nat → Nat → Int32) => mx_WP (d + 2) 30 29 [some (mx_r (some (0, 1, 0))), some (mx_l x1), none, some (mx_i x3), some (mx_i s.1)] [] (hC s.2 J h, μ) Q) (fun x : Int32 × (Nat → Nat → Nat → Int32) => mx_WP (d + 2) 30 60 [some (mx_r (some (0, 1, 0))), some (mx_l x1), none, some (mx_i x3), some (mx_i x.1)] [] (hC x.2 J h, μ) Q) o) : mx_WP (d + 2) 30 29 [some (mx_r (some (0, 1, 0))), some (mx_l x1), none, some (mx_i x3), some (mx_i s.1)] [] (hC s.2 J h, μ) Q := by
  unfold b30_29 at hf
  refine mx_WP.go 2 (pc' := 32) (L' := [some (mx_r (some (0, 1, 0))), some (mx_l x1), none, some (mx_i x3), some (mx_i s.1)]) (st' := [mx_i x3, mx_i s.1]) (σ' := (hC s.2 J h, μ)) rfl ?_
  by_cases c104 : x3 ≤ s.1
  · rw [if_pos c104] at hf
    refine mx_WP.bge (x := s.1) (y := x3) (q := 60) (p3 := 35) rfl (fun _ => ?_) (fun hh => absurd c104 hh)
    rw [← Option.some.inj hf] at hk
    exact hk
  · rw [if_neg c104] at hf
    refine mx_WP.bge (x := s.1) (y := x3) (q := 60) (p3 := 35) rfl (fun hh => absurd hh c104) (fun _ => ?_)
    refine mx_WP.go 8 (pc' := 49) (L' := [some (mx_r (some (0, 1, 0))), some (mx_l x1), none, some (mx_i x3), some (mx_i s.1)]) (st' := [mx_i s.1, mx_l x1, mx_i ((s.2 1 0 2) + s.1), mx_r (some (0, 64, 0))]) (σ' := (hC s.2 J h, μ)) rfl ?_
    obtain ⟨u105, e107, hf⟩ := Option.bind_eq_some_iff.mp hf
    refine mx_WP.call (d := d + 1) (y := 2) (as := [mx_l x1, mx_i s.1]) (pc' := 52) (r := [mx_i ((s.2 1 0 2) + s.1), mx_r (some (0, 64, 0))]) rfl rfl (T2 (d := d + 1) e107 ?_)
    show mx_WP (d + 2) 30 52 [some (mx_r (some (0, 1, 0))), some (mx_l x1), none, some (mx_i x3), some (mx_i s.1)] [mx_i u105, mx_i ((s.2 1 0 2) + s.1), mx_r (some (0, 64, 0))] (hC s.2 J h, μ) Q
    refine mx_WP.go 1 (pc' := 53) (L' := [some (mx_r (some (0, 1, 0))), some (mx_l x1), none, some (mx_i x3), some (mx_i s.1)]) (st' := [mx_i u105.toInt8.toInt32, mx_i ((s.2 1 0 2) + s.1), mx_r (some (0, 64, 0))]) (σ' := (hC s.2 J h, μ)) rfl ?_
    by_cases c106 : ((s.2 1 0 2) + s.1) < 0 ∨ 200 ≤ ((s.2 1 0 2) + s.1).toNatClampNeg
    · rw [if_pos c106] at hf
      cases hf
    rw [if_neg c106] at hf
    refine mx_WP.bastx c106 ?_
    show mx_WP (d + 2) 30 54 [some (mx_r (some (0, 1, 0))), some (mx_l x1), none, some (mx_i x3), some (mx_i s.1)] [] (hC (mx_u3 s.2 64 0 (((s.2 1 0 2) + s.1).toNatClampNeg) (vp_nar .byte u105.toInt8.toInt32)) J h, μ) Q
    refine mx_WP.go 2 (pc' := 29) (L' := [some (mx_r (some (0, 1, 0))), some (mx_l x1), none, some (mx_i x3), some (mx_i (s.1 + 1))]) (st' := []) (σ' := (hC (mx_u3 s.2 64 0 (((s.2 1 0 2) + s.1).toNatClampNeg) (vp_nar .byte u105.toInt8.toInt32)) J h, μ)) rfl ?_
    rw [← Option.some.inj hf] at hk
    exact hk
theorem L30_29 {d : Nat} {x1 : Int64} {x3 : Int32} {I : Nat → Nat → Nat → Int32} {J : Nat → Nat → Nat → Int64} {h : Nat → Nat} {μ : mx_Rg × (Nat × (Nat → Int32)) × (Nat × Nat)} {Q : Option mx_V → mx_Hp → Prop} {n : Nat} {s : Int32 × (Nat → Nat → Nat → Int32)} {o : Int32 × (Nat → Nat → Nat → Int32)} (hf : mx_lp (b30_29 x1 x3 I) n s = some o) (hk : (fun x : Int32 × (Nat → Nat → Nat → Int32) => mx_WP (d + 2) 30 60 [some (mx_r (some (0, 1, 0))), some (mx_l x1), none, some (mx_i x3), some (mx_i x.1)] [] (hC x.2 J h, μ) Q) o) : mx_WP (d + 2) 30 29 [some (mx_r (some (0, 1, 0))), some (mx_l x1), none, some (mx_i x3), some (mx_i s.1)] [] (hC s.2 J h, μ) Q := mx_lp_ok (P := fun s : Int32 × (Nat → Nat → Nat → Int32) => mx_WP (d + 2) 30 29 [some (mx_r (some (0, 1, 0))), some (mx_l x1), none, some (mx_i x3), some (mx_i s.1)] [] (hC s.2 J h, μ) Q) (E := (fun x : Int32 × (Nat → Nat → Nat → Int32) => mx_WP (d + 2) 30 60 [some (mx_r (some (0, 1, 0))), some (mx_l x1), none, some (mx_i x3), some (mx_i x.1)] [] (hC x.2 J h, μ) Q)) (fun s o hf hk => B30_29 hf hk) n s o hf hk
def f30 (x1 : Int64) (I : Nat → Nat → Nat → Int32) : Option (Int32 × (Nat → Nat → Nat → Int32)) :=
  (f31 x1).bind fun u1 =>
  if u1 = 0 then (some ((-1), I)) else if ((I 1 0 2) + u1) ≤ 200 then ((mx_lp (b30_29 x1 u1 I) mx_fu (0, I)).bind fun u108 =>
  some ((mx_u3 u108.2 1 0 2 ((u108.2 1 0 2) + u1)) 1 0 2, (mx_u3 u108.2 1 0 2 ((u108.2 1 0 2) + u1)))) else some ((-2), I)
theorem T30 {d : Nat} {x1 : Int64} {I : Nat → Nat → Nat → Int32} {J : Nat → Nat → Nat → Int64} {h : Nat → Nat} {μ : mx_Rg × (Nat × (Nat → Int32)) × (Nat × Nat)} {Q : Option mx_V → mx_Hp → Prop} {o : Int32 × (Nat → Nat → Nat → Int32)} (hf : f30 x1 I = some o) (hk : Q (some (mx_i o.1)) (hC o.2 J h, μ)) : mx_WP (d + 2) 30 0 (mx_ent 30 [mx_r (some (0, 1, 0)), mx_l x1]) [] (hC I J h, μ) Q := by
  unfold f30 at hf
  refine mx_WP.go 1 (pc' := 1) (L' := [some (mx_r (some (0, 1, 0))), some (mx_l x1), none, none, none]) (st' := [mx_l x1]) (σ' := (hC I J h, μ)) rfl ?_
  obtain ⟨u1, e110, hf⟩ := Option.bind_eq_some_iff.mp hf
  refine mx_WP.call (d := d + 1) (y := 31) (as := [mx_l x1]) (pc' := 4) (r := []) rfl rfl (T31 (d := d + 0) e110 ?_)
  show mx_WP (d + 2) 30 4 [some (mx_r (some (0, 1, 0))), some (mx_l x1), none, none, none] [mx_i u1] (hC I J h, μ) Q
  refine mx_WP.go 2 (pc' := 6) (L' := [some (mx_r (some (0, 1, 0))), some (mx_l x1), none, some (mx_i u1), none]) (st' := [mx_i u1]) (σ' := (hC I J h, μ)) rfl ?_
  by_cases c2 : u1 = 0
  · rw [if_pos c2] at hf
    refine mx_WP.bne (x := u1) (y := 0) (q := 11) (p3 := 9) rfl (fun hh => absurd c2 hh) (fun _ => ?_)
    refine mx_WP.go 1 (pc' := 10) (L' := [some (mx_r (some (0, 1, 0))), some (mx_l x1), none, some (mx_i u1), none]) (st' := [mx_i (-1)]) (σ' := (hC I J h, μ)) rfl ?_
    rw [← Option.some.inj hf] at hk
    refine mx_WP.ret (v := some (mx_i (-1))) rfl ?_
    exact hk
  · rw [if_neg c2] at hf
    refine mx_WP.bne (x := u1) (y := 0) (q := 11) (p3 := 9) rfl (fun _ => ?_) (fun hh => absurd c2 hh)
    refine mx_WP.go 5 (pc' := 20) (L' := [some (mx_r (some (0, 1, 0))), some (mx_l x1), none, some (mx_i u1), none]) (st' := [mx_i 200, mx_i ((I 1 0 2) + u1)]) (σ' := (hC I J h, μ)) rfl ?_
    by_cases c3 : ((I 1 0 2) + u1) ≤ 200
    · rw [if_pos c3] at hf
      refine mx_WP.ble (x := ((I 1 0 2) + u1)) (y := 200) (q := 26) (p3 := 23) rfl (fun _ => ?_) (fun hh => absurd c3 hh)
      refine mx_WP.go 2 (pc' := 29) (L' := [some (mx_r (some (0, 1, 0))), some (mx_l x1), none, some (mx_i u1), some (mx_i 0)]) (st' := []) (σ' := (hC I J h, μ)) rfl ?_
      obtain ⟨u108, e109, hf⟩ := Option.bind_eq_some_iff.mp hf
      refine L30_29 (d := d) e109 ?_
      show mx_WP (d + 2) 30 60 [some (mx_r (some (0, 1, 0))), some (mx_l x1), none, some (mx_i u1), some (mx_i u108.1)] [] (hC u108.2 J h, μ) Q
      refine mx_WP.go 8 (pc' := 74) (L' := [some (mx_r (some (0, 1, 0))), some (mx_l x1), none, some (mx_i u1), some (mx_i u108.1)]) (st' := [mx_i ((mx_u3 u108.2 1 0 2 ((u108.2 1 0 2) + u1)) 1 0 2)]) (σ' := (hC (mx_u3 u108.2 1 0 2 ((u108.2 1 0 2) + u1)) J h, μ)) rfl ?_
      rw [← Option.some.inj hf] at hk
      refine mx_WP.ret (v := some (mx_i ((mx_u3 u108.2 1 0 2 ((u108.2 1 0 2) + u1)) 1 0 2))) rfl ?_
      exact hk
    · rw [if_neg c3] at hf
      refine mx_WP.ble (x := ((I 1 0 2) + u1)) (y := 200) (q := 26) (p3 := 23) rfl (fun hh => absurd hh c3) (fun _ => ?_)
      refine mx_WP.go 1 (pc' := 25) (L' := [some (mx_r (some (0, 1, 0))), some (mx_l x1), none, some (mx_i u1), none]) (st' := [mx_i (-2)]) (σ' := (hC I J h, μ)) rfl ?_
      rw [← Option.some.inj hf] at hk
      refine mx_WP.ret (v := some (mx_i (-2))) rfl ?_
      exact hk
def f1 (x1 : Int64) (I : Nat → Nat → Nat → Int32) : Option (Int32 × (Nat → Nat → Nat → Int32)) :=
  (f30 x1 I).bind fun u1 =>
  some (u1.1, u1.2)
theorem T1 {d : Nat} {x1 : Int64} {I : Nat → Nat → Nat → Int32} {J : Nat → Nat → Nat → Int64} {h : Nat → Nat} {μ : mx_Rg × (Nat × (Nat → Int32)) × (Nat × Nat)} {Q : Option mx_V → mx_Hp → Prop} {o : Int32 × (Nat → Nat → Nat → Int32)} (hf : f1 x1 I = some o) (hk : Q (some (mx_i o.1)) (hC o.2 J h, μ)) : mx_WP (d + 3) 1 0 (mx_ent 1 [mx_r (some (0, 0, 0)), mx_l x1]) [] (hC I J h, μ) Q := by
  unfold f1 at hf
  refine mx_WP.go 3 (pc' := 5) (L' := [some (mx_r (some (0, 0, 0))), some (mx_l x1), none]) (st' := [mx_l x1, mx_r (some (0, 1, 0))]) (σ' := (hC I J h, μ)) rfl ?_
  obtain ⟨u1, e2, hf⟩ := Option.bind_eq_some_iff.mp hf
  refine mx_WP.call (d := d + 2) (y := 30) (as := [mx_r (some (0, 1, 0)), mx_l x1]) (pc' := 8) (r := []) rfl rfl (T30 (d := d + 0) e2 ?_)
  show mx_WP (d + 3) 1 8 [some (mx_r (some (0, 0, 0))), some (mx_l x1), none] [mx_i u1.1] (hC u1.2 J h, μ) Q
  rw [← Option.some.inj hf] at hk
  refine mx_WP.ret (v := some (mx_i u1.1)) rfl ?_
  exact hk
def f4 (x0 : Int32) : Option (Bool) :=
  if x0 < 0 then (some false) else if 8 ≤ x0 then (some false) else some true
theorem T4 {d : Nat} {x0 : Int32} {σ : mx_Hp} {Q : Option mx_V → mx_Hp → Prop} {o : Bool} (hf : f4 x0 = some o) (hk : Q (some (mx_i (b2i o))) σ) : mx_WP (d + 0) 4 0 (mx_ent 4 [mx_i x0]) [] σ Q := by
  unfold f4 at hf
  refine mx_WP.go 1 (pc' := 1) (L' := [some (mx_i x0)]) (st' := [mx_i x0]) (σ' := σ) rfl ?_
  by_cases c1 : x0 < 0
  · rw [if_pos c1] at hf
    refine mx_WP.blt (x := x0) (y := 0) (q := 14) (p3 := 4) rfl (fun _ => ?_) (fun hh => absurd c1 hh)
    refine mx_WP.go 1 (pc' := 15) (L' := [some (mx_i x0)]) (st' := [mx_i 0]) (σ' := σ) rfl ?_
    rw [← Option.some.inj hf] at hk
    refine mx_WP.ret (v := some (mx_i 0)) rfl ?_
    exact hk
  · rw [if_neg c1] at hf
    refine mx_WP.blt (x := x0) (y := 0) (q := 14) (p3 := 4) rfl (fun hh => absurd hh c1) (fun _ => ?_)
    refine mx_WP.go 2 (pc' := 7) (L' := [some (mx_i x0)]) (st' := [mx_i 8, mx_i x0]) (σ' := σ) rfl ?_
    by_cases c2 : 8 ≤ x0
    · rw [if_pos c2] at hf
      refine mx_WP.bge (x := x0) (y := 8) (q := 14) (p3 := 10) rfl (fun _ => ?_) (fun hh => absurd c2 hh)
      refine mx_WP.go 1 (pc' := 15) (L' := [some (mx_i x0)]) (st' := [mx_i 0]) (σ' := σ) rfl ?_
      rw [← Option.some.inj hf] at hk
      refine mx_WP.ret (v := some (mx_i 0)) rfl ?_
      exact hk
    · rw [if_neg c2] at hf
      refine mx_WP.bge (x := x0) (y := 8) (q := 14) (p3 := 10) rfl (fun hh => absurd hh c2) (fun _ => ?_)
      refine mx_WP.go 2 (pc' := 15) (L' := [some (mx_i x0)]) (st' := [mx_i 1]) (σ' := σ) rfl ?_
      rw [← Option.some.inj hf] at hk
      refine mx_WP.ret (v := some (mx_i 1)) rfl ?_
      exact hk
def f34 (x0 : Nat) (x1 : Int32) (x2 : Int32) (x3 : Int32) (I : Nat → Nat → Nat → Int32) : Option (Int32 × (Nat → Nat → Nat → Int32)) :=
  if (I 2 x0 5) < 3 then (if (I 2 x0 5) < 0 ∨ 3 ≤ (I 2 x0 5).toNatClampNeg then none else if ((mx_u3 I 65 x0 ((I 2 x0 5).toNatClampNeg) x1) 2 x0 5) < 0 ∨ 3 ≤ ((mx_u3 I 65 x0 ((I 2 x0 5).toNatClampNeg) x1) 2 x0 5).toNatClampNeg then none else if ((mx_u3 (mx_u3 I 65 x0 ((I 2 x0 5).toNatClampNeg) x1) 66 x0 (((mx_u3 I 65 x0 ((I 2 x0 5).toNatClampNeg) x1) 2 x0 5).toNatClampNeg) x2) 2 x0 5) < 0 ∨ 3 ≤ ((mx_u3 (mx_u3 I 65 x0 ((I 2 x0 5).toNatClampNeg) x1) 66 x0 (((mx_u3 I 65 x0 ((I 2 x0 5).toNatClampNeg) x1) 2 x0 5).toNatClampNeg) x2) 2 x0 5).toNatClampNeg then none else some ((mx_u3 (mx_u3 (mx_u3 (mx_u3 I 65 x0 ((I 2 x0 5).toNatClampNeg) x1) 66 x0 (((mx_u3 I 65 x0 ((I 2 x0 5).toNatClampNeg) x1) 2 x0 5).toNatClampNeg) x2) 67 x0 (((mx_u3 (mx_u3 I 65 x0 ((I 2 x0 5).toNatClampNeg) x1) 66 x0 (((mx_u3 I 65 x0 ((I 2 x0 5).toNatClampNeg) x1) 2 x0 5).toNatClampNeg) x2) 2 x0 5).toNatClampNeg) x3) 2 x0 5 (((mx_u3 (mx_u3 (mx_u3 I 65 x0 ((I 2 x0 5).toNatClampNeg) x1) 66 x0 (((mx_u3 I 65 x0 ((I 2 x0 5).toNatClampNeg) x1) 2 x0 5).toNatClampNeg) x2) 67 x0 (((mx_u3 (mx_u3 I 65 x0 ((I 2 x0 5).toNatClampNeg) x1) 66 x0 (((mx_u3 I 65 x0 ((I 2 x0 5).toNatClampNeg) x1) 2 x0 5).toNatClampNeg) x2) 2 x0 5).toNatClampNeg) x3) 2 x0 5) + 1)) 2 x0 5, (mx_u3 (mx_u3 (mx_u3 (mx_u3 I 65 x0 ((I 2 x0 5).toNatClampNeg) x1) 66 x0 (((mx_u3 I 65 x0 ((I 2 x0 5).toNatClampNeg) x1) 2 x0 5).toNatClampNeg) x2) 67 x0 (((mx_u3 (mx_u3 I 65 x0 ((I 2 x0 5).toNatClampNeg) x1) 66 x0 (((mx_u3 I 65 x0 ((I 2 x0 5).toNatClampNeg) x1) 2 x0 5).toNatClampNeg) x2) 2 x0 5).toNatClampNeg) x3) 2 x0 5 (((mx_u3 (mx_u3 (mx_u3 I 65 x0 ((I 2 x0 5).toNatClampNeg) x1) 66 x0 (((mx_u3 I 65 x0 ((I 2 x0 5).toNatClampNeg) x1) 2 x0 5).toNatClampNeg) x2) 67 x0 (((mx_u3 (mx_u3 I 65 x0 ((I 2 x0 5).toNatClampNeg) x1) 66 x0 (((mx_u3 I 65 x0 ((I 2 x0 5).toNatClampNeg) x1) 2 x0 5).toNatClampNeg) x2) 2 x0 5).toNatClampNeg) x3) 2 x0 5) + 1)))) else some ((-2), I)
theorem T34 {d : Nat} {x0 : Nat} {x1 : Int32} {x2 : Int32} {x3 : Int32} {I : Nat → Nat → Nat → Int32} {J : Nat → Nat → Nat → Int64} {h : Nat → Nat} {μ : mx_Rg × (Nat × (Nat → Int32)) × (Nat × Nat)} {Q : Option mx_V → mx_Hp → Prop} {o : Int32 × (Nat → Nat → Nat → Int32)} (hf : f34 x0 x1 x2 x3 I = some o) (hk : Q (some (mx_i o.1)) (hC o.2 J h, μ)) : mx_WP (d + 0) 34 0 (mx_ent 34 [mx_r (some (0, 2, x0)), mx_i x1, mx_i x2, mx_i x3]) [] (hC I J h, μ) Q := by
  unfold f34 at hf
  refine mx_WP.go 3 (pc' := 5) (L' := [some (mx_r (some (0, 2, x0))), some (mx_i x1), some (mx_i x2), some (mx_i x3)]) (st' := [mx_i 3, mx_i (I 2 x0 5)]) (σ' := (hC I J h, μ)) rfl ?_
  by_cases c1 : (I 2 x0 5) < 3
  · rw [if_pos c1] at hf
    refine mx_WP.blt (x := (I 2 x0 5)) (y := 3) (q := 11) (p3 := 8) rfl (fun _ => ?_) (fun hh => absurd c1 hh)
    refine mx_WP.go 5 (pc' := 20) (L' := [some (mx_r (some (0, 2, x0))), some (mx_i x1), some (mx_i x2), some (mx_i x3)]) (st' := [mx_i x1, mx_i (I 2 x0 5), mx_r (some (0, 65, x0))]) (σ' := (hC I J h, μ)) rfl ?_
    by_cases c2 : (I 2 x0 5) < 0 ∨ 3 ≤ (I 2 x0 5).toNatClampNeg
    · rw [if_pos c2] at hf
      cases hf
    rw [if_neg c2] at hf
    refine mx_WP.iastx c2 ?_
    show mx_WP (d + 0) 34 21 [some (mx_r (some (0, 2, x0))), some (mx_i x1), some (mx_i x2), some (mx_i x3)] [] (hC (mx_u3 I 65 x0 ((I 2 x0 5).toNatClampNeg) x1) J h, μ) Q
    refine mx_WP.go 5 (pc' := 30) (L' := [some (mx_r (some (0, 2, x0))), some (mx_i x1), some (mx_i x2), some (mx_i x3)]) (st' := [mx_i x2, mx_i ((mx_u3 I 65 x0 ((I 2 x0 5).toNatClampNeg) x1) 2 x0 5), mx_r (some (0, 66, x0))]) (σ' := (hC (mx_u3 I 65 x0 ((I 2 x0 5).toNatClampNeg) x1) J h, μ)) rfl ?_
    by_cases c3 : ((mx_u3 I 65 x0 ((I 2 x0 5).toNatClampNeg) x1) 2 x0 5) < 0 ∨ 3 ≤ ((mx_u3 I 65 x0 ((I 2 x0 5).toNatClampNeg) x1) 2 x0 5).toNatClampNeg
    · rw [if_pos c3] at hf
      cases hf
    rw [if_neg c3] at hf
    refine mx_WP.iastx c3 ?_
    show mx_WP (d + 0) 34 31 [some (mx_r (some (0, 2, x0))), some (mx_i x1), some (mx_i x2), some (mx_i x3)] [] (hC (mx_u3 (mx_u3 I 65 x0 ((I 2 x0 5).toNatClampNeg) x1) 66 x0 (((mx_u3 I 65 x0 ((I 2 x0 5).toNatClampNeg) x1) 2 x0 5).toNatClampNeg) x2) J h, μ) Q
    refine mx_WP.go 5 (pc' := 40) (L' := [some (mx_r (some (0, 2, x0))), some (mx_i x1), some (mx_i x2), some (mx_i x3)]) (st' := [mx_i x3, mx_i ((mx_u3 (mx_u3 I 65 x0 ((I 2 x0 5).toNatClampNeg) x1) 66 x0 (((mx_u3 I 65 x0 ((I 2 x0 5).toNatClampNeg) x1) 2 x0 5).toNatClampNeg) x2) 2 x0 5), mx_r (some (0, 67, x0))]) (σ' := (hC (mx_u3 (mx_u3 I 65 x0 ((I 2 x0 5).toNatClampNeg) x1) 66 x0 (((mx_u3 I 65 x0 ((I 2 x0 5).toNatClampNeg) x1) 2 x0 5).toNatClampNeg) x2) J h, μ)) rfl ?_
    by_cases c4 : ((mx_u3 (mx_u3 I 65 x0 ((I 2 x0 5).toNatClampNeg) x1) 66 x0 (((mx_u3 I 65 x0 ((I 2 x0 5).toNatClampNeg) x1) 2 x0 5).toNatClampNeg) x2) 2 x0 5) < 0 ∨ 3 ≤ ((mx_u3 (mx_u3 I 65 x0 ((I 2 x0 5).toNatClampNeg) x1) 66 x0 (((mx_u3 I 65 x0 ((I 2 x0 5).toNatClampNeg) x1) 2 x0 5).toNatClampNeg) x2) 2 x0 5).toNatClampNeg
    · rw [if_pos c4] at hf
      cases hf
    rw [if_neg c4] at hf
    refine mx_WP.iastx c4 ?_
    show mx_WP (d + 0) 34 41 [some (mx_r (some (0, 2, x0))), some (mx_i x1), some (mx_i x2), some (mx_i x3)] [] (hC (mx_u3 (mx_u3 (mx_u3 I 65 x0 ((I 2 x0 5).toNatClampNeg) x1) 66 x0 (((mx_u3 I 65 x0 ((I 2 x0 5).toNatClampNeg) x1) 2 x0 5).toNatClampNeg) x2) 67 x0 (((mx_u3 (mx_u3 I 65 x0 ((I 2 x0 5).toNatClampNeg) x1) 66 x0 (((mx_u3 I 65 x0 ((I 2 x0 5).toNatClampNeg) x1) 2 x0 5).toNatClampNeg) x2) 2 x0 5).toNatClampNeg) x3) J h, μ) Q
    refine mx_WP.go 8 (pc' := 55) (L' := [some (mx_r (some (0, 2, x0))), some (mx_i x1), some (mx_i x2), some (mx_i x3)]) (st' := [mx_i ((mx_u3 (mx_u3 (mx_u3 (mx_u3 I 65 x0 ((I 2 x0 5).toNatClampNeg) x1) 66 x0 (((mx_u3 I 65 x0 ((I 2 x0 5).toNatClampNeg) x1) 2 x0 5).toNatClampNeg) x2) 67 x0 (((mx_u3 (mx_u3 I 65 x0 ((I 2 x0 5).toNatClampNeg) x1) 66 x0 (((mx_u3 I 65 x0 ((I 2 x0 5).toNatClampNeg) x1) 2 x0 5).toNatClampNeg) x2) 2 x0 5).toNatClampNeg) x3) 2 x0 5 (((mx_u3 (mx_u3 (mx_u3 I 65 x0 ((I 2 x0 5).toNatClampNeg) x1) 66 x0 (((mx_u3 I 65 x0 ((I 2 x0 5).toNatClampNeg) x1) 2 x0 5).toNatClampNeg) x2) 67 x0 (((mx_u3 (mx_u3 I 65 x0 ((I 2 x0 5).toNatClampNeg) x1) 66 x0 (((mx_u3 I 65 x0 ((I 2 x0 5).toNatClampNeg) x1) 2 x0 5).toNatClampNeg) x2) 2 x0 5).toNatClampNeg) x3) 2 x0 5) + 1)) 2 x0 5)]) (σ' := (hC (mx_u3 (mx_u3 (mx_u3 (mx_u3 I 65 x0 ((I 2 x0 5).toNatClampNeg) x1) 66 x0 (((mx_u3 I 65 x0 ((I 2 x0 5).toNatClampNeg) x1) 2 x0 5).toNatClampNeg) x2) 67 x0 (((mx_u3 (mx_u3 I 65 x0 ((I 2 x0 5).toNatClampNeg) x1) 66 x0 (((mx_u3 I 65 x0 ((I 2 x0 5).toNatClampNeg) x1) 2 x0 5).toNatClampNeg) x2) 2 x0 5).toNatClampNeg) x3) 2 x0 5 (((mx_u3 (mx_u3 (mx_u3 I 65 x0 ((I 2 x0 5).toNatClampNeg) x1) 66 x0 (((mx_u3 I 65 x0 ((I 2 x0 5).toNatClampNeg) x1) 2 x0 5).toNatClampNeg) x2) 67 x0 (((mx_u3 (mx_u3 I 65 x0 ((I 2 x0 5).toNatClampNeg) x1) 66 x0 (((mx_u3 I 65 x0 ((I 2 x0 5).toNatClampNeg) x1) 2 x0 5).toNatClampNeg) x2) 2 x0 5).toNatClampNeg) x3) 2 x0 5) + 1)) J h, μ)) rfl ?_
    rw [← Option.some.inj hf] at hk
    refine mx_WP.ret (v := some (mx_i ((mx_u3 (mx_u3 (mx_u3 (mx_u3 I 65 x0 ((I 2 x0 5).toNatClampNeg) x1) 66 x0 (((mx_u3 I 65 x0 ((I 2 x0 5).toNatClampNeg) x1) 2 x0 5).toNatClampNeg) x2) 67 x0 (((mx_u3 (mx_u3 I 65 x0 ((I 2 x0 5).toNatClampNeg) x1) 66 x0 (((mx_u3 I 65 x0 ((I 2 x0 5).toNatClampNeg) x1) 2 x0 5).toNatClampNeg) x2) 2 x0 5).toNatClampNeg) x3) 2 x0 5 (((mx_u3 (mx_u3 (mx_u3 I 65 x0 ((I 2 x0 5).toNatClampNeg) x1) 66 x0 (((mx_u3 I 65 x0 ((I 2 x0 5).toNatClampNeg) x1) 2 x0 5).toNatClampNeg) x2) 67 x0 (((mx_u3 (mx_u3 I 65 x0 ((I 2 x0 5).toNatClampNeg) x1) 66 x0 (((mx_u3 I 65 x0 ((I 2 x0 5).toNatClampNeg) x1) 2 x0 5).toNatClampNeg) x2) 2 x0 5).toNatClampNeg) x3) 2 x0 5) + 1)) 2 x0 5))) rfl ?_
    exact hk
  · rw [if_neg c1] at hf
    refine mx_WP.blt (x := (I 2 x0 5)) (y := 3) (q := 11) (p3 := 8) rfl (fun hh => absurd hh c1) (fun _ => ?_)
    refine mx_WP.go 1 (pc' := 10) (L' := [some (mx_r (some (0, 2, x0))), some (mx_i x1), some (mx_i x2), some (mx_i x3)]) (st' := [mx_i (-2)]) (σ' := (hC I J h, μ)) rfl ?_
    rw [← Option.some.inj hf] at hk
    refine mx_WP.ret (v := some (mx_i (-2))) rfl ?_
    exact hk
def f3 (x1 : Int32) (x2 : Int32) (x3 : Int32) (I : Nat → Nat → Nat → Int32) : Option (Int32 × (Nat → Nat → Nat → Int32)) :=
  (f4 x1).bind fun u1 =>
  if u1 = true then (if x2 < 0 then (some ((-1), I)) else if x3 < x2 then (some ((-1), I)) else if x3 ≤ 255 then ((f34 0 x1 x2 x3 I).bind fun u6 =>
  some (u6.1, u6.2)) else some ((-1), I)) else some ((-1), I)
theorem T3 {d : Nat} {x1 : Int32} {x2 : Int32} {x3 : Int32} {I : Nat → Nat → Nat → Int32} {J : Nat → Nat → Nat → Int64} {h : Nat → Nat} {μ : mx_Rg × (Nat × (Nat → Int32)) × (Nat × Nat)} {Q : Option mx_V → mx_Hp → Prop} {o : Int32 × (Nat → Nat → Nat → Int32)} (hf : f3 x1 x2 x3 I = some o) (hk : Q (some (mx_i o.1)) (hC o.2 J h, μ)) : mx_WP (d + 1) 3 0 (mx_ent 3 [mx_r (some (0, 0, 0)), mx_i x1, mx_i x2, mx_i x3]) [] (hC I J h, μ) Q := by
  unfold f3 at hf
  refine mx_WP.go 1 (pc' := 1) (L' := [some (mx_r (some (0, 0, 0))), some (mx_i x1), some (mx_i x2), some (mx_i x3)]) (st' := [mx_i x1]) (σ' := (hC I J h, μ)) rfl ?_
  obtain ⟨u1, e8, hf⟩ := Option.bind_eq_some_iff.mp hf
  refine mx_WP.call (d := d + 0) (y := 4) (as := [mx_i x1]) (pc' := 4) (r := []) rfl rfl (T4 (d := d + 0) e8 ?_)
  show mx_WP (d + 1) 3 4 [some (mx_r (some (0, 0, 0))), some (mx_i x1), some (mx_i x2), some (mx_i x3)] [mx_i (b2i u1)] (hC I J h, μ) Q
  by_cases c2 : u1 = true
  · rw [if_pos c2] at hf
    refine mx_WP.zeq (b := u1) (q := 23) (p3 := 7) rfl (fun hh => absurd hh (by simp [c2])) (fun _ => ?_)
    refine mx_WP.go 1 (pc' := 8) (L' := [some (mx_r (some (0, 0, 0))), some (mx_i x1), some (mx_i x2), some (mx_i x3)]) (st' := [mx_i x2]) (σ' := (hC I J h, μ)) rfl ?_
    by_cases c3 : x2 < 0
    · rw [if_pos c3] at hf
      refine mx_WP.blt (x := x2) (y := 0) (q := 23) (p3 := 11) rfl (fun _ => ?_) (fun hh => absurd c3 hh)
      refine mx_WP.go 1 (pc' := 24) (L' := [some (mx_r (some (0, 0, 0))), some (mx_i x1), some (mx_i x2), some (mx_i x3)]) (st' := [mx_i (-1)]) (σ' := (hC I J h, μ)) rfl ?_
      rw [← Option.some.inj hf] at hk
      refine mx_WP.ret (v := some (mx_i (-1))) rfl ?_
      exact hk
    · rw [if_neg c3] at hf
      refine mx_WP.blt (x := x2) (y := 0) (q := 23) (p3 := 11) rfl (fun hh => absurd hh c3) (fun _ => ?_)
      refine mx_WP.go 2 (pc' := 13) (L' := [some (mx_r (some (0, 0, 0))), some (mx_i x1), some (mx_i x2), some (mx_i x3)]) (st' := [mx_i x3, mx_i x2]) (σ' := (hC I J h, μ)) rfl ?_
      by_cases c4 : x3 < x2
      · rw [if_pos c4] at hf
        refine mx_WP.bgt (x := x2) (y := x3) (q := 23) (p3 := 16) rfl (fun _ => ?_) (fun hh => absurd c4 hh)
        refine mx_WP.go 1 (pc' := 24) (L' := [some (mx_r (some (0, 0, 0))), some (mx_i x1), some (mx_i x2), some (mx_i x3)]) (st' := [mx_i (-1)]) (σ' := (hC I J h, μ)) rfl ?_
        rw [← Option.some.inj hf] at hk
        refine mx_WP.ret (v := some (mx_i (-1))) rfl ?_
        exact hk
      · rw [if_neg c4] at hf
        refine mx_WP.bgt (x := x2) (y := x3) (q := 23) (p3 := 16) rfl (fun hh => absurd hh c4) (fun _ => ?_)
        refine mx_WP.go 2 (pc' := 20) (L' := [some (mx_r (some (0, 0, 0))), some (mx_i x1), some (mx_i x2), some (mx_i x3)]) (st' := [mx_i 255, mx_i x3]) (σ' := (hC I J h, μ)) rfl ?_
        by_cases c5 : x3 ≤ 255
        · rw [if_pos c5] at hf
          refine mx_WP.ble (x := x3) (y := 255) (q := 25) (p3 := 23) rfl (fun _ => ?_) (fun hh => absurd c5 hh)
          refine mx_WP.go 6 (pc' := 35) (L' := [some (mx_r (some (0, 0, 0))), some (mx_i x1), some (mx_i x2), some (mx_i x3)]) (st' := [mx_i x3, mx_i x2, mx_i x1, mx_r (some (0, 2, 0))]) (σ' := (hC I J h, μ)) rfl ?_
          obtain ⟨u6, e7, hf⟩ := Option.bind_eq_some_iff.mp hf
          refine mx_WP.call (d := d + 0) (y := 34) (as := [mx_r (some (0, 2, 0)), mx_i x1, mx_i x2, mx_i x3]) (pc' := 38) (r := []) rfl rfl (T34 (d := d + 0) e7 ?_)
          show mx_WP (d + 1) 3 38 [some (mx_r (some (0, 0, 0))), some (mx_i x1), some (mx_i x2), some (mx_i x3)] [mx_i u6.1] (hC u6.2 J h, μ) Q
          rw [← Option.some.inj hf] at hk
          refine mx_WP.ret (v := some (mx_i u6.1)) rfl ?_
          exact hk
        · rw [if_neg c5] at hf
          refine mx_WP.ble (x := x3) (y := 255) (q := 25) (p3 := 23) rfl (fun hh => absurd hh c5) (fun _ => ?_)
          refine mx_WP.go 1 (pc' := 24) (L' := [some (mx_r (some (0, 0, 0))), some (mx_i x1), some (mx_i x2), some (mx_i x3)]) (st' := [mx_i (-1)]) (σ' := (hC I J h, μ)) rfl ?_
          rw [← Option.some.inj hf] at hk
          refine mx_WP.ret (v := some (mx_i (-1))) rfl ?_
          exact hk
  · rw [if_neg c2] at hf
    refine mx_WP.zeq (b := u1) (q := 23) (p3 := 7) rfl (fun _ => ?_) (fun hh => absurd hh (by simp [c2]))
    refine mx_WP.go 1 (pc' := 24) (L' := [some (mx_r (some (0, 0, 0))), some (mx_i x1), some (mx_i x2), some (mx_i x3)]) (st' := [mx_i (-1)]) (σ' := (hC I J h, μ)) rfl ?_
    rw [← Option.some.inj hf] at hk
    refine mx_WP.ret (v := some (mx_i (-1))) rfl ?_
    exact hk
def f8 (x0 : Int32) : Option (Bool) :=
  if x0 < 97 then (some false) else if 122 < x0 then (some false) else some true
theorem T8 {d : Nat} {x0 : Int32} {σ : mx_Hp} {Q : Option mx_V → mx_Hp → Prop} {o : Bool} (hf : f8 x0 = some o) (hk : Q (some (mx_i (b2i o))) σ) : mx_WP (d + 0) 8 0 (mx_ent 8 [mx_i x0]) [] σ Q := by
  unfold f8 at hf
  refine mx_WP.go 2 (pc' := 3) (L' := [some (mx_i x0)]) (st' := [mx_i 97, mx_i x0]) (σ' := σ) rfl ?_
  by_cases c1 : x0 < 97
  · rw [if_pos c1] at hf
    refine mx_WP.blt (x := x0) (y := 97) (q := 16) (p3 := 6) rfl (fun _ => ?_) (fun hh => absurd c1 hh)
    refine mx_WP.go 1 (pc' := 17) (L' := [some (mx_i x0)]) (st' := [mx_i 0]) (σ' := σ) rfl ?_
    rw [← Option.some.inj hf] at hk
    refine mx_WP.ret (v := some (mx_i 0)) rfl ?_
    exact hk
  · rw [if_neg c1] at hf
    refine mx_WP.blt (x := x0) (y := 97) (q := 16) (p3 := 6) rfl (fun hh => absurd hh c1) (fun _ => ?_)
    refine mx_WP.go 2 (pc' := 9) (L' := [some (mx_i x0)]) (st' := [mx_i 122, mx_i x0]) (σ' := σ) rfl ?_
    by_cases c2 : 122 < x0
    · rw [if_pos c2] at hf
      refine mx_WP.bgt (x := x0) (y := 122) (q := 16) (p3 := 12) rfl (fun _ => ?_) (fun hh => absurd c2 hh)
      refine mx_WP.go 1 (pc' := 17) (L' := [some (mx_i x0)]) (st' := [mx_i 0]) (σ' := σ) rfl ?_
      rw [← Option.some.inj hf] at hk
      refine mx_WP.ret (v := some (mx_i 0)) rfl ?_
      exact hk
    · rw [if_neg c2] at hf
      refine mx_WP.bgt (x := x0) (y := 122) (q := 16) (p3 := 12) rfl (fun hh => absurd hh c2) (fun _ => ?_)
      refine mx_WP.go 2 (pc' := 17) (L' := [some (mx_i x0)]) (st' := [mx_i 1]) (σ' := σ) rfl ?_
      rw [← Option.some.inj hf] at hk
      refine mx_WP.ret (v := some (mx_i 1)) rfl ?_
      exact hk
def f7 (x0 : Int32) : Option (Bool) :=
  (f8 x0).bind fun u1 =>
  if u1 = true then (some true) else if x0 < 48 then (if x0 = 46 then (some true) else some false) else if x0 ≤ 57 then (some true) else if x0 = 46 then (some true) else some false
theorem T7 {d : Nat} {x0 : Int32} {σ : mx_Hp} {Q : Option mx_V → mx_Hp → Prop} {o : Bool} (hf : f7 x0 = some o) (hk : Q (some (mx_i (b2i o))) σ) : mx_WP (d + 1) 7 0 (mx_ent 7 [mx_i x0]) [] σ Q := by
  unfold f7 at hf
  refine mx_WP.go 1 (pc' := 1) (L' := [some (mx_i x0)]) (st' := [mx_i x0]) (σ' := σ) rfl ?_
  obtain ⟨u1, e7, hf⟩ := Option.bind_eq_some_iff.mp hf
  refine mx_WP.call (d := d + 0) (y := 8) (as := [mx_i x0]) (pc' := 4) (r := []) rfl rfl (T8 (d := d + 0) e7 ?_)
  show mx_WP (d + 1) 7 4 [some (mx_i x0)] [mx_i (b2i u1)] σ Q
  by_cases c2 : u1 = true
  · rw [if_pos c2] at hf
    refine mx_WP.zne (b := u1) (q := 25) (p3 := 7) rfl (fun _ => ?_) (fun hh => absurd hh (by simp [c2]))
    refine mx_WP.go 2 (pc' := 30) (L' := [some (mx_i x0)]) (st' := [mx_i 1]) (σ' := σ) rfl ?_
    rw [← Option.some.inj hf] at hk
    refine mx_WP.ret (v := some (mx_i 1)) rfl ?_
    exact hk
  · rw [if_neg c2] at hf
    refine mx_WP.zne (b := u1) (q := 25) (p3 := 7) rfl (fun hh => absurd hh (by simp [c2])) (fun _ => ?_)
    refine mx_WP.go 2 (pc' := 10) (L' := [some (mx_i x0)]) (st' := [mx_i 48, mx_i x0]) (σ' := σ) rfl ?_
    by_cases c3 : x0 < 48
    · rw [if_pos c3] at hf
      refine mx_WP.blt (x := x0) (y := 48) (q := 19) (p3 := 13) rfl (fun _ => ?_) (fun hh => absurd c3 hh)
      refine mx_WP.go 2 (pc' := 22) (L' := [some (mx_i x0)]) (st' := [mx_i 46, mx_i x0]) (σ' := σ) rfl ?_
      by_cases c4 : x0 = 46
      · rw [if_pos c4] at hf
        refine mx_WP.bne (x := x0) (y := 46) (q := 29) (p3 := 25) rfl (fun hh => absurd c4 hh) (fun _ => ?_)
        refine mx_WP.go 2 (pc' := 30) (L' := [some (mx_i x0)]) (st' := [mx_i 1]) (σ' := σ) rfl ?_
        rw [← Option.some.inj hf] at hk
        refine mx_WP.ret (v := some (mx_i 1)) rfl ?_
        exact hk
      · rw [if_neg c4] at hf
        refine mx_WP.bne (x := x0) (y := 46) (q := 29) (p3 := 25) rfl (fun _ => ?_) (fun hh => absurd c4 hh)
        refine mx_WP.go 1 (pc' := 30) (L' := [some (mx_i x0)]) (st' := [mx_i 0]) (σ' := σ) rfl ?_
        rw [← Option.some.inj hf] at hk
        refine mx_WP.ret (v := some (mx_i 0)) rfl ?_
        exact hk
    · rw [if_neg c3] at hf
      refine mx_WP.blt (x := x0) (y := 48) (q := 19) (p3 := 13) rfl (fun hh => absurd hh c3) (fun _ => ?_)
      refine mx_WP.go 2 (pc' := 16) (L' := [some (mx_i x0)]) (st' := [mx_i 57, mx_i x0]) (σ' := σ) rfl ?_
      by_cases c5 : x0 ≤ 57
      · rw [if_pos c5] at hf
        refine mx_WP.ble (x := x0) (y := 57) (q := 25) (p3 := 19) rfl (fun _ => ?_) (fun hh => absurd c5 hh)
        refine mx_WP.go 2 (pc' := 30) (L' := [some (mx_i x0)]) (st' := [mx_i 1]) (σ' := σ) rfl ?_
        rw [← Option.some.inj hf] at hk
        refine mx_WP.ret (v := some (mx_i 1)) rfl ?_
        exact hk
      · rw [if_neg c5] at hf
        refine mx_WP.ble (x := x0) (y := 57) (q := 25) (p3 := 19) rfl (fun hh => absurd hh c5) (fun _ => ?_)
        refine mx_WP.go 2 (pc' := 22) (L' := [some (mx_i x0)]) (st' := [mx_i 46, mx_i x0]) (σ' := σ) rfl ?_
        by_cases c6 : x0 = 46
        · rw [if_pos c6] at hf
          refine mx_WP.bne (x := x0) (y := 46) (q := 29) (p3 := 25) rfl (fun hh => absurd c6 hh) (fun _ => ?_)
          refine mx_WP.go 2 (pc' := 30) (L' := [some (mx_i x0)]) (st' := [mx_i 1]) (σ' := σ) rfl ?_
          rw [← Option.some.inj hf] at hk
          refine mx_WP.ret (v := some (mx_i 1)) rfl ?_
          exact hk
        · rw [if_neg c6] at hf
          refine mx_WP.bne (x := x0) (y := 46) (q := 29) (p3 := 25) rfl (fun _ => ?_) (fun hh => absurd c6 hh)
          refine mx_WP.go 1 (pc' := 30) (L' := [some (mx_i x0)]) (st' := [mx_i 0]) (σ' := σ) rfl ?_
          rw [← Option.some.inj hf] at hk
          refine mx_WP.ret (v := some (mx_i 0)) rfl ?_
          exact hk
def b6_2 (x0 : Int64)  (s : Int32) : Option ((Int32) ⊕ (Int32)) :=
  if 8 ≤ s then (some (Sum.inr s)) else (f2 x0 s).bind fun u102 =>
  (f7 u102).bind fun u103 =>
  if u103 = true then (some (Sum.inl (s + 1))) else some (Sum.inr s)
theorem B6_2 {d : Nat} {x0 : Int64} {σ : mx_Hp} {Q : Option mx_V → mx_Hp → Prop} {s : Int32} {o : (Int32) ⊕ (Int32)} (hf : b6_2 x0 s = some o) (hk : Sum.elim (fun s : Int32 => mx_WP (d + 2) 6 2 [some (mx_l x0), none, some (mx_i s)] [] σ Q) (fun x : Int32 => mx_WP (d + 2) 6 25 [some (mx_l x0), none, some (mx_i x)] [] σ Q) o) : mx_WP (d + 2) 6 2 [some (mx_l x0), none, some (mx_i s)] [] σ Q := by
  unfold b6_2 at hf
  refine mx_WP.go 2 (pc' := 5) (L' := [some (mx_l x0), none, some (mx_i s)]) (st' := [mx_i 8, mx_i s]) (σ' := σ) rfl ?_
  by_cases c101 : 8 ≤ s
  · rw [if_pos c101] at hf
    refine mx_WP.bge (x := s) (y := 8) (q := 25) (p3 := 8) rfl (fun _ => ?_) (fun hh => absurd c101 hh)
    rw [← Option.some.inj hf] at hk
    exact hk
  · rw [if_neg c101] at hf
    refine mx_WP.bge (x := s) (y := 8) (q := 25) (p3 := 8) rfl (fun hh => absurd hh c101) (fun _ => ?_)
    refine mx_WP.go 2 (pc' := 10) (L' := [some (mx_l x0), none, some (mx_i s)]) (st' := [mx_i s, mx_l x0]) (σ' := σ) rfl ?_
    obtain ⟨u102, e106, hf⟩ := Option.bind_eq_some_iff.mp hf
    refine mx_WP.call (d := d + 1) (y := 2) (as := [mx_l x0, mx_i s]) (pc' := 13) (r := []) rfl rfl (T2 (d := d + 1) e106 ?_)
    show mx_WP (d + 2) 6 13 [some (mx_l x0), none, some (mx_i s)] [mx_i u102] σ Q
    obtain ⟨u103, e105, hf⟩ := Option.bind_eq_some_iff.mp hf
    refine mx_WP.call (d := d + 1) (y := 7) (as := [mx_i u102]) (pc' := 16) (r := []) rfl rfl (T7 (d := d + 0) e105 ?_)
    show mx_WP (d + 2) 6 16 [some (mx_l x0), none, some (mx_i s)] [mx_i (b2i u103)] σ Q
    by_cases c104 : u103 = true
    · rw [if_pos c104] at hf
      refine mx_WP.zeq (b := u103) (q := 25) (p3 := 19) rfl (fun hh => absurd hh (by simp [c104])) (fun _ => ?_)
      refine mx_WP.go 2 (pc' := 2) (L' := [some (mx_l x0), none, some (mx_i (s + 1))]) (st' := []) (σ' := σ) rfl ?_
      rw [← Option.some.inj hf] at hk
      exact hk
    · rw [if_neg c104] at hf
      refine mx_WP.zeq (b := u103) (q := 25) (p3 := 19) rfl (fun _ => ?_) (fun hh => absurd hh (by simp [c104]))
      rw [← Option.some.inj hf] at hk
      exact hk
theorem L6_2 {d : Nat} {x0 : Int64} {σ : mx_Hp} {Q : Option mx_V → mx_Hp → Prop} {n : Nat} {s : Int32} {o : Int32} (hf : mx_lp (b6_2 x0) n s = some o) (hk : (fun x : Int32 => mx_WP (d + 2) 6 25 [some (mx_l x0), none, some (mx_i x)] [] σ Q) o) : mx_WP (d + 2) 6 2 [some (mx_l x0), none, some (mx_i s)] [] σ Q := mx_lp_ok (P := fun s : Int32 => mx_WP (d + 2) 6 2 [some (mx_l x0), none, some (mx_i s)] [] σ Q) (E := (fun x : Int32 => mx_WP (d + 2) 6 25 [some (mx_l x0), none, some (mx_i x)] [] σ Q)) (fun s o hf hk => B6_2 hf hk) n s o hf hk
def j6_25 (v0 : Int64) (v2 : Int32)  : Option (Bool) :=
  if v2 = 8 then (some true) else if v2 ≤ 0 then (some false) else if (lg_cmp ((v0.toUInt64 >>> ((8 * v2).toInt64.toUInt64 &&& Int64.toUInt64 63)).toInt64) 0) = 0 then (some true) else some false
theorem J6_25 {d : Nat} {v0 : Int64} {v2 : Int32}  {σ : mx_Hp} {Q : Option mx_V → mx_Hp → Prop} {o : Bool} (hf : j6_25 v0 v2 = some o) (hk : Q (some (mx_i (b2i o))) σ) : mx_WP (d + 2) 6 25 [some (mx_l v0), none, some (mx_i v2)] [] σ Q := by
  unfold j6_25 at hf
  refine mx_WP.go 2 (pc' := 28) (L' := [some (mx_l v0), none, some (mx_i v2)]) (st' := [mx_i 8, mx_i v2]) (σ' := σ) rfl ?_
  by_cases c1109 : v2 = 8
  · rw [if_pos c1109] at hf
    refine mx_WP.beq (x := v2) (y := 8) (q := 46) (p3 := 31) rfl (fun _ => ?_) (fun hh => absurd c1109 hh)
    refine mx_WP.go 2 (pc' := 51) (L' := [some (mx_l v0), none, some (mx_i v2)]) (st' := [mx_i 1]) (σ' := σ) rfl ?_
    rw [← Option.some.inj hf] at hk
    refine mx_WP.ret (v := some (mx_i 1)) rfl ?_
    exact hk
  · rw [if_neg c1109] at hf
    refine mx_WP.beq (x := v2) (y := 8) (q := 46) (p3 := 31) rfl (fun hh => absurd hh c1109) (fun _ => ?_)
    refine mx_WP.go 1 (pc' := 32) (L' := [some (mx_l v0), none, some (mx_i v2)]) (st' := [mx_i v2]) (σ' := σ) rfl ?_
    by_cases c1110 : v2 ≤ 0
    · rw [if_pos c1110] at hf
      refine mx_WP.ble (x := v2) (y := 0) (q := 50) (p3 := 35) rfl (fun _ => ?_) (fun hh => absurd c1110 hh)
      refine mx_WP.go 1 (pc' := 51) (L' := [some (mx_l v0), none, some (mx_i v2)]) (st' := [mx_i 0]) (σ' := σ) rfl ?_
      rw [← Option.some.inj hf] at hk
      refine mx_WP.ret (v := some (mx_i 0)) rfl ?_
      exact hk
    · rw [if_neg c1110] at hf
      refine mx_WP.ble (x := v2) (y := 0) (q := 50) (p3 := 35) rfl (fun hh => absurd hh c1110) (fun _ => ?_)
      refine mx_WP.go 7 (pc' := 43) (L' := [some (mx_l v0), none, some (mx_i v2)]) (st' := [mx_i (lg_cmp ((v0.toUInt64 >>> ((8 * v2).toInt64.toUInt64 &&& Int64.toUInt64 63)).toInt64) 0)]) (σ' := σ) rfl ?_
      by_cases c1111 : (lg_cmp ((v0.toUInt64 >>> ((8 * v2).toInt64.toUInt64 &&& Int64.toUInt64 63)).toInt64) 0) = 0
      · rw [if_pos c1111] at hf
        refine mx_WP.bne (x := (lg_cmp ((v0.toUInt64 >>> ((8 * v2).toInt64.toUInt64 &&& Int64.toUInt64 63)).toInt64) 0)) (y := 0) (q := 50) (p3 := 46) rfl (fun hh => absurd c1111 hh) (fun _ => ?_)
        refine mx_WP.go 2 (pc' := 51) (L' := [some (mx_l v0), none, some (mx_i v2)]) (st' := [mx_i 1]) (σ' := σ) rfl ?_
        rw [← Option.some.inj hf] at hk
        refine mx_WP.ret (v := some (mx_i 1)) rfl ?_
        exact hk
      · rw [if_neg c1111] at hf
        refine mx_WP.bne (x := (lg_cmp ((v0.toUInt64 >>> ((8 * v2).toInt64.toUInt64 &&& Int64.toUInt64 63)).toInt64) 0)) (y := 0) (q := 50) (p3 := 46) rfl (fun _ => ?_) (fun hh => absurd c1111 hh)
        refine mx_WP.go 1 (pc' := 51) (L' := [some (mx_l v0), none, some (mx_i v2)]) (st' := [mx_i 0]) (σ' := σ) rfl ?_
        rw [← Option.some.inj hf] at hk
        refine mx_WP.ret (v := some (mx_i 0)) rfl ?_
        exact hk
def f6 (x0 : Int64) : Option (Bool) :=
  (mx_lp (b6_2 x0) mx_fu 0).bind fun u107 =>
  j6_25 x0 u107
theorem T6 {d : Nat} {x0 : Int64} {σ : mx_Hp} {Q : Option mx_V → mx_Hp → Prop} {o : Bool} (hf : f6 x0 = some o) (hk : Q (some (mx_i (b2i o))) σ) : mx_WP (d + 2) 6 0 (mx_ent 6 [mx_l x0]) [] σ Q := by
  unfold f6 at hf
  refine mx_WP.go 2 (pc' := 2) (L' := [some (mx_l x0), none, some (mx_i 0)]) (st' := []) (σ' := σ) rfl ?_
  obtain ⟨u107, e108, hf⟩ := Option.bind_eq_some_iff.mp hf
  refine L6_2 (d := d) e108 ?_
  show mx_WP (d + 2) 6 25 [some (mx_l x0), none, some (mx_i u107)] [] σ Q
  exact J6_25 (d := d) hf hk
def f35 (x0 : Nat) (x1 : Int64) (x2 : Int32) (I : Nat → Nat → Nat → Int32) (J : Nat → Nat → Nat → Int64) : Option (Int32 × (Nat → Nat → Nat → Int32) × (Nat → Nat → Nat → Int64)) :=
  if (I 2 x0 6) < 4 then (if (I 2 x0 6) < 0 ∨ 4 ≤ (I 2 x0 6).toNatClampNeg then none else if (I 2 x0 6) < 0 ∨ 4 ≤ (I 2 x0 6).toNatClampNeg then none else some ((mx_u3 (mx_u3 I 69 x0 ((I 2 x0 6).toNatClampNeg) x2) 2 x0 6 (((mx_u3 I 69 x0 ((I 2 x0 6).toNatClampNeg) x2) 2 x0 6) + 1)) 2 x0 6, (mx_u3 (mx_u3 I 69 x0 ((I 2 x0 6).toNatClampNeg) x2) 2 x0 6 (((mx_u3 I 69 x0 ((I 2 x0 6).toNatClampNeg) x2) 2 x0 6) + 1)), (mx_u3 J 68 x0 ((I 2 x0 6).toNatClampNeg) x1))) else some ((-2), I, J)
theorem T35 {d : Nat} {x0 : Nat} {x1 : Int64} {x2 : Int32} {I : Nat → Nat → Nat → Int32} {J : Nat → Nat → Nat → Int64} {h : Nat → Nat} {μ : mx_Rg × (Nat × (Nat → Int32)) × (Nat × Nat)} {Q : Option mx_V → mx_Hp → Prop} {o : Int32 × (Nat → Nat → Nat → Int32) × (Nat → Nat → Nat → Int64)} (hf : f35 x0 x1 x2 I J = some o) (hk : Q (some (mx_i o.1)) (hC o.2.1 o.2.2 h, μ)) : mx_WP (d + 0) 35 0 (mx_ent 35 [mx_r (some (0, 2, x0)), mx_l x1, mx_i x2]) [] (hC I J h, μ) Q := by
  unfold f35 at hf
  refine mx_WP.go 3 (pc' := 5) (L' := [some (mx_r (some (0, 2, x0))), some (mx_l x1), none, some (mx_i x2)]) (st' := [mx_i 4, mx_i (I 2 x0 6)]) (σ' := (hC I J h, μ)) rfl ?_
  by_cases c1 : (I 2 x0 6) < 4
  · rw [if_pos c1] at hf
    refine mx_WP.blt (x := (I 2 x0 6)) (y := 4) (q := 11) (p3 := 8) rfl (fun _ => ?_) (fun hh => absurd c1 hh)
    refine mx_WP.go 5 (pc' := 20) (L' := [some (mx_r (some (0, 2, x0))), some (mx_l x1), none, some (mx_i x2)]) (st' := [mx_l x1, mx_i (I 2 x0 6), mx_r (some (0, 68, x0))]) (σ' := (hC I J h, μ)) rfl ?_
    by_cases c2 : (I 2 x0 6) < 0 ∨ 4 ≤ (I 2 x0 6).toNatClampNeg
    · rw [if_pos c2] at hf
      cases hf
    rw [if_neg c2] at hf
    refine mx_WP.lastx c2 ?_
    show mx_WP (d + 0) 35 21 [some (mx_r (some (0, 2, x0))), some (mx_l x1), none, some (mx_i x2)] [] (hC I (mx_u3 J 68 x0 ((I 2 x0 6).toNatClampNeg) x1) h, μ) Q
    refine mx_WP.go 5 (pc' := 30) (L' := [some (mx_r (some (0, 2, x0))), some (mx_l x1), none, some (mx_i x2)]) (st' := [mx_i x2, mx_i (I 2 x0 6), mx_r (some (0, 69, x0))]) (σ' := (hC I (mx_u3 J 68 x0 ((I 2 x0 6).toNatClampNeg) x1) h, μ)) rfl ?_
    by_cases c3 : (I 2 x0 6) < 0 ∨ 4 ≤ (I 2 x0 6).toNatClampNeg
    · rw [if_pos c3] at hf
      cases hf
    rw [if_neg c3] at hf
    refine mx_WP.iastx c3 ?_
    show mx_WP (d + 0) 35 31 [some (mx_r (some (0, 2, x0))), some (mx_l x1), none, some (mx_i x2)] [] (hC (mx_u3 I 69 x0 ((I 2 x0 6).toNatClampNeg) x2) (mx_u3 J 68 x0 ((I 2 x0 6).toNatClampNeg) x1) h, μ) Q
    refine mx_WP.go 8 (pc' := 45) (L' := [some (mx_r (some (0, 2, x0))), some (mx_l x1), none, some (mx_i x2)]) (st' := [mx_i ((mx_u3 (mx_u3 I 69 x0 ((I 2 x0 6).toNatClampNeg) x2) 2 x0 6 (((mx_u3 I 69 x0 ((I 2 x0 6).toNatClampNeg) x2) 2 x0 6) + 1)) 2 x0 6)]) (σ' := (hC (mx_u3 (mx_u3 I 69 x0 ((I 2 x0 6).toNatClampNeg) x2) 2 x0 6 (((mx_u3 I 69 x0 ((I 2 x0 6).toNatClampNeg) x2) 2 x0 6) + 1)) (mx_u3 J 68 x0 ((I 2 x0 6).toNatClampNeg) x1) h, μ)) rfl ?_
    rw [← Option.some.inj hf] at hk
    refine mx_WP.ret (v := some (mx_i ((mx_u3 (mx_u3 I 69 x0 ((I 2 x0 6).toNatClampNeg) x2) 2 x0 6 (((mx_u3 I 69 x0 ((I 2 x0 6).toNatClampNeg) x2) 2 x0 6) + 1)) 2 x0 6))) rfl ?_
    exact hk
  · rw [if_neg c1] at hf
    refine mx_WP.blt (x := (I 2 x0 6)) (y := 4) (q := 11) (p3 := 8) rfl (fun hh => absurd hh c1) (fun _ => ?_)
    refine mx_WP.go 1 (pc' := 10) (L' := [some (mx_r (some (0, 2, x0))), some (mx_l x1), none, some (mx_i x2)]) (st' := [mx_i (-2)]) (σ' := (hC I J h, μ)) rfl ?_
    rw [← Option.some.inj hf] at hk
    refine mx_WP.ret (v := some (mx_i (-2))) rfl ?_
    exact hk
def f5 (x1 : Int64) (x2 : Int32) (I : Nat → Nat → Nat → Int32) (J : Nat → Nat → Nat → Int64) : Option (Int32 × (Nat → Nat → Nat → Int32) × (Nat → Nat → Nat → Int64)) :=
  (f6 x1).bind fun u1 =>
  if u1 = true then (if x2 < 0 then (some ((-1), I, J)) else if 6 < x2 then (some ((-1), I, J)) else if x2 = 3 then (some ((-1), I, J)) else (f35 0 x1 x2 I J).bind fun u6 =>
  some (u6.1, u6.2.1, u6.2.2)) else some ((-1), I, J)
theorem T5 {d : Nat} {x1 : Int64} {x2 : Int32} {I : Nat → Nat → Nat → Int32} {J : Nat → Nat → Nat → Int64} {h : Nat → Nat} {μ : mx_Rg × (Nat × (Nat → Int32)) × (Nat × Nat)} {Q : Option mx_V → mx_Hp → Prop} {o : Int32 × (Nat → Nat → Nat → Int32) × (Nat → Nat → Nat → Int64)} (hf : f5 x1 x2 I J = some o) (hk : Q (some (mx_i o.1)) (hC o.2.1 o.2.2 h, μ)) : mx_WP (d + 3) 5 0 (mx_ent 5 [mx_r (some (0, 0, 0)), mx_l x1, mx_i x2]) [] (hC I J h, μ) Q := by
  unfold f5 at hf
  refine mx_WP.go 1 (pc' := 1) (L' := [some (mx_r (some (0, 0, 0))), some (mx_l x1), none, some (mx_i x2)]) (st' := [mx_l x1]) (σ' := (hC I J h, μ)) rfl ?_
  obtain ⟨u1, e8, hf⟩ := Option.bind_eq_some_iff.mp hf
  refine mx_WP.call (d := d + 2) (y := 6) (as := [mx_l x1]) (pc' := 4) (r := []) rfl rfl (T6 (d := d + 0) e8 ?_)
  show mx_WP (d + 3) 5 4 [some (mx_r (some (0, 0, 0))), some (mx_l x1), none, some (mx_i x2)] [mx_i (b2i u1)] (hC I J h, μ) Q
  by_cases c2 : u1 = true
  · rw [if_pos c2] at hf
    refine mx_WP.zeq (b := u1) (q := 22) (p3 := 7) rfl (fun hh => absurd hh (by simp [c2])) (fun _ => ?_)
    refine mx_WP.go 1 (pc' := 8) (L' := [some (mx_r (some (0, 0, 0))), some (mx_l x1), none, some (mx_i x2)]) (st' := [mx_i x2]) (σ' := (hC I J h, μ)) rfl ?_
    by_cases c3 : x2 < 0
    · rw [if_pos c3] at hf
      refine mx_WP.blt (x := x2) (y := 0) (q := 22) (p3 := 11) rfl (fun _ => ?_) (fun hh => absurd c3 hh)
      refine mx_WP.go 1 (pc' := 23) (L' := [some (mx_r (some (0, 0, 0))), some (mx_l x1), none, some (mx_i x2)]) (st' := [mx_i (-1)]) (σ' := (hC I J h, μ)) rfl ?_
      rw [← Option.some.inj hf] at hk
      refine mx_WP.ret (v := some (mx_i (-1))) rfl ?_
      exact hk
    · rw [if_neg c3] at hf
      refine mx_WP.blt (x := x2) (y := 0) (q := 22) (p3 := 11) rfl (fun hh => absurd hh c3) (fun _ => ?_)
      refine mx_WP.go 2 (pc' := 14) (L' := [some (mx_r (some (0, 0, 0))), some (mx_l x1), none, some (mx_i x2)]) (st' := [mx_i 6, mx_i x2]) (σ' := (hC I J h, μ)) rfl ?_
      by_cases c4 : 6 < x2
      · rw [if_pos c4] at hf
        refine mx_WP.bgt (x := x2) (y := 6) (q := 22) (p3 := 17) rfl (fun _ => ?_) (fun hh => absurd c4 hh)
        refine mx_WP.go 1 (pc' := 23) (L' := [some (mx_r (some (0, 0, 0))), some (mx_l x1), none, some (mx_i x2)]) (st' := [mx_i (-1)]) (σ' := (hC I J h, μ)) rfl ?_
        rw [← Option.some.inj hf] at hk
        refine mx_WP.ret (v := some (mx_i (-1))) rfl ?_
        exact hk
      · rw [if_neg c4] at hf
        refine mx_WP.bgt (x := x2) (y := 6) (q := 22) (p3 := 17) rfl (fun hh => absurd hh c4) (fun _ => ?_)
        refine mx_WP.go 2 (pc' := 19) (L' := [some (mx_r (some (0, 0, 0))), some (mx_l x1), none, some (mx_i x2)]) (st' := [mx_i 3, mx_i x2]) (σ' := (hC I J h, μ)) rfl ?_
        by_cases c5 : x2 = 3
        · rw [if_pos c5] at hf
          refine mx_WP.bne (x := x2) (y := 3) (q := 24) (p3 := 22) rfl (fun hh => absurd c5 hh) (fun _ => ?_)
          refine mx_WP.go 1 (pc' := 23) (L' := [some (mx_r (some (0, 0, 0))), some (mx_l x1), none, some (mx_i x2)]) (st' := [mx_i (-1)]) (σ' := (hC I J h, μ)) rfl ?_
          rw [← Option.some.inj hf] at hk
          refine mx_WP.ret (v := some (mx_i (-1))) rfl ?_
          exact hk
        · rw [if_neg c5] at hf
          refine mx_WP.bne (x := x2) (y := 3) (q := 24) (p3 := 22) rfl (fun _ => ?_) (fun hh => absurd c5 hh)
          refine mx_WP.go 5 (pc' := 33) (L' := [some (mx_r (some (0, 0, 0))), some (mx_l x1), none, some (mx_i x2)]) (st' := [mx_i x2, mx_l x1, mx_r (some (0, 2, 0))]) (σ' := (hC I J h, μ)) rfl ?_
          obtain ⟨u6, e7, hf⟩ := Option.bind_eq_some_iff.mp hf
          refine mx_WP.call (d := d + 2) (y := 35) (as := [mx_r (some (0, 2, 0)), mx_l x1, mx_i x2]) (pc' := 36) (r := []) rfl rfl (T35 (d := d + 2) e7 ?_)
          show mx_WP (d + 3) 5 36 [some (mx_r (some (0, 0, 0))), some (mx_l x1), none, some (mx_i x2)] [mx_i u6.1] (hC u6.2.1 u6.2.2 h, μ) Q
          rw [← Option.some.inj hf] at hk
          refine mx_WP.ret (v := some (mx_i u6.1)) rfl ?_
          exact hk
  · rw [if_neg c2] at hf
    refine mx_WP.zeq (b := u1) (q := 22) (p3 := 7) rfl (fun _ => ?_) (fun hh => absurd hh (by simp [c2]))
    refine mx_WP.go 1 (pc' := 23) (L' := [some (mx_r (some (0, 0, 0))), some (mx_l x1), none, some (mx_i x2)]) (st' := [mx_i (-1)]) (σ' := (hC I J h, μ)) rfl ?_
    rw [← Option.some.inj hf] at hk
    refine mx_WP.ret (v := some (mx_i (-1))) rfl ?_
    exact hk
def f36 (x0 : Nat) (x1 : Int32) (x2 : Int64) (I : Nat → Nat → Nat → Int32) (J : Nat → Nat → Nat → Int64) : Option ((Nat → Nat → Nat → Int32) × (Nat → Nat → Nat → Int64)) :=
  if x1 = 0 then (some ((mx_u3 I 2 x0 7 x1), (mx_u3 J 2 x0 8 0))) else some ((mx_u3 I 2 x0 7 x1), (mx_u3 J 2 x0 8 x2))
theorem T36 {d : Nat} {x0 : Nat} {x1 : Int32} {x2 : Int64} {I : Nat → Nat → Nat → Int32} {J : Nat → Nat → Nat → Int64} {h : Nat → Nat} {μ : mx_Rg × (Nat × (Nat → Int32)) × (Nat × Nat)} {Q : Option mx_V → mx_Hp → Prop} {o : (Nat → Nat → Nat → Int32) × (Nat → Nat → Nat → Int64)} (hf : f36 x0 x1 x2 I J = some o) (hk : Q (none) (hC o.1 o.2 h, μ)) : mx_WP (d + 0) 36 0 (mx_ent 36 [mx_r (some (0, 2, x0)), mx_i x1, mx_l x2]) [] (hC I J h, μ) Q := by
  unfold f36 at hf
  refine mx_WP.go 5 (pc' := 7) (L' := [some (mx_r (some (0, 2, x0))), some (mx_i x1), some (mx_l x2), none]) (st' := [mx_i x1, mx_r (some (0, 2, x0))]) (σ' := (hC (mx_u3 I 2 x0 7 x1) J h, μ)) rfl ?_
  by_cases c1 : x1 = 0
  · rw [if_pos c1] at hf
    refine mx_WP.bne (x := x1) (y := 0) (q := 14) (p3 := 10) rfl (fun hh => absurd c1 hh) (fun _ => ?_)
    refine mx_WP.go 3 (pc' := 18) (L' := [some (mx_r (some (0, 2, x0))), some (mx_i x1), some (mx_l x2), none]) (st' := []) (σ' := (hC (mx_u3 I 2 x0 7 x1) (mx_u3 J 2 x0 8 0) h, μ)) rfl ?_
    rw [← Option.some.inj hf] at hk
    refine mx_WP.ret (v := none) rfl ?_
    exact hk
  · rw [if_neg c1] at hf
    refine mx_WP.bne (x := x1) (y := 0) (q := 14) (p3 := 10) rfl (fun _ => ?_) (fun hh => absurd c1 hh)
    refine mx_WP.go 2 (pc' := 18) (L' := [some (mx_r (some (0, 2, x0))), some (mx_i x1), some (mx_l x2), none]) (st' := []) (σ' := (hC (mx_u3 I 2 x0 7 x1) (mx_u3 J 2 x0 8 x2) h, μ)) rfl ?_
    rw [← Option.some.inj hf] at hk
    refine mx_WP.ret (v := none) rfl ?_
    exact hk
def f9 (x1 : Int32) (x2 : Int64) (I : Nat → Nat → Nat → Int32) (J : Nat → Nat → Nat → Int64) : Option (Bool × (Nat → Nat → Nat → Int32) × (Nat → Nat → Nat → Int64)) :=
  if x1 < 0 then (some (false, I, J)) else if 2 < x1 then (some (false, I, J)) else if (lg_cmp x2 0) = 0 then ((f36 0 x1 x2 I J).bind fun u4 =>
  some (true, u4.1, u4.2)) else (f6 x2).bind fun u6 =>
  if u6 = true then ((f36 0 x1 x2 I J).bind fun u8 =>
  some (true, u8.1, u8.2)) else some (false, I, J)
theorem T9 {d : Nat} {x1 : Int32} {x2 : Int64} {I : Nat → Nat → Nat → Int32} {J : Nat → Nat → Nat → Int64} {h : Nat → Nat} {μ : mx_Rg × (Nat × (Nat → Int32)) × (Nat × Nat)} {Q : Option mx_V → mx_Hp → Prop} {o : Bool × (Nat → Nat → Nat → Int32) × (Nat → Nat → Nat → Int64)} (hf : f9 x1 x2 I J = some o) (hk : Q (some (mx_i (b2i o.1))) (hC o.2.1 o.2.2 h, μ)) : mx_WP (d + 3) 9 0 (mx_ent 9 [mx_r (some (0, 0, 0)), mx_i x1, mx_l x2]) [] (hC I J h, μ) Q := by
  unfold f9 at hf
  refine mx_WP.go 1 (pc' := 1) (L' := [some (mx_r (some (0, 0, 0))), some (mx_i x1), some (mx_l x2), none]) (st' := [mx_i x1]) (σ' := (hC I J h, μ)) rfl ?_
  by_cases c1 : x1 < 0
  · rw [if_pos c1] at hf
    refine mx_WP.blt (x := x1) (y := 0) (q := 22) (p3 := 4) rfl (fun _ => ?_) (fun hh => absurd c1 hh)
    refine mx_WP.go 1 (pc' := 23) (L' := [some (mx_r (some (0, 0, 0))), some (mx_i x1), some (mx_l x2), none]) (st' := [mx_i 0]) (σ' := (hC I J h, μ)) rfl ?_
    rw [← Option.some.inj hf] at hk
    refine mx_WP.ret (v := some (mx_i 0)) rfl ?_
    exact hk
  · rw [if_neg c1] at hf
    refine mx_WP.blt (x := x1) (y := 0) (q := 22) (p3 := 4) rfl (fun hh => absurd hh c1) (fun _ => ?_)
    refine mx_WP.go 2 (pc' := 6) (L' := [some (mx_r (some (0, 0, 0))), some (mx_i x1), some (mx_l x2), none]) (st' := [mx_i 2, mx_i x1]) (σ' := (hC I J h, μ)) rfl ?_
    by_cases c2 : 2 < x1
    · rw [if_pos c2] at hf
      refine mx_WP.bgt (x := x1) (y := 2) (q := 22) (p3 := 9) rfl (fun _ => ?_) (fun hh => absurd c2 hh)
      refine mx_WP.go 1 (pc' := 23) (L' := [some (mx_r (some (0, 0, 0))), some (mx_i x1), some (mx_l x2), none]) (st' := [mx_i 0]) (σ' := (hC I J h, μ)) rfl ?_
      rw [← Option.some.inj hf] at hk
      refine mx_WP.ret (v := some (mx_i 0)) rfl ?_
      exact hk
    · rw [if_neg c2] at hf
      refine mx_WP.bgt (x := x1) (y := 2) (q := 22) (p3 := 9) rfl (fun hh => absurd hh c2) (fun _ => ?_)
      refine mx_WP.go 3 (pc' := 12) (L' := [some (mx_r (some (0, 0, 0))), some (mx_i x1), some (mx_l x2), none]) (st' := [mx_i (lg_cmp x2 0)]) (σ' := (hC I J h, μ)) rfl ?_
      by_cases c3 : (lg_cmp x2 0) = 0
      · rw [if_pos c3] at hf
        refine mx_WP.beq (x := (lg_cmp x2 0)) (y := 0) (q := 24) (p3 := 15) rfl (fun _ => ?_) (fun hh => absurd c3 hh)
        refine mx_WP.go 5 (pc' := 33) (L' := [some (mx_r (some (0, 0, 0))), some (mx_i x1), some (mx_l x2), none]) (st' := [mx_l x2, mx_i x1, mx_r (some (0, 2, 0))]) (σ' := (hC I J h, μ)) rfl ?_
        obtain ⟨u4, e5, hf⟩ := Option.bind_eq_some_iff.mp hf
        refine mx_WP.call (d := d + 2) (y := 36) (as := [mx_r (some (0, 2, 0)), mx_i x1, mx_l x2]) (pc' := 36) (r := []) rfl rfl (T36 (d := d + 2) e5 ?_)
        show mx_WP (d + 3) 9 36 [some (mx_r (some (0, 0, 0))), some (mx_i x1), some (mx_l x2), none] [] (hC u4.1 u4.2 h, μ) Q
        refine mx_WP.go 1 (pc' := 37) (L' := [some (mx_r (some (0, 0, 0))), some (mx_i x1), some (mx_l x2), none]) (st' := [mx_i 1]) (σ' := (hC u4.1 u4.2 h, μ)) rfl ?_
        rw [← Option.some.inj hf] at hk
        refine mx_WP.ret (v := some (mx_i 1)) rfl ?_
        exact hk
      · rw [if_neg c3] at hf
        refine mx_WP.beq (x := (lg_cmp x2 0)) (y := 0) (q := 24) (p3 := 15) rfl (fun hh => absurd hh c3) (fun _ => ?_)
        refine mx_WP.go 1 (pc' := 16) (L' := [some (mx_r (some (0, 0, 0))), some (mx_i x1), some (mx_l x2), none]) (st' := [mx_l x2]) (σ' := (hC I J h, μ)) rfl ?_
        obtain ⟨u6, e10, hf⟩ := Option.bind_eq_some_iff.mp hf
        refine mx_WP.call (d := d + 2) (y := 6) (as := [mx_l x2]) (pc' := 19) (r := []) rfl rfl (T6 (d := d + 0) e10 ?_)
        show mx_WP (d + 3) 9 19 [some (mx_r (some (0, 0, 0))), some (mx_i x1), some (mx_l x2), none] [mx_i (b2i u6)] (hC I J h, μ) Q
        by_cases c7 : u6 = true
        · rw [if_pos c7] at hf
          refine mx_WP.zne (b := u6) (q := 24) (p3 := 22) rfl (fun _ => ?_) (fun hh => absurd hh (by simp [c7]))
          refine mx_WP.go 5 (pc' := 33) (L' := [some (mx_r (some (0, 0, 0))), some (mx_i x1), some (mx_l x2), none]) (st' := [mx_l x2, mx_i x1, mx_r (some (0, 2, 0))]) (σ' := (hC I J h, μ)) rfl ?_
          obtain ⟨u8, e9, hf⟩ := Option.bind_eq_some_iff.mp hf
          refine mx_WP.call (d := d + 2) (y := 36) (as := [mx_r (some (0, 2, 0)), mx_i x1, mx_l x2]) (pc' := 36) (r := []) rfl rfl (T36 (d := d + 2) e9 ?_)
          show mx_WP (d + 3) 9 36 [some (mx_r (some (0, 0, 0))), some (mx_i x1), some (mx_l x2), none] [] (hC u8.1 u8.2 h, μ) Q
          refine mx_WP.go 1 (pc' := 37) (L' := [some (mx_r (some (0, 0, 0))), some (mx_i x1), some (mx_l x2), none]) (st' := [mx_i 1]) (σ' := (hC u8.1 u8.2 h, μ)) rfl ?_
          rw [← Option.some.inj hf] at hk
          refine mx_WP.ret (v := some (mx_i 1)) rfl ?_
          exact hk
        · rw [if_neg c7] at hf
          refine mx_WP.zne (b := u6) (q := 24) (p3 := 22) rfl (fun hh => absurd hh (by simp [c7])) (fun _ => ?_)
          refine mx_WP.go 1 (pc' := 23) (L' := [some (mx_r (some (0, 0, 0))), some (mx_i x1), some (mx_l x2), none]) (st' := [mx_i 0]) (σ' := (hC I J h, μ)) rfl ?_
          rw [← Option.some.inj hf] at hk
          refine mx_WP.ret (v := some (mx_i 0)) rfl ?_
          exact hk
def f37 (x0 : Nat) (I : Nat → Nat → Nat → Int32) (J : Nat → Nat → Nat → Int64) : Option ((Nat → Nat → Nat → Int32) × (Nat → Nat → Nat → Int64)) :=
  (f36 x0 0 0 (mx_u3 (mx_u3 I 2 x0 5 0) 2 x0 6 0) J).bind fun u1 =>
  some (u1.1, u1.2)
theorem T37 {d : Nat} {x0 : Nat} {I : Nat → Nat → Nat → Int32} {J : Nat → Nat → Nat → Int64} {h : Nat → Nat} {μ : mx_Rg × (Nat × (Nat → Int32)) × (Nat × Nat)} {Q : Option mx_V → mx_Hp → Prop} {o : (Nat → Nat → Nat → Int32) × (Nat → Nat → Nat → Int64)} (hf : f37 x0 I J = some o) (hk : Q (none) (hC o.1 o.2 h, μ)) : mx_WP (d + 1) 37 0 (mx_ent 37 [mx_r (some (0, 2, x0))]) [] (hC I J h, μ) Q := by
  unfold f37 at hf
  refine mx_WP.go 9 (pc' := 13) (L' := [some (mx_r (some (0, 2, x0)))]) (st' := [mx_l 0, mx_i 0, mx_r (some (0, 2, x0))]) (σ' := (hC (mx_u3 (mx_u3 I 2 x0 5 0) 2 x0 6 0) J h, μ)) rfl ?_
  obtain ⟨u1, e2, hf⟩ := Option.bind_eq_some_iff.mp hf
  refine mx_WP.call (d := d + 0) (y := 36) (as := [mx_r (some (0, 2, x0)), mx_i 0, mx_l 0]) (pc' := 16) (r := []) rfl rfl (T36 (d := d + 0) e2 ?_)
  show mx_WP (d + 1) 37 16 [some (mx_r (some (0, 2, x0)))] [] (hC u1.1 u1.2 h, μ) Q
  rw [← Option.some.inj hf] at hk
  refine mx_WP.ret (v := none) rfl ?_
  exact hk
def f32 (I : Nat → Nat → Nat → Int32) (J : Nat → Nat → Nat → Int64) : Option ((Nat → Nat → Nat → Int32) × (Nat → Nat → Nat → Int64)) :=
  (f37 0 (mx_u3 I 1 0 2 0) J).bind fun u1 =>
  some (u1.1, u1.2)
theorem T32 {d : Nat} {I : Nat → Nat → Nat → Int32} {J : Nat → Nat → Nat → Int64} {h : Nat → Nat} {μ : mx_Rg × (Nat × (Nat → Int32)) × (Nat × Nat)} {Q : Option mx_V → mx_Hp → Prop} {o : (Nat → Nat → Nat → Int32) × (Nat → Nat → Nat → Int64)} (hf : f32 I J = some o) (hk : Q (none) (hC o.1 o.2 h, μ)) : mx_WP (d + 2) 32 0 (mx_ent 32 [mx_r (some (0, 1, 0))]) [] (hC I J h, μ) Q := by
  unfold f32 at hf
  refine mx_WP.go 5 (pc' := 9) (L' := [some (mx_r (some (0, 1, 0)))]) (st' := [mx_r (some (0, 2, 0))]) (σ' := (hC (mx_u3 I 1 0 2 0) J h, μ)) rfl ?_
  obtain ⟨u1, e2, hf⟩ := Option.bind_eq_some_iff.mp hf
  refine mx_WP.call (d := d + 1) (y := 37) (as := [mx_r (some (0, 2, 0))]) (pc' := 12) (r := []) rfl rfl (T37 (d := d + 0) e2 ?_)
  show mx_WP (d + 2) 32 12 [some (mx_r (some (0, 1, 0)))] [] (hC u1.1 u1.2 h, μ) Q
  rw [← Option.some.inj hf] at hk
  refine mx_WP.ret (v := none) rfl ?_
  exact hk
def f10 (I : Nat → Nat → Nat → Int32) (J : Nat → Nat → Nat → Int64) : Option (Int32 × (Nat → Nat → Nat → Int32) × (Nat → Nat → Nat → Int64)) :=
  (f32 I J).bind fun u1 =>
  some (I 1 0 2, u1.1, u1.2)
theorem T10 {d : Nat} {I : Nat → Nat → Nat → Int32} {J : Nat → Nat → Nat → Int64} {h : Nat → Nat} {μ : mx_Rg × (Nat × (Nat → Int32)) × (Nat × Nat)} {Q : Option mx_V → mx_Hp → Prop} {o : Int32 × (Nat → Nat → Nat → Int32) × (Nat → Nat → Nat → Int64)} (hf : f10 I J = some o) (hk : Q (some (mx_i o.1)) (hC o.2.1 o.2.2 h, μ)) : mx_WP (d + 3) 10 0 (mx_ent 10 [mx_r (some (0, 0, 0))]) [] (hC I J h, μ) Q := by
  unfold f10 at hf
  refine mx_WP.go 6 (pc' := 12) (L' := [some (mx_r (some (0, 0, 0))), some (mx_i (I 1 0 2))]) (st' := [mx_r (some (0, 1, 0))]) (σ' := (hC I J h, μ)) rfl ?_
  obtain ⟨u1, e2, hf⟩ := Option.bind_eq_some_iff.mp hf
  refine mx_WP.call (d := d + 2) (y := 32) (as := [mx_r (some (0, 1, 0))]) (pc' := 15) (r := []) rfl rfl (T32 (d := d + 0) e2 ?_)
  show mx_WP (d + 3) 10 15 [some (mx_r (some (0, 0, 0))), some (mx_i (I 1 0 2))] [] (hC u1.1 u1.2 h, μ) Q
  refine mx_WP.go 1 (pc' := 16) (L' := [some (mx_r (some (0, 0, 0))), some (mx_i (I 1 0 2))]) (st' := [mx_i (I 1 0 2)]) (σ' := (hC u1.1 u1.2 h, μ)) rfl ?_
  rw [← Option.some.inj hf] at hk
  refine mx_WP.ret (v := some (mx_i (I 1 0 2))) rfl ?_
  exact hk
end
