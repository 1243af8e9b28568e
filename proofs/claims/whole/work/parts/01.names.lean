-- ===== PART A: goes FIRST, ahead of the names: the tables' words, and 'selects' of the private methods out of them =====
/-- a private method of a class that the tables say can be made, by its rows of tables_1 -/
def lw_okq (q : MethodName × Nat) : Prop := (q.1.cls ≠ "java/lang/invoke/MethodHandle" ∧ q.1.cls ≠ "java/lang/invoke/VarHandle") ∧ Cond.instantiable q.1.cls q.2 ∈ tables_1 ∧ Cond.privateMethod q.1 ∈ tables_1 ∧ Cond.instanceMethod q.1 ∈ tables_1
theorem lw_p0 : lw_okq (⟨"LayeredImage", "top", "()LLayeredImage$Image;"⟩, 4) := ⟨⟨by decide +kernel, by decide +kernel⟩, List.mem_of_getElem? (i := 9) (by decide +kernel), List.mem_of_getElem? (i := 90) (by decide +kernel), List.mem_of_getElem? (i := 91) (by decide +kernel)⟩
theorem lw_p1 : lw_okq (⟨"LayeredImage$Image", "leavesFor", "(I)I"⟩, 2) := ⟨⟨by decide +kernel, by decide +kernel⟩, List.mem_of_getElem? (i := 18) (by decide +kernel), List.mem_of_getElem? (i := 110) (by decide +kernel), List.mem_of_getElem? (i := 111) (by decide +kernel)⟩
theorem lw_p2 : lw_okq (⟨"LayeredImage$Image", "leafLead", "(I)I"⟩, 2) := ⟨⟨by decide +kernel, by decide +kernel⟩, List.mem_of_getElem? (i := 18) (by decide +kernel), List.mem_of_getElem? (i := 114) (by decide +kernel), List.mem_of_getElem? (i := 115) (by decide +kernel)⟩
theorem lw_p3 : lw_okq (⟨"LayeredImage$Image", "isOwn", "(I)Z"⟩, 2) := ⟨⟨by decide +kernel, by decide +kernel⟩, List.mem_of_getElem? (i := 18) (by decide +kernel), List.mem_of_getElem? (i := 122) (by decide +kernel), List.mem_of_getElem? (i := 123) (by decide +kernel)⟩
theorem lw_p4 : lw_okq (⟨"LayeredImage$Image", "clustersFor", "(I)I"⟩, 2) := ⟨⟨by decide +kernel, by decide +kernel⟩, List.mem_of_getElem? (i := 18) (by decide +kernel), List.mem_of_getElem? (i := 137) (by decide +kernel), List.mem_of_getElem? (i := 138) (by decide +kernel)⟩
theorem lw_p5 : lw_okq (⟨"LayeredImage$Image", "activeWord", "(I)I"⟩, 2) := ⟨⟨by decide +kernel, by decide +kernel⟩, List.mem_of_getElem? (i := 18) (by decide +kernel), List.mem_of_getElem? (i := 141) (by decide +kernel), List.mem_of_getElem? (i := 142) (by decide +kernel)⟩
theorem lw_p6 : lw_okq (⟨"LayeredImage$Image", "blockWord", "(II)I"⟩, 2) := ⟨⟨by decide +kernel, by decide +kernel⟩, List.mem_of_getElem? (i := 18) (by decide +kernel), List.mem_of_getElem? (i := 145) (by decide +kernel), List.mem_of_getElem? (i := 146) (by decide +kernel)⟩
theorem lw_p7 : lw_okq (⟨"LayeredImage$Image", "giveLeaf", "(I)V"⟩, 2) := ⟨⟨by decide +kernel, by decide +kernel⟩, List.mem_of_getElem? (i := 18) (by decide +kernel), List.mem_of_getElem? (i := 158) (by decide +kernel), List.mem_of_getElem? (i := 159) (by decide +kernel)⟩
theorem lw_p8 : lw_okq (⟨"LayeredImage$ClusterFile", "leastFree", "()I"⟩, 1) := ⟨⟨by decide +kernel, by decide +kernel⟩, List.mem_of_getElem? (i := 24) (by decide +kernel), List.mem_of_getElem? (i := 166) (by decide +kernel), List.mem_of_getElem? (i := 167) (by decide +kernel)⟩
theorem lw_p9 : lw_okq (⟨"LayeredImage$Image", "release", "(I)V"⟩, 2) := ⟨⟨by decide +kernel, by decide +kernel⟩, List.mem_of_getElem? (i := 18) (by decide +kernel), List.mem_of_getElem? (i := 182) (by decide +kernel), List.mem_of_getElem? (i := 183) (by decide +kernel)⟩
theorem lw_p10 : lw_okq (⟨"LayeredImage$Image", "giveCluster", "(I)I"⟩, 2) := ⟨⟨by decide +kernel, by decide +kernel⟩, List.mem_of_getElem? (i := 18) (by decide +kernel), List.mem_of_getElem? (i := 187) (by decide +kernel), List.mem_of_getElem? (i := 188) (by decide +kernel)⟩
theorem lw_p11 : lw_okq (⟨"LayeredImage$Image", "putActiveWord", "(II)V"⟩, 2) := ⟨⟨by decide +kernel, by decide +kernel⟩, List.mem_of_getElem? (i := 18) (by decide +kernel), List.mem_of_getElem? (i := 195) (by decide +kernel), List.mem_of_getElem? (i := 196) (by decide +kernel)⟩
theorem lw_p12 : lw_okq (⟨"LayeredImage$Image", "tellFlags", "()V"⟩, 2) := ⟨⟨by decide +kernel, by decide +kernel⟩, List.mem_of_getElem? (i := 18) (by decide +kernel), List.mem_of_getElem? (i := 199) (by decide +kernel), List.mem_of_getElem? (i := 200) (by decide +kernel)⟩
theorem lw_p13 : lw_okq (⟨"LayeredImage$Image", "tellFlagsBelow", "(I)V"⟩, 2) := ⟨⟨by decide +kernel, by decide +kernel⟩, List.mem_of_getElem? (i := 18) (by decide +kernel), List.mem_of_getElem? (i := 203) (by decide +kernel), List.mem_of_getElem? (i := 204) (by decide +kernel)⟩
theorem lw_p14 : lw_okq (⟨"LayeredImage$Image", "tellFlagsIn", "(I)V"⟩, 2) := ⟨⟨by decide +kernel, by decide +kernel⟩, List.mem_of_getElem? (i := 18) (by decide +kernel), List.mem_of_getElem? (i := 207) (by decide +kernel), List.mem_of_getElem? (i := 208) (by decide +kernel)⟩
theorem lw_p15 : lw_okq (⟨"LayeredImage$Image", "snapshotList", "()I"⟩, 2) := ⟨⟨by decide +kernel, by decide +kernel⟩, List.mem_of_getElem? (i := 18) (by decide +kernel), List.mem_of_getElem? (i := 219) (by decide +kernel), List.mem_of_getElem? (i := 220) (by decide +kernel)⟩
def lw_privs_1 : List (MethodName × Nat) := [(⟨"LayeredImage", "top", "()LLayeredImage$Image;"⟩, 4), (⟨"LayeredImage$Image", "leavesFor", "(I)I"⟩, 2), (⟨"LayeredImage$Image", "leafLead", "(I)I"⟩, 2), (⟨"LayeredImage$Image", "isOwn", "(I)Z"⟩, 2), (⟨"LayeredImage$Image", "clustersFor", "(I)I"⟩, 2), (⟨"LayeredImage$Image", "activeWord", "(I)I"⟩, 2), (⟨"LayeredImage$Image", "blockWord", "(II)I"⟩, 2), (⟨"LayeredImage$Image", "giveLeaf", "(I)V"⟩, 2), (⟨"LayeredImage$ClusterFile", "leastFree", "()I"⟩, 1), (⟨"LayeredImage$Image", "release", "(I)V"⟩, 2), (⟨"LayeredImage$Image", "giveCluster", "(I)I"⟩, 2), (⟨"LayeredImage$Image", "putActiveWord", "(II)V"⟩, 2), (⟨"LayeredImage$Image", "tellFlags", "()V"⟩, 2), (⟨"LayeredImage$Image", "tellFlagsBelow", "(I)V"⟩, 2), (⟨"LayeredImage$Image", "tellFlagsIn", "(I)V"⟩, 2), (⟨"LayeredImage$Image", "snapshotList", "()I"⟩, 2)]
theorem lw_r1 : ∀ q ∈ lw_privs_1, lw_okq q := List.forall_mem_cons.mpr ⟨lw_p0, List.forall_mem_cons.mpr ⟨lw_p1, List.forall_mem_cons.mpr ⟨lw_p2, List.forall_mem_cons.mpr ⟨lw_p3, List.forall_mem_cons.mpr ⟨lw_p4, List.forall_mem_cons.mpr ⟨lw_p5, List.forall_mem_cons.mpr ⟨lw_p6, List.forall_mem_cons.mpr ⟨lw_p7, List.forall_mem_cons.mpr ⟨lw_p8, List.forall_mem_cons.mpr ⟨lw_p9, List.forall_mem_cons.mpr ⟨lw_p10, List.forall_mem_cons.mpr ⟨lw_p11, List.forall_mem_cons.mpr ⟨lw_p12, List.forall_mem_cons.mpr ⟨lw_p13, List.forall_mem_cons.mpr ⟨lw_p14, List.forall_mem_cons.mpr ⟨lw_p15, fun _ h => absurd h List.not_mem_nil⟩⟩⟩⟩⟩⟩⟩⟩⟩⟩⟩⟩⟩⟩⟩⟩
theorem lw_p16 : lw_okq (⟨"LayeredImage$Image", "dropChanges", "(I)Z"⟩, 2) := ⟨⟨by decide +kernel, by decide +kernel⟩, List.mem_of_getElem? (i := 18) (by decide +kernel), List.mem_of_getElem? (i := 241) (by decide +kernel), List.mem_of_getElem? (i := 242) (by decide +kernel)⟩
theorem lw_p17 : lw_okq (⟨"LayeredImage$Image", "makeZero", "(I)V"⟩, 2) := ⟨⟨by decide +kernel, by decide +kernel⟩, List.mem_of_getElem? (i := 18) (by decide +kernel), List.mem_of_getElem? (i := 245) (by decide +kernel), List.mem_of_getElem? (i := 246) (by decide +kernel)⟩
theorem lw_p18 : lw_okq (⟨"LayeredImage$Image", "countTable", "(II)V"⟩, 2) := ⟨⟨by decide +kernel, by decide +kernel⟩, List.mem_of_getElem? (i := 18) (by decide +kernel), List.mem_of_getElem? (i := 261) (by decide +kernel), List.mem_of_getElem? (i := 262) (by decide +kernel)⟩
theorem lw_p19 : lw_okq (⟨"LayeredImage$Image", "countLeaf", "(II)V"⟩, 2) := ⟨⟨by decide +kernel, by decide +kernel⟩, List.mem_of_getElem? (i := 18) (by decide +kernel), List.mem_of_getElem? (i := 265) (by decide +kernel), List.mem_of_getElem? (i := 266) (by decide +kernel)⟩
theorem lw_p20 : lw_okq (⟨"LayeredImage$Image", "closeListGap", "(I)V"⟩, 2) := ⟨⟨by decide +kernel, by decide +kernel⟩, List.mem_of_getElem? (i := 18) (by decide +kernel), List.mem_of_getElem? (i := 286) (by decide +kernel), List.mem_of_getElem? (i := 287) (by decide +kernel)⟩
theorem lw_p21 : lw_okq (⟨"LayeredImage$Image", "takingsFor", "(LLayeredImage$Image;)I"⟩, 2) := ⟨⟨by decide +kernel, by decide +kernel⟩, List.mem_of_getElem? (i := 18) (by decide +kernel), List.mem_of_getElem? (i := 310) (by decide +kernel), List.mem_of_getElem? (i := 311) (by decide +kernel)⟩
theorem lw_p22 : lw_okq (⟨"LayeredImage$Reader", "areLeadsRight", "(LLayeredImage$ClusterFile;)Z"⟩, 2) := ⟨⟨by decide +kernel, by decide +kernel⟩, List.mem_of_getElem? (i := 46) (by decide +kernel), List.mem_of_getElem? (i := 353) (by decide +kernel), List.mem_of_getElem? (i := 354) (by decide +kernel)⟩
theorem lw_p23 : lw_okq (⟨"LayeredImage$Reader", "areHeaderLeadsRight", "(LLayeredImage$ClusterFile;)Z"⟩, 2) := ⟨⟨by decide +kernel, by decide +kernel⟩, List.mem_of_getElem? (i := 46) (by decide +kernel), List.mem_of_getElem? (i := 357) (by decide +kernel), List.mem_of_getElem? (i := 358) (by decide +kernel)⟩
theorem lw_p24 : lw_okq (⟨"LayeredImage$Reader", "claim", "(II)Z"⟩, 2) := ⟨⟨by decide +kernel, by decide +kernel⟩, List.mem_of_getElem? (i := 46) (by decide +kernel), List.mem_of_getElem? (i := 361) (by decide +kernel), List.mem_of_getElem? (i := 362) (by decide +kernel)⟩
theorem lw_p25 : lw_okq (⟨"LayeredImage$Reader", "areCountLeadsRight", "(LLayeredImage$ClusterFile;)Z"⟩, 2) := ⟨⟨by decide +kernel, by decide +kernel⟩, List.mem_of_getElem? (i := 46) (by decide +kernel), List.mem_of_getElem? (i := 365) (by decide +kernel), List.mem_of_getElem? (i := 366) (by decide +kernel)⟩
theorem lw_p26 : lw_okq (⟨"LayeredImage$Reader", "areListLeadsRight", "(LLayeredImage$ClusterFile;)Z"⟩, 2) := ⟨⟨by decide +kernel, by decide +kernel⟩, List.mem_of_getElem? (i := 46) (by decide +kernel), List.mem_of_getElem? (i := 369) (by decide +kernel), List.mem_of_getElem? (i := 370) (by decide +kernel)⟩
theorem lw_p27 : lw_okq (⟨"LayeredImage$Reader", "areTableLeadsRight", "(LLayeredImage$ClusterFile;I)Z"⟩, 2) := ⟨⟨by decide +kernel, by decide +kernel⟩, List.mem_of_getElem? (i := 46) (by decide +kernel), List.mem_of_getElem? (i := 373) (by decide +kernel), List.mem_of_getElem? (i := 374) (by decide +kernel)⟩
theorem lw_p28 : lw_okq (⟨"LayeredImage$Reader", "areLeafLeadsRight", "(LLayeredImage$ClusterFile;II)Z"⟩, 2) := ⟨⟨by decide +kernel, by decide +kernel⟩, List.mem_of_getElem? (i := 46) (by decide +kernel), List.mem_of_getElem? (i := 381) (by decide +kernel), List.mem_of_getElem? (i := 382) (by decide +kernel)⟩
theorem lw_p29 : lw_okq (⟨"LayeredImage$Reader", "areCountsRight", "(LLayeredImage$ClusterFile;)Z"⟩, 2) := ⟨⟨by decide +kernel, by decide +kernel⟩, List.mem_of_getElem? (i := 46) (by decide +kernel), List.mem_of_getElem? (i := 392) (by decide +kernel), List.mem_of_getElem? (i := 393) (by decide +kernel)⟩
theorem lw_p30 : lw_okq (⟨"LayeredImage$Reader", "areFlagsRight", "(LLayeredImage$ClusterFile;)Z"⟩, 2) := ⟨⟨by decide +kernel, by decide +kernel⟩, List.mem_of_getElem? (i := 46) (by decide +kernel), List.mem_of_getElem? (i := 397) (by decide +kernel), List.mem_of_getElem? (i := 398) (by decide +kernel)⟩
theorem lw_p31 : lw_okq (⟨"LayeredImage$Reader", "areFlagsRightIn", "(LLayeredImage$ClusterFile;I)Z"⟩, 2) := ⟨⟨by decide +kernel, by decide +kernel⟩, List.mem_of_getElem? (i := 46) (by decide +kernel), List.mem_of_getElem? (i := 404) (by decide +kernel), List.mem_of_getElem? (i := 405) (by decide +kernel)⟩
def lw_privs_2 : List (MethodName × Nat) := [(⟨"LayeredImage$Image", "dropChanges", "(I)Z"⟩, 2), (⟨"LayeredImage$Image", "makeZero", "(I)V"⟩, 2), (⟨"LayeredImage$Image", "countTable", "(II)V"⟩, 2), (⟨"LayeredImage$Image", "countLeaf", "(II)V"⟩, 2), (⟨"LayeredImage$Image", "closeListGap", "(I)V"⟩, 2), (⟨"LayeredImage$Image", "takingsFor", "(LLayeredImage$Image;)I"⟩, 2), (⟨"LayeredImage$Reader", "areLeadsRight", "(LLayeredImage$ClusterFile;)Z"⟩, 2), (⟨"LayeredImage$Reader", "areHeaderLeadsRight", "(LLayeredImage$ClusterFile;)Z"⟩, 2), (⟨"LayeredImage$Reader", "claim", "(II)Z"⟩, 2), (⟨"LayeredImage$Reader", "areCountLeadsRight", "(LLayeredImage$ClusterFile;)Z"⟩, 2), (⟨"LayeredImage$Reader", "areListLeadsRight", "(LLayeredImage$ClusterFile;)Z"⟩, 2), (⟨"LayeredImage$Reader", "areTableLeadsRight", "(LLayeredImage$ClusterFile;I)Z"⟩, 2), (⟨"LayeredImage$Reader", "areLeafLeadsRight", "(LLayeredImage$ClusterFile;II)Z"⟩, 2), (⟨"LayeredImage$Reader", "areCountsRight", "(LLayeredImage$ClusterFile;)Z"⟩, 2), (⟨"LayeredImage$Reader", "areFlagsRight", "(LLayeredImage$ClusterFile;)Z"⟩, 2), (⟨"LayeredImage$Reader", "areFlagsRightIn", "(LLayeredImage$ClusterFile;I)Z"⟩, 2)]
theorem lw_r2 : ∀ q ∈ lw_privs_2, lw_okq q := List.forall_mem_cons.mpr ⟨lw_p16, List.forall_mem_cons.mpr ⟨lw_p17, List.forall_mem_cons.mpr ⟨lw_p18, List.forall_mem_cons.mpr ⟨lw_p19, List.forall_mem_cons.mpr ⟨lw_p20, List.forall_mem_cons.mpr ⟨lw_p21, List.forall_mem_cons.mpr ⟨lw_p22, List.forall_mem_cons.mpr ⟨lw_p23, List.forall_mem_cons.mpr ⟨lw_p24, List.forall_mem_cons.mpr ⟨lw_p25, List.forall_mem_cons.mpr ⟨lw_p26, List.forall_mem_cons.mpr ⟨lw_p27, List.forall_mem_cons.mpr ⟨lw_p28, List.forall_mem_cons.mpr ⟨lw_p29, List.forall_mem_cons.mpr ⟨lw_p30, List.forall_mem_cons.mpr ⟨lw_p31, fun _ h => absurd h List.not_mem_nil⟩⟩⟩⟩⟩⟩⟩⟩⟩⟩⟩⟩⟩⟩⟩⟩
theorem lw_p32 : lw_okq (⟨"LayeredImage$Reader", "areOthersBlank", "(LLayeredImage$ClusterFile;)Z"⟩, 2) := ⟨⟨by decide +kernel, by decide +kernel⟩, List.mem_of_getElem? (i := 46) (by decide +kernel), List.mem_of_getElem? (i := 410) (by decide +kernel), List.mem_of_getElem? (i := 411) (by decide +kernel)⟩
theorem lw_p33 : lw_okq (⟨"LayeredImageModel", "fresh", "(II)V"⟩, 7) := ⟨⟨by decide +kernel, by decide +kernel⟩, List.mem_of_getElem? (i := 424) (by decide +kernel), List.mem_of_getElem? (i := 430) (by decide +kernel), List.mem_of_getElem? (i := 431) (by decide +kernel)⟩
theorem lw_p34 : lw_okq (⟨"LayeredImageModel", "settle", "(I)V"⟩, 7) := ⟨⟨by decide +kernel, by decide +kernel⟩, List.mem_of_getElem? (i := 424) (by decide +kernel), List.mem_of_getElem? (i := 434) (by decide +kernel), List.mem_of_getElem? (i := 435) (by decide +kernel)⟩
theorem lw_p35 : lw_okq (⟨"LayeredImageModel", "recount", "(I)V"⟩, 7) := ⟨⟨by decide +kernel, by decide +kernel⟩, List.mem_of_getElem? (i := 424) (by decide +kernel), List.mem_of_getElem? (i := 438) (by decide +kernel), List.mem_of_getElem? (i := 439) (by decide +kernel)⟩
theorem lw_p36 : lw_okq (⟨"LayeredImageModel", "snapshots", "(I)I"⟩, 7) := ⟨⟨by decide +kernel, by decide +kernel⟩, List.mem_of_getElem? (i := 424) (by decide +kernel), List.mem_of_getElem? (i := 445) (by decide +kernel), List.mem_of_getElem? (i := 446) (by decide +kernel)⟩
theorem lw_p37 : lw_okq (⟨"LayeredImageModel", "table", "(II)I"⟩, 7) := ⟨⟨by decide +kernel, by decide +kernel⟩, List.mem_of_getElem? (i := 424) (by decide +kernel), List.mem_of_getElem? (i := 449) (by decide +kernel), List.mem_of_getElem? (i := 450) (by decide +kernel)⟩
theorem lw_p38 : lw_okq (⟨"LayeredImageModel", "countLeaf", "(I)V"⟩, 7) := ⟨⟨by decide +kernel, by decide +kernel⟩, List.mem_of_getElem? (i := 424) (by decide +kernel), List.mem_of_getElem? (i := 453) (by decide +kernel), List.mem_of_getElem? (i := 454) (by decide +kernel)⟩
theorem lw_p39 : lw_okq (⟨"LayeredImageModel", "marked", "(I)I"⟩, 7) := ⟨⟨by decide +kernel, by decide +kernel⟩, List.mem_of_getElem? (i := 424) (by decide +kernel), List.mem_of_getElem? (i := 457) (by decide +kernel), List.mem_of_getElem? (i := 458) (by decide +kernel)⟩
theorem lw_p40 : lw_okq (⟨"LayeredImageModel", "isAddress", "(I)Z"⟩, 7) := ⟨⟨by decide +kernel, by decide +kernel⟩, List.mem_of_getElem? (i := 424) (by decide +kernel), List.mem_of_getElem? (i := 487) (by decide +kernel), List.mem_of_getElem? (i := 488) (by decide +kernel)⟩
theorem lw_p41 : lw_okq (⟨"LayeredImageModel", "sizeOf", "(I)I"⟩, 7) := ⟨⟨by decide +kernel, by decide +kernel⟩, List.mem_of_getElem? (i := 424) (by decide +kernel), List.mem_of_getElem? (i := 491) (by decide +kernel), List.mem_of_getElem? (i := 492) (by decide +kernel)⟩
theorem lw_p42 : lw_okq (⟨"LayeredImageModel", "lacksLeaf", "(II)Z"⟩, 7) := ⟨⟨by decide +kernel, by decide +kernel⟩, List.mem_of_getElem? (i := 424) (by decide +kernel), List.mem_of_getElem? (i := 495) (by decide +kernel), List.mem_of_getElem? (i := 496) (by decide +kernel)⟩
theorem lw_p43 : lw_okq (⟨"LayeredImageModel", "lacksCluster", "(II)Z"⟩, 7) := ⟨⟨by decide +kernel, by decide +kernel⟩, List.mem_of_getElem? (i := 424) (by decide +kernel), List.mem_of_getElem? (i := 499) (by decide +kernel), List.mem_of_getElem? (i := 500) (by decide +kernel)⟩
theorem lw_p44 : lw_okq (⟨"LayeredImageModel", "entry", "(III)I"⟩, 7) := ⟨⟨by decide +kernel, by decide +kernel⟩, List.mem_of_getElem? (i := 424) (by decide +kernel), List.mem_of_getElem? (i := 503) (by decide +kernel), List.mem_of_getElem? (i := 504) (by decide +kernel)⟩
theorem lw_p45 : lw_okq (⟨"LayeredImageModel", "slot", "(III)I"⟩, 7) := ⟨⟨by decide +kernel, by decide +kernel⟩, List.mem_of_getElem? (i := 424) (by decide +kernel), List.mem_of_getElem? (i := 507) (by decide +kernel), List.mem_of_getElem? (i := 508) (by decide +kernel)⟩
theorem lw_p46 : lw_okq (⟨"LayeredImageModel", "room", "(I)I"⟩, 7) := ⟨⟨by decide +kernel, by decide +kernel⟩, List.mem_of_getElem? (i := 424) (by decide +kernel), List.mem_of_getElem? (i := 511) (by decide +kernel), List.mem_of_getElem? (i := 512) (by decide +kernel)⟩
theorem lw_p47 : lw_okq (⟨"LayeredImageModel", "own", "(III)I"⟩, 7) := ⟨⟨by decide +kernel, by decide +kernel⟩, List.mem_of_getElem? (i := 424) (by decide +kernel), List.mem_of_getElem? (i := 515) (by decide +kernel), List.mem_of_getElem? (i := 516) (by decide +kernel)⟩
def lw_privs_3 : List (MethodName × Nat) := [(⟨"LayeredImage$Reader", "areOthersBlank", "(LLayeredImage$ClusterFile;)Z"⟩, 2), (⟨"LayeredImageModel", "fresh", "(II)V"⟩, 7), (⟨"LayeredImageModel", "settle", "(I)V"⟩, 7), (⟨"LayeredImageModel", "recount", "(I)V"⟩, 7), (⟨"LayeredImageModel", "snapshots", "(I)I"⟩, 7), (⟨"LayeredImageModel", "table", "(II)I"⟩, 7), (⟨"LayeredImageModel", "countLeaf", "(I)V"⟩, 7), (⟨"LayeredImageModel", "marked", "(I)I"⟩, 7), (⟨"LayeredImageModel", "isAddress", "(I)Z"⟩, 7), (⟨"LayeredImageModel", "sizeOf", "(I)I"⟩, 7), (⟨"LayeredImageModel", "lacksLeaf", "(II)Z"⟩, 7), (⟨"LayeredImageModel", "lacksCluster", "(II)Z"⟩, 7), (⟨"LayeredImageModel", "entry", "(III)I"⟩, 7), (⟨"LayeredImageModel", "slot", "(III)I"⟩, 7), (⟨"LayeredImageModel", "room", "(I)I"⟩, 7), (⟨"LayeredImageModel", "own", "(III)I"⟩, 7)]
theorem lw_r3 : ∀ q ∈ lw_privs_3, lw_okq q := List.forall_mem_cons.mpr ⟨lw_p32, List.forall_mem_cons.mpr ⟨lw_p33, List.forall_mem_cons.mpr ⟨lw_p34, List.forall_mem_cons.mpr ⟨lw_p35, List.forall_mem_cons.mpr ⟨lw_p36, List.forall_mem_cons.mpr ⟨lw_p37, List.forall_mem_cons.mpr ⟨lw_p38, List.forall_mem_cons.mpr ⟨lw_p39, List.forall_mem_cons.mpr ⟨lw_p40, List.forall_mem_cons.mpr ⟨lw_p41, List.forall_mem_cons.mpr ⟨lw_p42, List.forall_mem_cons.mpr ⟨lw_p43, List.forall_mem_cons.mpr ⟨lw_p44, List.forall_mem_cons.mpr ⟨lw_p45, List.forall_mem_cons.mpr ⟨lw_p46, List.forall_mem_cons.mpr ⟨lw_p47, fun _ h => absurd h List.not_mem_nil⟩⟩⟩⟩⟩⟩⟩⟩⟩⟩⟩⟩⟩⟩⟩⟩
theorem lw_p48 : lw_okq (⟨"LayeredImageModel", "ownLeaf", "(II)I"⟩, 7) := ⟨⟨by decide +kernel, by decide +kernel⟩, List.mem_of_getElem? (i := 424) (by decide +kernel), List.mem_of_getElem? (i := 519) (by decide +kernel), List.mem_of_getElem? (i := 520) (by decide +kernel)⟩
theorem lw_p49 : lw_okq (⟨"LayeredImageModel", "take", "(I)I"⟩, 7) := ⟨⟨by decide +kernel, by decide +kernel⟩, List.mem_of_getElem? (i := 424) (by decide +kernel), List.mem_of_getElem? (i := 523) (by decide +kernel), List.mem_of_getElem? (i := 524) (by decide +kernel)⟩
theorem lw_p50 : lw_okq (⟨"LayeredImageModel", "leastFree", "()I"⟩, 7) := ⟨⟨by decide +kernel, by decide +kernel⟩, List.mem_of_getElem? (i := 424) (by decide +kernel), List.mem_of_getElem? (i := 527) (by decide +kernel), List.mem_of_getElem? (i := 528) (by decide +kernel)⟩
theorem lw_p51 : lw_okq (⟨"LayeredImageModel", "shows", "(IIIII)I"⟩, 7) := ⟨⟨by decide +kernel, by decide +kernel⟩, List.mem_of_getElem? (i := 424) (by decide +kernel), List.mem_of_getElem? (i := 531) (by decide +kernel), List.mem_of_getElem? (i := 532) (by decide +kernel)⟩
theorem lw_p52 : lw_okq (⟨"LayeredImageModel", "drop", "(III)I"⟩, 7) := ⟨⟨by decide +kernel, by decide +kernel⟩, List.mem_of_getElem? (i := 424) (by decide +kernel), List.mem_of_getElem? (i := 543) (by decide +kernel), List.mem_of_getElem? (i := 544) (by decide +kernel)⟩
theorem lw_p53 : lw_okq (⟨"LayeredImageModel", "named", "(I)I"⟩, 7) := ⟨⟨by decide +kernel, by decide +kernel⟩, List.mem_of_getElem? (i := 424) (by decide +kernel), List.mem_of_getElem? (i := 551) (by decide +kernel), List.mem_of_getElem? (i := 552) (by decide +kernel)⟩
theorem lw_p54 : lw_okq (⟨"LayeredImageModel", "copyFile", "(II)V"⟩, 7) := ⟨⟨by decide +kernel, by decide +kernel⟩, List.mem_of_getElem? (i := 424) (by decide +kernel), List.mem_of_getElem? (i := 576) (by decide +kernel), List.mem_of_getElem? (i := 577) (by decide +kernel)⟩
theorem lw_p55 : lw_okq (⟨"LayeredImageModel", "headerRight", "()Z"⟩, 7) := ⟨⟨by decide +kernel, by decide +kernel⟩, List.mem_of_getElem? (i := 424) (by decide +kernel), List.mem_of_getElem? (i := 608) (by decide +kernel), List.mem_of_getElem? (i := 609) (by decide +kernel)⟩
theorem lw_p56 : lw_okq (⟨"LayeredImageModel", "usesRight", "()Z"⟩, 7) := ⟨⟨by decide +kernel, by decide +kernel⟩, List.mem_of_getElem? (i := 424) (by decide +kernel), List.mem_of_getElem? (i := 612) (by decide +kernel), List.mem_of_getElem? (i := 613) (by decide +kernel)⟩
theorem lw_p57 : lw_okq (⟨"LayeredImageModel", "lead", "(II)Z"⟩, 7) := ⟨⟨by decide +kernel, by decide +kernel⟩, List.mem_of_getElem? (i := 424) (by decide +kernel), List.mem_of_getElem? (i := 616) (by decide +kernel), List.mem_of_getElem? (i := 617) (by decide +kernel)⟩
theorem lw_p58 : lw_okq (⟨"LayeredImageModel", "walkTable", "(I)V"⟩, 7) := ⟨⟨by decide +kernel, by decide +kernel⟩, List.mem_of_getElem? (i := 424) (by decide +kernel), List.mem_of_getElem? (i := 620) (by decide +kernel), List.mem_of_getElem? (i := 621) (by decide +kernel)⟩
theorem lw_p59 : lw_okq (⟨"LayeredImageModel", "follow", "(II)Z"⟩, 7) := ⟨⟨by decide +kernel, by decide +kernel⟩, List.mem_of_getElem? (i := 424) (by decide +kernel), List.mem_of_getElem? (i := 624) (by decide +kernel), List.mem_of_getElem? (i := 625) (by decide +kernel)⟩
theorem lw_p60 : lw_okq (⟨"LayeredImageModel", "listRight", "()Z"⟩, 7) := ⟨⟨by decide +kernel, by decide +kernel⟩, List.mem_of_getElem? (i := 424) (by decide +kernel), List.mem_of_getElem? (i := 628) (by decide +kernel), List.mem_of_getElem? (i := 629) (by decide +kernel)⟩
theorem lw_p61 : lw_okq (⟨"LayeredImageModel", "countsRight", "()Z"⟩, 7) := ⟨⟨by decide +kernel, by decide +kernel⟩, List.mem_of_getElem? (i := 424) (by decide +kernel), List.mem_of_getElem? (i := 632) (by decide +kernel), List.mem_of_getElem? (i := 633) (by decide +kernel)⟩
theorem lw_p62 : lw_okq (⟨"LayeredImageModel", "marksRight", "()Z"⟩, 7) := ⟨⟨by decide +kernel, by decide +kernel⟩, List.mem_of_getElem? (i := 424) (by decide +kernel), List.mem_of_getElem? (i := 636) (by decide +kernel), List.mem_of_getElem? (i := 637) (by decide +kernel)⟩
theorem lw_p63 : lw_okq (⟨"LayeredImageModel", "restRight", "()Z"⟩, 7) := ⟨⟨by decide +kernel, by decide +kernel⟩, List.mem_of_getElem? (i := 424) (by decide +kernel), List.mem_of_getElem? (i := 640) (by decide +kernel), List.mem_of_getElem? (i := 641) (by decide +kernel)⟩
def lw_privs_4 : List (MethodName × Nat) := [(⟨"LayeredImageModel", "ownLeaf", "(II)I"⟩, 7), (⟨"LayeredImageModel", "take", "(I)I"⟩, 7), (⟨"LayeredImageModel", "leastFree", "()I"⟩, 7), (⟨"LayeredImageModel", "shows", "(IIIII)I"⟩, 7), (⟨"LayeredImageModel", "drop", "(III)I"⟩, 7), (⟨"LayeredImageModel", "named", "(I)I"⟩, 7), (⟨"LayeredImageModel", "copyFile", "(II)V"⟩, 7), (⟨"LayeredImageModel", "headerRight", "()Z"⟩, 7), (⟨"LayeredImageModel", "usesRight", "()Z"⟩, 7), (⟨"LayeredImageModel", "lead", "(II)Z"⟩, 7), (⟨"LayeredImageModel", "walkTable", "(I)V"⟩, 7), (⟨"LayeredImageModel", "follow", "(II)Z"⟩, 7), (⟨"LayeredImageModel", "listRight", "()Z"⟩, 7), (⟨"LayeredImageModel", "countsRight", "()Z"⟩, 7), (⟨"LayeredImageModel", "marksRight", "()Z"⟩, 7), (⟨"LayeredImageModel", "restRight", "()Z"⟩, 7)]
theorem lw_r4 : ∀ q ∈ lw_privs_4, lw_okq q := List.forall_mem_cons.mpr ⟨lw_p48, List.forall_mem_cons.mpr ⟨lw_p49, List.forall_mem_cons.mpr ⟨lw_p50, List.forall_mem_cons.mpr ⟨lw_p51, List.forall_mem_cons.mpr ⟨lw_p52, List.forall_mem_cons.mpr ⟨lw_p53, List.forall_mem_cons.mpr ⟨lw_p54, List.forall_mem_cons.mpr ⟨lw_p55, List.forall_mem_cons.mpr ⟨lw_p56, List.forall_mem_cons.mpr ⟨lw_p57, List.forall_mem_cons.mpr ⟨lw_p58, List.forall_mem_cons.mpr ⟨lw_p59, List.forall_mem_cons.mpr ⟨lw_p60, List.forall_mem_cons.mpr ⟨lw_p61, List.forall_mem_cons.mpr ⟨lw_p62, List.forall_mem_cons.mpr ⟨lw_p63, fun _ h => absurd h List.not_mem_nil⟩⟩⟩⟩⟩⟩⟩⟩⟩⟩⟩⟩⟩⟩⟩⟩
def lw_privs : List (MethodName × Nat) := lw_privs_1 ++ (lw_privs_2 ++ (lw_privs_3 ++ (lw_privs_4)))
def lw_tbl : List Cond := k2_sels lw_privs ++ tables_1
theorem lw_privs_ok : ∀ q ∈ lw_privs, lw_okq q := by
  show ∀ q ∈ lw_privs_1 ++ (lw_privs_2 ++ (lw_privs_3 ++ (lw_privs_4))), lw_okq q
  exact List.forall_mem_append.mpr ⟨lw_r1, List.forall_mem_append.mpr ⟨lw_r2, List.forall_mem_append.mpr ⟨lw_r3, lw_r4⟩⟩⟩
-- ===== names: classes, fields, codes, method names (printed of the program) =====
def RX0 : String := "LayeredImage$ClusterFile"
def TX0 : u_T := fun k => match k with
  | _ => ("LayeredImage$ClusterFile", "words", "[I", true)
def tyX0 : Nat → FieldType := fun k => match k with
  | _ => .array .int
abbrev wsX00 : List Cond := u_ws RX0 TX0 1
theorem nmX0 : ∀ a, a < 1 → ∀ b, b < 1 → a ≠ b → (TX0 a).2.1 ≠ (TX0 b).2.1 := by decide +kernel
theorem tyX0_ok : ∀ k, k < 1 → parseFieldDescriptor (TX0 k).2.2.1 = some (tyX0 k) := by decide +kernel
abbrev cX0_init : ByteArray := prog_2_method_1_code
def yX0_init : MethodName := ⟨RX0, "<init>", "()V"⟩
abbrev cX0_at : ByteArray := prog_2_method_2_code
def yX0_at : MethodName := ⟨RX0, "at", "(II)I"⟩
abbrev cX0_put : ByteArray := prog_2_method_3_code
def yX0_put : MethodName := ⟨RX0, "put", "(III)V"⟩
abbrev cX0_becomeLike : ByteArray := prog_2_method_4_code
def yX0_becomeLike : MethodName := ⟨RX0, "becomeLike", "(LLayeredImage$ClusterFile;)V"⟩
abbrev cX0_copyCluster : ByteArray := prog_2_method_5_code
def yX0_copyCluster : MethodName := ⟨RX0, "copyCluster", "(LLayeredImage$ClusterFile;II)V"⟩
abbrev cX0_isBlank : ByteArray := prog_2_method_6_code
def yX0_isBlank : MethodName := ⟨RX0, "isBlank", "(II)Z"⟩
abbrev cX0_format : ByteArray := prog_2_method_7_code
def yX0_format : MethodName := ⟨RX0, "format", "(I)V"⟩
abbrev cX0_count : ByteArray := prog_2_method_8_code
def yX0_count : MethodName := ⟨RX0, "count", "(I)I"⟩
abbrev cX0_addToCount : ByteArray := prog_2_method_9_code
def yX0_addToCount : MethodName := ⟨RX0, "addToCount", "(II)V"⟩
abbrev cX0_clustersInUse : ByteArray := prog_2_method_10_code
def yX0_clustersInUse : MethodName := ⟨RX0, "clustersInUse", "()I"⟩
abbrev cX0_room : ByteArray := prog_2_method_11_code
def yX0_room : MethodName := ⟨RX0, "room", "()I"⟩
abbrev cX0_take : ByteArray := prog_2_method_12_code
def yX0_take : MethodName := ⟨RX0, "take", "()I"⟩
abbrev cX0_leastFree : ByteArray := prog_2_method_13_code
def yX0_leastFree : MethodName := ⟨RX0, "leastFree", "()I"⟩
def RX1 : String := "LayeredImage$Image"
def TX1 : u_T := fun k => match k with
  | 0 => ("LayeredImage$Image", "file", "LLayeredImage$ClusterFile;", true)
  | _ => ("LayeredImage$Image", "below", "LLayeredImage$Image;", true)
def tyX1 : Nat → FieldType := fun k => match k with
  | 0 => .object "LayeredImage$ClusterFile"
  | _ => .object "LayeredImage$Image"
abbrev wsX10 : List Cond := u_ws RX1 TX1 2
theorem nmX1 : ∀ a, a < 2 → ∀ b, b < 2 → a ≠ b → (TX1 a).2.1 ≠ (TX1 b).2.1 := by decide +kernel
theorem tyX1_ok : ∀ k, k < 2 → parseFieldDescriptor (TX1 k).2.2.1 = some (tyX1 k) := by decide +kernel
abbrev cX1_init : ByteArray := prog_3_method_1_code
def yX1_init : MethodName := ⟨RX1, "<init>", "(LLayeredImage$Image;)V"⟩
abbrev cX1_blocks : ByteArray := prog_3_method_2_code
def yX1_blocks : MethodName := ⟨RX1, "blocks", "()I"⟩
abbrev cX1_hasBlock : ByteArray := prog_3_method_3_code
def yX1_hasBlock : MethodName := ⟨RX1, "hasBlock", "(I)Z"⟩
abbrev cX1_hasAddress : ByteArray := prog_3_method_4_code
def yX1_hasAddress : MethodName := ⟨RX1, "hasAddress", "(I)Z"⟩
abbrev cX1_activeTable : ByteArray := prog_3_method_5_code
def yX1_activeTable : MethodName := ⟨RX1, "activeTable", "()I"⟩
abbrev cX1_leafLead : ByteArray := prog_3_method_6_code
def yX1_leafLead : MethodName := ⟨RX1, "leafLead", "(I)I"⟩
abbrev cX1_blockWord : ByteArray := prog_3_method_7_code
def yX1_blockWord : MethodName := ⟨RX1, "blockWord", "(II)I"⟩
abbrev cX1_activeWord : ByteArray := prog_3_method_8_code
def yX1_activeWord : MethodName := ⟨RX1, "activeWord", "(I)I"⟩
abbrev cX1_putActiveWord : ByteArray := prog_3_method_9_code
def yX1_putActiveWord : MethodName := ⟨RX1, "putActiveWord", "(II)V"⟩
abbrev cX1_shown : ByteArray := prog_3_method_10_code
def yX1_shown : MethodName := ⟨RX1, "shown", "(II)I"⟩
abbrev cX1_putWord : ByteArray := prog_3_method_11_code
def yX1_putWord : MethodName := ⟨RX1, "putWord", "(II)I"⟩
abbrev cX1_dropBlock : ByteArray := prog_3_method_12_code
def yX1_dropBlock : MethodName := ⟨RX1, "dropBlock", "(I)I"⟩
abbrev cX1_dropChanges : ByteArray := prog_3_method_13_code
def yX1_dropChanges : MethodName := ⟨RX1, "dropChanges", "(I)Z"⟩
abbrev cX1_makeZero : ByteArray := prog_3_method_14_code
def yX1_makeZero : MethodName := ⟨RX1, "makeZero", "(I)V"⟩
abbrev cX1_release : ByteArray := prog_3_method_15_code
def yX1_release : MethodName := ⟨RX1, "release", "(I)V"⟩
abbrev cX1_isOwn : ByteArray := prog_3_method_16_code
def yX1_isOwn : MethodName := ⟨RX1, "isOwn", "(I)Z"⟩
abbrev cX1_leavesFor : ByteArray := prog_3_method_17_code
def yX1_leavesFor : MethodName := ⟨RX1, "leavesFor", "(I)I"⟩
abbrev cX1_clustersFor : ByteArray := prog_3_method_18_code
def yX1_clustersFor : MethodName := ⟨RX1, "clustersFor", "(I)I"⟩
abbrev cX1_giveLeaf : ByteArray := prog_3_method_19_code
def yX1_giveLeaf : MethodName := ⟨RX1, "giveLeaf", "(I)V"⟩
abbrev cX1_giveCluster : ByteArray := prog_3_method_20_code
def yX1_giveCluster : MethodName := ⟨RX1, "giveCluster", "(I)I"⟩
abbrev cX1_tellFlags : ByteArray := prog_3_method_21_code
def yX1_tellFlags : MethodName := ⟨RX1, "tellFlags", "()V"⟩
abbrev cX1_tellFlagsBelow : ByteArray := prog_3_method_22_code
def yX1_tellFlagsBelow : MethodName := ⟨RX1, "tellFlagsBelow", "(I)V"⟩
abbrev cX1_tellFlagsIn : ByteArray := prog_3_method_23_code
def yX1_tellFlagsIn : MethodName := ⟨RX1, "tellFlagsIn", "(I)V"⟩
abbrev cX1_snapshotCount : ByteArray := prog_3_method_24_code
def yX1_snapshotCount : MethodName := ⟨RX1, "snapshotCount", "()I"⟩
abbrev cX1_snapshotList : ByteArray := prog_3_method_25_code
def yX1_snapshotList : MethodName := ⟨RX1, "snapshotList", "()I"⟩
abbrev cX1_snapshotTable : ByteArray := prog_3_method_26_code
def yX1_snapshotTable : MethodName := ⟨RX1, "snapshotTable", "(I)I"⟩
abbrev cX1_snapshotNamed : ByteArray := prog_3_method_27_code
def yX1_snapshotNamed : MethodName := ⟨RX1, "snapshotNamed", "(I)I"⟩
abbrev cX1_addSnapshot : ByteArray := prog_3_method_28_code
def yX1_addSnapshot : MethodName := ⟨RX1, "addSnapshot", "(I)I"⟩
abbrev cX1_returnTo : ByteArray := prog_3_method_29_code
def yX1_returnTo : MethodName := ⟨RX1, "returnTo", "(I)V"⟩
abbrev cX1_removeSnapshot : ByteArray := prog_3_method_30_code
def yX1_removeSnapshot : MethodName := ⟨RX1, "removeSnapshot", "(I)V"⟩
abbrev cX1_closeListGap : ByteArray := prog_3_method_31_code
def yX1_closeListGap : MethodName := ⟨RX1, "closeListGap", "(I)V"⟩
abbrev cX1_countTable : ByteArray := prog_3_method_32_code
def yX1_countTable : MethodName := ⟨RX1, "countTable", "(II)V"⟩
abbrev cX1_countLeaf : ByteArray := prog_3_method_33_code
def yX1_countLeaf : MethodName := ⟨RX1, "countLeaf", "(II)V"⟩
abbrev cX1_takeIn : ByteArray := prog_3_method_34_code
def yX1_takeIn : MethodName := ⟨RX1, "takeIn", "(LLayeredImage$Image;)I"⟩
abbrev cX1_takingsFor : ByteArray := prog_3_method_35_code
def yX1_takingsFor : MethodName := ⟨RX1, "takingsFor", "(LLayeredImage$Image;)I"⟩
def RX2 : String := "LayeredImage$Reader"
def TX2 : u_T := fun k => match k with
  | 0 => ("LayeredImage$Reader", "uses", "[I", true)
  | _ => ("LayeredImage$Reader", "counts", "[I", true)
def tyX2 : Nat → FieldType := fun k => match k with
  | 0 => .array .int
  | _ => .array .int
abbrev wsX20 : List Cond := u_ws RX2 TX2 2
theorem nmX2 : ∀ a, a < 2 → ∀ b, b < 2 → a ≠ b → (TX2 a).2.1 ≠ (TX2 b).2.1 := by decide +kernel
theorem tyX2_ok : ∀ k, k < 2 → parseFieldDescriptor (TX2 k).2.2.1 = some (tyX2 k) := by decide +kernel
abbrev cX2_init : ByteArray := prog_4_method_1_code
def yX2_init : MethodName := ⟨RX2, "<init>", "()V"⟩
abbrev cX2_firstWrong : ByteArray := prog_4_method_2_code
def yX2_firstWrong : MethodName := ⟨RX2, "firstWrong", "(LLayeredImage$ClusterFile;)I"⟩
abbrev cX2_isHeaderRight : ByteArray := prog_4_method_3_code
def yX2_isHeaderRight : MethodName := ⟨RX2, "isHeaderRight", "(LLayeredImage$ClusterFile;)Z"⟩
abbrev cX2_areLeadsRight : ByteArray := prog_4_method_4_code
def yX2_areLeadsRight : MethodName := ⟨RX2, "areLeadsRight", "(LLayeredImage$ClusterFile;)Z"⟩
abbrev cX2_claim : ByteArray := prog_4_method_5_code
def yX2_claim : MethodName := ⟨RX2, "claim", "(II)Z"⟩
abbrev cX2_areHeaderLeadsRight : ByteArray := prog_4_method_6_code
def yX2_areHeaderLeadsRight : MethodName := ⟨RX2, "areHeaderLeadsRight", "(LLayeredImage$ClusterFile;)Z"⟩
abbrev cX2_areCountLeadsRight : ByteArray := prog_4_method_7_code
def yX2_areCountLeadsRight : MethodName := ⟨RX2, "areCountLeadsRight", "(LLayeredImage$ClusterFile;)Z"⟩
abbrev cX2_areListLeadsRight : ByteArray := prog_4_method_8_code
def yX2_areListLeadsRight : MethodName := ⟨RX2, "areListLeadsRight", "(LLayeredImage$ClusterFile;)Z"⟩
abbrev cX2_areTableLeadsRight : ByteArray := prog_4_method_9_code
def yX2_areTableLeadsRight : MethodName := ⟨RX2, "areTableLeadsRight", "(LLayeredImage$ClusterFile;I)Z"⟩
abbrev cX2_areLeafLeadsRight : ByteArray := prog_4_method_10_code
def yX2_areLeafLeadsRight : MethodName := ⟨RX2, "areLeafLeadsRight", "(LLayeredImage$ClusterFile;II)Z"⟩
abbrev cX2_clusterLedTo : ByteArray := prog_4_method_11_code
def yX2_clusterLedTo : MethodName := ⟨RX2, "clusterLedTo", "(I)I"⟩
abbrev cX2_isListRight : ByteArray := prog_4_method_12_code
def yX2_isListRight : MethodName := ⟨RX2, "isListRight", "(LLayeredImage$ClusterFile;)Z"⟩
abbrev cX2_areCountsRight : ByteArray := prog_4_method_13_code
def yX2_areCountsRight : MethodName := ⟨RX2, "areCountsRight", "(LLayeredImage$ClusterFile;)Z"⟩
abbrev cX2_areFlagsRight : ByteArray := prog_4_method_14_code
def yX2_areFlagsRight : MethodName := ⟨RX2, "areFlagsRight", "(LLayeredImage$ClusterFile;)Z"⟩
abbrev cX2_hasFlags : ByteArray := prog_4_method_15_code
def yX2_hasFlags : MethodName := ⟨RX2, "hasFlags", "(I)Z"⟩
abbrev cX2_areFlagsRightIn : ByteArray := prog_4_method_16_code
def yX2_areFlagsRightIn : MethodName := ⟨RX2, "areFlagsRightIn", "(LLayeredImage$ClusterFile;I)Z"⟩
abbrev cX2_areOthersBlank : ByteArray := prog_4_method_17_code
def yX2_areOthersBlank : MethodName := ⟨RX2, "areOthersBlank", "(LLayeredImage$ClusterFile;)Z"⟩
def RX3 : String := "LayeredImage"
def TX3 : u_T := fun k => match k with
  | 0 => ("LayeredImage", "chain", "[LLayeredImage$Image;", true)
  | 1 => ("LayeredImage", "height", "I", false)
  | 2 => ("LayeredImage", "staged", "LLayeredImage$ClusterFile;", true)
  | _ => ("LayeredImage", "reader", "LLayeredImage$Reader;", true)
def tyX3 : Nat → FieldType := fun k => match k with
  | 0 => .array (.object "LayeredImage$Image")
  | 1 => .int
  | 2 => .object "LayeredImage$ClusterFile"
  | _ => .object "LayeredImage$Reader"
abbrev wsX30 : List Cond := u_ws RX3 TX3 4
theorem nmX3 : ∀ a, a < 4 → ∀ b, b < 4 → a ≠ b → (TX3 a).2.1 ≠ (TX3 b).2.1 := by decide +kernel
theorem tyX3_ok : ∀ k, k < 4 → parseFieldDescriptor (TX3 k).2.2.1 = some (tyX3 k) := by decide +kernel
abbrev cX3_init : ByteArray := prog_1_method_1_code
def yX3_init : MethodName := ⟨RX3, "<init>", "(I)V"⟩
abbrev cX3_write : ByteArray := prog_1_method_2_code
def yX3_write : MethodName := ⟨RX3, "write", "(II)I"⟩
abbrev cX3_read : ByteArray := prog_1_method_3_code
def yX3_read : MethodName := ⟨RX3, "read", "(I)I"⟩
abbrev cX3_discard : ByteArray := prog_1_method_4_code
def yX3_discard : MethodName := ⟨RX3, "discard", "(I)I"⟩
abbrev cX3_snapshot : ByteArray := prog_1_method_5_code
def yX3_snapshot : MethodName := ⟨RX3, "snapshot", "(I)I"⟩
abbrev cX3_revert : ByteArray := prog_1_method_6_code
def yX3_revert : MethodName := ⟨RX3, "revert", "(I)I"⟩
abbrev cX3_delete : ByteArray := prog_1_method_7_code
def yX3_delete : MethodName := ⟨RX3, "delete", "(I)I"⟩
abbrev cX3_readOld : ByteArray := prog_1_method_8_code
def yX3_readOld : MethodName := ⟨RX3, "readOld", "(II)J"⟩
abbrev cX3_overlay : ByteArray := prog_1_method_9_code
def yX3_overlay : MethodName := ⟨RX3, "overlay", "()I"⟩
abbrev cX3_commit : ByteArray := prog_1_method_10_code
def yX3_commit : MethodName := ⟨RX3, "commit", "()I"⟩
abbrev cX3_grow : ByteArray := prog_1_method_11_code
def yX3_grow : MethodName := ⟨RX3, "grow", "(I)I"⟩
abbrev cX3_size : ByteArray := prog_1_method_12_code
def yX3_size : MethodName := ⟨RX3, "size", "()I"⟩
abbrev cX3_images : ByteArray := prog_1_method_13_code
def yX3_images : MethodName := ⟨RX3, "images", "()I"⟩
abbrev cX3_used : ByteArray := prog_1_method_14_code
def yX3_used : MethodName := ⟨RX3, "used", "()I"⟩
abbrev cX3_word : ByteArray := prog_1_method_15_code
def yX3_word : MethodName := ⟨RX3, "word", "(II)I"⟩
abbrev cX3_stage : ByteArray := prog_1_method_16_code
def yX3_stage : MethodName := ⟨RX3, "stage", "(IIIII)Z"⟩
abbrev cX3_load : ByteArray := prog_1_method_17_code
def yX3_load : MethodName := ⟨RX3, "load", "()I"⟩
abbrev cX3_top : ByteArray := prog_1_method_18_code
def yX3_top : MethodName := ⟨RX3, "top", "()LLayeredImage$Image;"⟩
abbrev cX3_isLead : ByteArray := prog_1_method_19_code
def yX3_isLead : MethodName := ⟨RX3, "isLead", "(I)Z"⟩
abbrev cX3_clusterOf : ByteArray := prog_1_method_20_code
def yX3_clusterOf : MethodName := ⟨RX3, "clusterOf", "(I)I"⟩
abbrev cX3_leadTo : ByteArray := prog_1_method_21_code
def yX3_leadTo : MethodName := ⟨RX3, "leadTo", "(IZ)I"⟩
def RX4 : String := "LayeredImageModel"
def TX4 : u_T := fun k => match k with
  | 0 => ("LayeredImageModel", "file", "[I", true)
  | 1 => ("LayeredImageModel", "stage", "[I", true)
  | 2 => ("LayeredImageModel", "images", "I", false)
  | 3 => ("LayeredImageModel", "count", "[I", true)
  | 4 => ("LayeredImageModel", "use", "[I", true)
  | 5 => ("LayeredImageModel", "fits", "Z", false)
  | _ => ("LayeredImageModel", "shown", "[I", true)
def tyX4 : Nat → FieldType := fun k => match k with
  | 0 => .array .int
  | 1 => .array .int
  | 2 => .int
  | 3 => .array .int
  | 4 => .array .int
  | 5 => .boolean
  | _ => .array .int
abbrev wsX40 : List Cond := u_ws RX4 TX4 7
theorem nmX4 : ∀ a, a < 7 → ∀ b, b < 7 → a ≠ b → (TX4 a).2.1 ≠ (TX4 b).2.1 := by decide +kernel
theorem tyX4_ok : ∀ k, k < 7 → parseFieldDescriptor (TX4 k).2.2.1 = some (tyX4 k) := by decide +kernel
abbrev cX4_init : ByteArray := prog_6_method_1_code
def yX4_init : MethodName := ⟨RX4, "<init>", "(I)V"⟩
abbrev cX4_fresh : ByteArray := prog_6_method_2_code
def yX4_fresh : MethodName := ⟨RX4, "fresh", "(II)V"⟩
abbrev cX4_at : ByteArray := prog_6_method_3_code
def yX4_at : MethodName := ⟨RX4, "at", "(II)I"⟩
abbrev cX4_sizeOf : ByteArray := prog_6_method_4_code
def yX4_sizeOf : MethodName := ⟨RX4, "sizeOf", "(I)I"⟩
abbrev cX4_snapshots : ByteArray := prog_6_method_5_code
def yX4_snapshots : MethodName := ⟨RX4, "snapshots", "(I)I"⟩
abbrev cX4_table : ByteArray := prog_6_method_6_code
def yX4_table : MethodName := ⟨RX4, "table", "(II)I"⟩
abbrev cX4_recount : ByteArray := prog_6_method_7_code
def yX4_recount : MethodName := ⟨RX4, "recount", "(I)V"⟩
abbrev cX4_countLeaf : ByteArray := prog_6_method_8_code
def yX4_countLeaf : MethodName := ⟨RX4, "countLeaf", "(I)V"⟩
abbrev cX4_marked : ByteArray := prog_6_method_9_code
def yX4_marked : MethodName := ⟨RX4, "marked", "(I)I"⟩
abbrev cX4_settle : ByteArray := prog_6_method_10_code
def yX4_settle : MethodName := ⟨RX4, "settle", "(I)V"⟩
abbrev cX4_leastFree : ByteArray := prog_6_method_11_code
def yX4_leastFree : MethodName := ⟨RX4, "leastFree", "()I"⟩
abbrev cX4_take : ByteArray := prog_6_method_12_code
def yX4_take : MethodName := ⟨RX4, "take", "(I)I"⟩
abbrev cX4_room : ByteArray := prog_6_method_13_code
def yX4_room : MethodName := ⟨RX4, "room", "(I)I"⟩
abbrev cX4_slot : ByteArray := prog_6_method_14_code
def yX4_slot : MethodName := ⟨RX4, "slot", "(III)I"⟩
abbrev cX4_entry : ByteArray := prog_6_method_15_code
def yX4_entry : MethodName := ⟨RX4, "entry", "(III)I"⟩
abbrev cX4_shows : ByteArray := prog_6_method_16_code
def yX4_shows : MethodName := ⟨RX4, "shows", "(IIIII)I"⟩
abbrev cX4_lacksLeaf : ByteArray := prog_6_method_17_code
def yX4_lacksLeaf : MethodName := ⟨RX4, "lacksLeaf", "(II)Z"⟩
abbrev cX4_lacksCluster : ByteArray := prog_6_method_18_code
def yX4_lacksCluster : MethodName := ⟨RX4, "lacksCluster", "(II)Z"⟩
abbrev cX4_ownLeaf : ByteArray := prog_6_method_19_code
def yX4_ownLeaf : MethodName := ⟨RX4, "ownLeaf", "(II)I"⟩
abbrev cX4_own : ByteArray := prog_6_method_20_code
def yX4_own : MethodName := ⟨RX4, "own", "(III)I"⟩
abbrev cX4_isAddress : ByteArray := prog_6_method_21_code
def yX4_isAddress : MethodName := ⟨RX4, "isAddress", "(I)Z"⟩
abbrev cX4_write : ByteArray := prog_6_method_22_code
def yX4_write : MethodName := ⟨RX4, "write", "(II)I"⟩
abbrev cX4_read : ByteArray := prog_6_method_23_code
def yX4_read : MethodName := ⟨RX4, "read", "(I)I"⟩
abbrev cX4_drop : ByteArray := prog_6_method_24_code
def yX4_drop : MethodName := ⟨RX4, "drop", "(III)I"⟩
abbrev cX4_discard : ByteArray := prog_6_method_25_code
def yX4_discard : MethodName := ⟨RX4, "discard", "(I)I"⟩
abbrev cX4_named : ByteArray := prog_6_method_26_code
def yX4_named : MethodName := ⟨RX4, "named", "(I)I"⟩
abbrev cX4_snapshot : ByteArray := prog_6_method_27_code
def yX4_snapshot : MethodName := ⟨RX4, "snapshot", "(I)I"⟩
abbrev cX4_revert : ByteArray := prog_6_method_28_code
def yX4_revert : MethodName := ⟨RX4, "revert", "(I)I"⟩
abbrev cX4_delete : ByteArray := prog_6_method_29_code
def yX4_delete : MethodName := ⟨RX4, "delete", "(I)I"⟩
abbrev cX4_readOld : ByteArray := prog_6_method_30_code
def yX4_readOld : MethodName := ⟨RX4, "readOld", "(II)J"⟩
abbrev cX4_overlay : ByteArray := prog_6_method_31_code
def yX4_overlay : MethodName := ⟨RX4, "overlay", "()I"⟩
abbrev cX4_copyFile : ByteArray := prog_6_method_32_code
def yX4_copyFile : MethodName := ⟨RX4, "copyFile", "(II)V"⟩
abbrev cX4_commit : ByteArray := prog_6_method_33_code
def yX4_commit : MethodName := ⟨RX4, "commit", "()I"⟩
abbrev cX4_grow : ByteArray := prog_6_method_34_code
def yX4_grow : MethodName := ⟨RX4, "grow", "(I)I"⟩
abbrev cX4_size : ByteArray := prog_6_method_35_code
def yX4_size : MethodName := ⟨RX4, "size", "()I"⟩
abbrev cX4_images : ByteArray := prog_6_method_36_code
def yX4_images : MethodName := ⟨RX4, "images", "()I"⟩
abbrev cX4_used : ByteArray := prog_6_method_37_code
def yX4_used : MethodName := ⟨RX4, "used", "()I"⟩
abbrev cX4_word : ByteArray := prog_6_method_38_code
def yX4_word : MethodName := ⟨RX4, "word", "(II)I"⟩
abbrev cX4_stage : ByteArray := prog_6_method_39_code
def yX4_stage : MethodName := ⟨RX4, "stage", "(IIIII)Z"⟩
abbrev cX4_lead : ByteArray := prog_6_method_40_code
def yX4_lead : MethodName := ⟨RX4, "lead", "(II)Z"⟩
abbrev cX4_headerRight : ByteArray := prog_6_method_41_code
def yX4_headerRight : MethodName := ⟨RX4, "headerRight", "()Z"⟩
abbrev cX4_follow : ByteArray := prog_6_method_42_code
def yX4_follow : MethodName := ⟨RX4, "follow", "(II)Z"⟩
abbrev cX4_walkTable : ByteArray := prog_6_method_43_code
def yX4_walkTable : MethodName := ⟨RX4, "walkTable", "(I)V"⟩
abbrev cX4_usesRight : ByteArray := prog_6_method_44_code
def yX4_usesRight : MethodName := ⟨RX4, "usesRight", "()Z"⟩
abbrev cX4_listRight : ByteArray := prog_6_method_45_code
def yX4_listRight : MethodName := ⟨RX4, "listRight", "()Z"⟩
abbrev cX4_countsRight : ByteArray := prog_6_method_46_code
def yX4_countsRight : MethodName := ⟨RX4, "countsRight", "()Z"⟩
abbrev cX4_marksRight : ByteArray := prog_6_method_47_code
def yX4_marksRight : MethodName := ⟨RX4, "marksRight", "()Z"⟩
abbrev cX4_restRight : ByteArray := prog_6_method_48_code
def yX4_restRight : MethodName := ⟨RX4, "restRight", "()Z"⟩
abbrev cX4_load : ByteArray := prog_6_method_49_code
def yX4_load : MethodName := ⟨RX4, "load", "()I"⟩
def RJ9 : String := "java/lang/Math"
def TJ9 : u_T := fun k => match k with
  | _ => ("", "", "", false)
def tyJ9 : Nat → FieldType := fun k => match k with
  | _ => .int
theorem nmJ9 : ∀ a, a < 0 → ∀ b, b < 0 → a ≠ b → (TJ9 a).2.1 ≠ (TJ9 b).2.1 := by decide +kernel
theorem tyJ9_ok : ∀ k, k < 0 → parseFieldDescriptor (TJ9 k).2.2.1 = some (tyJ9 k) := by decide +kernel
abbrev cJ9_max_7cf53 : ByteArray := prog_7_method_65_code
def yJ9_max_7cf53 : MethodName := ⟨RJ9, "max", "(II)I"⟩
abbrev cJ9_min_7cf53 : ByteArray := prog_7_method_69_code
def yJ9_min_7cf53 : MethodName := ⟨RJ9, "min", "(II)I"⟩
def RJ10 : String := "java/lang/System"
def TJ10 : u_T := fun k => match k with
  | _ => ("", "", "", false)
def tyJ10 : Nat → FieldType := fun k => match k with
  | _ => .int
theorem nmJ10 : ∀ a, a < 0 → ∀ b, b < 0 → a ≠ b → (TJ10 a).2.1 ≠ (TJ10 b).2.1 := by decide +kernel
theorem tyJ10_ok : ∀ k, k < 0 → parseFieldDescriptor (TJ10 k).2.2.1 = some (tyJ10 k) := by decide +kernel
def RL : String := "LayeredImageLaw"
abbrev cL_cell : ByteArray := method_2_code
def yL_cell : MethodName := ⟨RL, "cell", "([II)I"⟩
abbrev cL_law : ByteArray := code
def yL_law : MethodName := ⟨RL, "law", "([I)Z"⟩
abbrev vwCl : List vw_C := [(RX0, TX0, 1), (RX1, TX1, 2), (RX2, TX2, 2), (RX3, TX3, 4), (RX4, TX4, 7)]
