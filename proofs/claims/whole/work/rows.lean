section
-- ===== PART A: goes FIRST, ahead of the names: the tables' words, and 'selects' of the private methods out of them =====
/-- a private method of a class that the tables say can be made, by its rows of tables_1 -/
def lw_okq (q : MethodName × Nat) : Prop := (q.1.cls ≠ "java/lang/invoke/MethodHandle" ∧ q.1.cls ≠ "java/lang/invoke/VarHandle") ∧ Cond.instantiable q.1.cls q.2 ∈ tables_1 ∧ Cond.privateMethod q.1 ∈ tables_1 ∧ Cond.instanceMethod q.1 ∈ tables_1
theorem lw_p0 : lw_okq (⟨"LayeredImage", "top", "()LLayeredImage$Image;"⟩, 4) := ⟨⟨by decide +kernel, by decide +kernel⟩, List.mem_of_getElem? (i := 9) (by decide +kernel), List.mem_of_getElem? (i := 90) (by decide +kernel), List.mem_of_getElem? (i := 91) (by decide +kernel)⟩
theorem lw_p1 : lw_okq (⟨"LayeredImage$Image", "leavesFor", "(I)I"⟩, 2) := ⟨⟨by decide +kernel, by decide +kernel⟩, List.mem_of_getElem? (i := 18) (by decide +kernel), List.mem_of_getElem? (i := 110) (by decide +kernel), List.mem_of_getElem? (i := 111) (by decide +kernel)⟩
theorem lw_p2 : lw_okq (⟨"LayeredImage$Image", "leafLead", "(I)I"⟩, 2) := ⟨⟨by decide +kernel, by decide +kernel⟩, List.mem_of_getElem? (i := 18) (by decide +kernel), List.mem_of_getElem? (i := 114) (by decide +kernel), List.mem_of_getElem? (i := 115) (by decide +kernel)⟩
theorem lw_p3 : lw_okq (⟨"LayeredImage$Image", "isOwn", "(I)Z"⟩, 2) := ⟨⟨by decide +kernel, by decide +kernel⟩, List.mem_of_getElem? (i := 18) (by decide +kernel), List.mem_of_getElem? (i := 122) (by decide +kernel), List.mem_of_getElem? (i := 123) (by decide +kernel)⟩
theorem lw_p4 : lw_okq (⟨"LayeredImage$Image", "clustersFor", "(I)I"⟩, 2) := ⟨⟨by decide +kernel, by decide +kernel⟩, List.mem_of_getElem? (i := 18) (by decide +kernel), List.mem_of_getElem? (i := 137) (by decide +kernel), List.mem_of_getElem? (i := 138) (by decide +kernel)⟩
theorem lw_p5 : lw_okq (⟨"LayeredImage$Image", "activeWord", "(I)I"⟩, 2) := ⟨⟨by decide +kernel, by decide +kernel⟩, List.mem_of_getElem? (i := 18) (by decide +kernel), List.mem_of_getElem? (i := 141) (by decide +kernel), List.mem_of_getElem? (i := 142) (by decide +kernel)⟩
theorem lw_p6 : lw_okq (⟨"LayeredImage$Image", "blockWord", "(II)I"⟩, 2) := ⟨⟨by decide +kernel, by decide +kernel⟩, List.mem_of_getElem? (i := 18) (by decide +kernel), List.mem_of_getElem? (i := 145) (by decide +kernel), List.mem_of_getElem? (i := 146) (by decide +kernel)⟩
theorem lw_p7 : lw_okq (⟨"LayeredImage$Image", "giveLeaf", "(I)V"⟩, 2) := ⟨⟨by decide +kernel, by decide +kernel⟩, List.mem_of_getElem? (i := 18) (by decide +kernel), List.mem_of_getElem? (i := 158) (by decide +kernel), List.mem_of_getElem? (i := 159) (by decide +kernel)⟩
theorem lw_p8 : lw_okq (⟨"LayeredImage$ClusterFile", "leastFree", "()I"⟩, 1) := ⟨⟨by decide +kernel, by decide +kernel⟩, List.mem_of_getElem? (i := 24) (by decide +kernel), List.mem_of_getElem? (i := 166) (by decide +kernel), List.mem_of_getElem? (i := 167) (by decide +kernel)⟩
theorem lw_p9 : lw_okq (⟨"LayeredImage$Image", "release", "(I)V"⟩, 2) := ⟨⟨by decide +kernel, by decide +kernel⟩, List.mem_of_getElem? (i := 18) (by decide +kernel), List.mem_of_getElem? (i := 182) (by decide +kernel), List.mem_of_getElem? (i := 183) (by decide +kernel)⟩
theorem lw_p10 : lw_okq (⟨"LayeredImage$Image", "giveCluster", "(I)I"⟩, 2) := ⟨⟨by decide +kernel, by decide +kernel⟩, List.mem_of_getElem? (i := 18) (by decide +kernel), List.mem_of_getElem? (i := 187) (by decide +kernel), List.mem_of_getElem? (i := 188) (by decide +kernel)⟩
theorem lw_p11 : lw_okq (⟨"LayeredImage$Image", "putActiveWord", "(II)V"⟩, 2) := ⟨⟨by decide +kernel, by decide +kernel⟩, List.mem_of_getElem? (i := 18) (by decide +kernel), List.mem_of_getElem? (i := 195) (by decide +kernel), List.mem_of_getElem? (i := 196) (by decide +kernel)⟩
theorem lw_p12 : lw_okq (⟨"LayeredImage$Image", "tellFlags", "()V"⟩, 2) := ⟨⟨by decide +kernel, by decide +kernel⟩, List.mem_of_getElem? (i := 18) (by decide +kernel), List.mem_of_getElem? (i := 199) (by decide +kernel), List.mem_of_getElem? (i := 200) (by decide +kernel)⟩
theorem lw_p13 : lw_okq (⟨"LayeredImage$Image", "tellFlagsBelow", "(I)V"⟩, 2) := ⟨⟨by decide +kernel, by decide +kernel⟩, List.mem_of_getElem? (i := 18) (by decide +kernel), List.mem_of_getElem? (i := 203) (by decide +kernel), List.mem_of_getElem? (i := 204) (by decide +kernel)⟩
theorem lw_p14 : lw_okq (⟨"LayeredImage$Image", "tellFlagsIn", "(I)V"⟩, 2) := ⟨⟨by decide +kernel, by decide +kernel⟩, List.mem_of_getElem? (i := 18) (by decide +kernel), List.mem_of_getElem? (i := 207) (by decide +kernel), List.mem_of_getElem? (i := 208) (by decide +kernel)⟩
theorem lw_p15 : lw_okq (⟨"LayeredImage$Image", "snapshotList", "()I"⟩, 2) := ⟨⟨by decide +kernel, by decide +kernel⟩, List.mem_of_getElem? (i := 18) (by decide +kernel), List.mem_of_getElem? (i := 219) (by decide +kernel), List.mem_of_getElem? (i := 220) (by decide +kernel)⟩
def lw_privs_1 : List (MethodName × Nat) := [(⟨"LayeredImage", "top", "()LLayeredImage$Image;"⟩, 4), (⟨"LayeredImage$Image", "leavesFor", "(I)I"⟩, 2), (⟨"LayeredImage$Image", "leafLead", "(I)I"⟩, 2), (⟨"LayeredImage$Image", "isOwn", "(I)Z"⟩, 2), (⟨"LayeredImage$Image", "clustersFor", "(I)I"⟩, 2), (⟨"LayeredImage$Image", "activeWord", "(I)I"⟩, 2), (⟨"LayeredImage$Image", "blockWord", "(II)I"⟩, 2), (⟨"LayeredImage$Image", "giveLeaf", "(I)V"⟩, 2), (⟨"LayeredImage$ClusterFile", "leastFree", "()I"⟩, 1), (⟨"LayeredImage$Image", "release", "(I)V"⟩, 2), (⟨"LayeredImage$Image", "giveCluster", "(I)I"⟩, 2), (⟨"LayeredImage$Image", "putActiveWord", "(II)V"⟩, 2), (⟨"LayeredImage$Image", "tellFlags", "()V"⟩, 2), (⟨"LayeredImage$Image", "tellFlagsBelow", "(I)V"⟩, 2), (⟨"LayeredImage$Image", "tellFlagsIn", "(I)V"⟩, 2), (⟨"LayeredImage$Image", "snapshotList", "()I"⟩, 2)]
theorem lw_r1 : ∀ q ∈ lw_privs_1, lw_okq q := List.forall_mem_cons.mpr ⟨lw_p0, List.forall_mem_cons.mpr ⟨lw_p1, List.forall_mem_cons.mpr ⟨lw_p2, List.forall_mem_cons.mpr ⟨lw_p3, List.forall_mem_cons.mpr ⟨lw_p4, List.forall_mem_cons.mpr ⟨lw_p5, List.forall_mem_cons.mpr ⟨lw_p6, List.forall_mem_cons.mpr ⟨lw_p7, List.forall_mem_cons.mpr ⟨lw_p8, List.forall_mem_cons.mpr ⟨lw_p9, List.forall_mem_cons.mpr ⟨lw_p10, List.forall_mem_cons.mpr ⟨lw_p11, List.forall_mem_cons.mpr ⟨lw_p12, List.forall_mem_cons.mpr ⟨lw_p13, List.forall_mem_cons.mpr ⟨lw_p14, List.forall_mem_cons.mpr ⟨lw_p15, fun _ h => absurd h List.not_mem_nil⟩⟩⟩⟩⟩⟩⟩⟩⟩⟩⟩⟩⟩⟩⟩⟩
theorem lw_p16 : lw_okq (⟨"LayeredImage$Image", "dropChanges", "(I)Z"⟩, 2) := ⟨⟨by decide +kernel, by decide +kernel⟩, List.mem_of_getElem? (i := 18) (by decide +kernel), List.mem_of_getElem? (i := 241) (by decide +kernel), List.mem_of_getElem? (i := 242) (by decide +kernel)⟩
theorem lw_p17 : lw_okq (⟨"LayeredImage$Image", "makeZero", "(I)V"⟩, 2) := ⟨⟨by decide +kernel, by decide +kernel⟩, List.mem_of_getElem? (i := 18) (by decide +kernel), List.mem_of_getElem? (i := 245) (by decide +kernel), List.mem_of_getElem? (i := 246) (by decide +kernel)⟩
theorem lw_p18 : lw_okq (⟨"LayeredImage$Image", "countTable", "(II)V"⟩, 2) := ⟨⟨by decide +kernel, by decide +kernel⟩, List.mem_of_getElem? (i := 18) (by decide +kernel), List.mem_of_getElem? (i := 261) (by decide +kernel), List.mem_of_getElem? (i := 262) (by decide +kernel)⟩
theorem lw_p19 : lw_okq (⟨"LayeredImage$Image", "countLeaf", "(II)V"⟩, 2) := ⟨⟨by decide +kernel, by decide +kernel⟩, List.mem_of_getElem? (i := 18) (by decide +kernel), List.mem_of_getElem? (i := 265) (by decide +kernel), List.mem_of_getElem? (i := 266) (by decide +kernel)⟩
theorem lw_p20 : lw_okq (⟨"LayeredImage$Image", "closeListGap", "(I)V"⟩, 2) := ⟨⟨by decide +kernel, by decide +kernel⟩, List.mem_of_getElem? (i := 18) (by decide +kernel), List.mem_of_getElem? (i := 286) (by decide +kernel), List.mem_of_getElem? (i := 287) (by decide +kernel)⟩
theorem lw_p21 : lw_okq (⟨"LayeredImage$Image", "takingsFor", "(LLayeredImage$Image;)I"⟩, 2) := ⟨⟨by decide +kernel, by decide +kernel⟩, List.mem_of_getElem? (i := 18) (by decide +kernel), List.mem_of_getElem? (i := 310) (by decide +kernel), List.mem_of_getElem? (i := 311) (by decide +kernel)⟩
theorem lw_p22 : lw_okq (⟨"LayeredImage$Reader", "areLeadsRight", "(LLayeredImage$ClusterFile;)Z"⟩, 2) := ⟨⟨by decide +kernel, by decide +kernel⟩, List.mem_of_getElem? (i := 46) (by decide +kernel), List.mem_of_getElem? (i := 353) (by decide +kernel), List.mem_of_getElem? (i := 354) (by decide +kernel)⟩
theorem lw_p23 : lw_okq (⟨"LayeredImage$Reader", "areHeaderLeadsRight", "(LLayeredImage$ClusterFile;)Z"⟩, 2) := ⟨⟨by decide +kernel, by decide +kernel⟩, List.mem_of_getElem? (i := 46) (by decide +kernel), List.mem_of_getElem? (i := 357) (by decide +kernel), List.mem_of_getElem? (i := 358) (by decide +kernel)⟩
theorem lw_p24 : lw_okq (⟨"LayeredImage$Reader", "claim", "(II)Z"⟩, 2) := ⟨⟨by decide +kernel, by decide +kernel⟩, List.mem_of_getElem? (i := 46) (by decide +kernel), List.mem_of_getElem? (i := 361) (by decide +kernel), List.mem_of_getElem? (i := 362) (by decide +kernel)⟩
theorem lw_p25 : lw_okq (⟨"LayeredImage$Reader", "areCountLeadsRight", "(LLayeredImage$ClusterFile;)Z"⟩, 2) := ⟨⟨by decide +kernel, by decide +kernel⟩, List.mem_of_getElem? (i := 46) (by decide +kernel), List.mem_of_getElem? (i := 365) (by decide +kernel), List.mem_of_getElem? (i := 366) (by decide +kernel)⟩
theorem lw_p26 : lw_okq (⟨"LayeredImage$Reader", "areListLeadsRight", "(LLayeredImage$ClusterFile;)Z"⟩, 2) := ⟨⟨by decide +kernel, by decide +kernel⟩, List.mem_of_getElem? (i := 46) (by decide +kernel), List.mem_of_getElem? (i := 369) (by decide +kernel), List.mem_of_getElem? (i := 370) (by decide +kernel)⟩
theorem lw_p27 : lw_okq (⟨"LayeredImage$Reader", "areTableLeadsRight", "(LLayeredImage$ClusterFile;I)Z"⟩, 2) := ⟨⟨by decide +kernel, by decide +kernel⟩, List.mem_of_getElem? (i := 46) (by decide +kernel), List.mem_of_getElem? (i := 373) (by decide +kernel), List.mem_of_getElem? (i := 374) (by decide +kernel)⟩
theorem lw_p28 : lw_okq (⟨"LayeredImage$Reader", "areLeafLeadsRight", "(LLayeredImage$ClusterFile;II)Z"⟩, 2) := ⟨⟨by decide +kernel, by decide +kernel⟩, List.mem_of_getElem? (i := 46) (by decide +kernel), List.mem_of_getElem? (i := 381) (by decide +kernel), List.mem_of_getElem? (i := 382) (by decide +kernel)⟩
theorem lw_p29 : lw_okq (⟨"LayeredImage$Reader", "areCountsRight", "(LLayeredImage$ClusterFile;)Z"⟩, 2) := ⟨⟨by decide +kernel, by decide +kernel⟩, List.mem_of_getElem? (i := 46) (by decide +kernel), List.mem_of_getElem? (i := 392) (by decide +kernel), List.mem_of_getElem? (i := 393) (by decide +kernel)⟩
theorem lw_p30 : lw_okq (⟨"LayeredImage$Reader", "areFlagsRight", "(LLayeredImage$ClusterFile;)Z"⟩, 2) := ⟨⟨by decide +kernel, by decide +kernel⟩, List.mem_of_getElem? (i := 46) (by decide +kernel), List.mem_of_getElem? (i := 397) (by decide +kernel), List.mem_of_getElem? (i := 398) (by decide +kernel)⟩
theorem lw_p31 : lw_okq (⟨"LayeredImage$Reader", "areFlagsRightIn", "(LLayeredImage$ClusterFile;I)Z"⟩, 2) := ⟨⟨by decide +kernel, by decide +kernel⟩, List.mem_of_getElem? (i := 46) (by decide +kernel), List.mem_of_getElem? (i := 404) (by decide +kernel), List.mem_of_getElem? (i := 405) (by decide +kernel)⟩
def lw_privs_2 : List (MethodName × Nat) := [(⟨"LayeredImage$Image", "dropChanges", "(I)Z"⟩, 2), (⟨"LayeredImage$Image", "makeZero", "(I)V"⟩, 2), (⟨"LayeredImage$Image", "countTable", "(II)V"⟩, 2), (⟨"LayeredImage$Image", "countLeaf", "(II)V"⟩, 2), (⟨"LayeredImage$Image", "closeListGap", "(I)V"⟩, 2), (⟨"LayeredImage$Image", "takingsFor", "(LLayeredImage$Image;)I"⟩, 2), (⟨"LayeredImage$Reader", "areLeadsRight", "(LLayeredImage$ClusterFile;)Z"⟩, 2), (⟨"LayeredImage$Reader", "areHeaderLeadsRight", "(LLayeredImage$ClusterFile;)Z"⟩, 2), (⟨"LayeredImage$Reader", "claim", "(II)Z"⟩, 2), (⟨"LayeredImage$Reader", "areCountLeadsRight", "(LLayeredImage$ClusterFile;)Z"⟩, 2), (⟨"LayeredImage$Reader", "areListLeadsRight", "(LLayeredImage$ClusterFile;)Z"⟩, 2), (⟨"LayeredImage$Reader", "areTableLeadsRight", "(LLayeredImage$ClusterFile;I)Z"⟩, 2), (⟨"LayeredImage$Reader", "areLeafLeadsRight", "(LLayeredImage$ClusterFile;II)Z"⟩, 2), (⟨"LayeredImage$Reader", "areCountsRight", "(LLayeredImage$ClusterFile;)Z"⟩, 2), (⟨"LayeredImage$Reader", "areFlagsRight", "(LLayeredImage$ClusterFile;)Z"⟩, 2), (⟨"LayeredImage$Reader", "areFlagsRightIn", "(LLayeredImage$ClusterFile;I)Z"⟩, 2)]
theorem lw_r2 : ∀ q ∈ lw_privs_2, lw_okq q := List.forall_mem_cons.mpr ⟨lw_p16, List.forall_mem_cons.mpr ⟨lw_p17, List.forall_mem_cons.mpr ⟨lw_p18, List.forall_mem_cons.mpr ⟨lw_p19, List.forall_mem_cons.mpr ⟨lw_p20, List.forall_mem_cons.mpr ⟨lw_p21, List.forall_mem_cons.mpr ⟨lw_p22, List.forall_mem_cons.mpr ⟨lw_p23, List.forall_mem_cons.mpr ⟨lw_p24, List.forall_mem_cons.mpr ⟨lw_p25, List.forall_mem_cons.mpr ⟨lw_p26, List.forall_mem_cons.mpr ⟨lw_p27, List.forall_mem_cons.mpr ⟨lw_p28, List.forall_mem_cons.mpr ⟨lw_p29, List.forall_mem_cons.mpr ⟨lw_p30, List.forall_mem_cons.mpr ⟨lw_p31, fun _ h => absurd h List.not_mem_nil⟩⟩⟩⟩⟩⟩⟩⟩⟩⟩⟩⟩⟩⟩⟩⟩
theorem lw_p32 : lw_okq (⟨"LayeredImage$Reader", "areOthersBlank", "(LLayeredImage$ClusterFile;)Z"⟩, 2) := ⟨⟨by decide +kernel, by decide +kernel⟩, List.mem_of_getElem? (i := 46) (by decide +kernel), List.mem_of_getElem? (i := 410) (by decide +kernel), List.mem_of_getElem? (i := 411) (by decide +kernel)⟩
theorem lw_p33 : lw_okq (⟨"LayeredImageModel", "fresh", "(II)V"⟩, 7) := ⟨⟨by decide +kernel, by decide +kernel⟩, List.mem_of_getElem? (i := 424) (by decide +kernel), List.mem_of_getElem? (i := 430) (by decide +kernel), List.mem_of_getElem? (i := 431) (by decide +kernel)⟩
theorem lw_p34 : lw_okq (⟨"LayeredImageModel", "settle", "(I)V"⟩, 7) := ⟨⟨by decide +kernel, by decide +kernel⟩, List.mem_of_getElem? (i := 424) (by decide +kernel), List.mem_of_getElem? (i := 434) (by decide +kernel), List.mem_of_getElem? (i := 435) (by decide +kernel)⟩
theorem lw_p35 : lw_okq (⟨"LayeredImageModel", "recount", "(I)V"⟩, 7) := ⟨⟨by decide +kernel, by decide +kernel⟩, List.mem_of_getElem? (i := 424) (by decide +kernel), List.mem_of_getElem? (i := 438) (by decide +kernel), List.mem_of_getElem? (i := 439) (by decide +kernel)⟩
theorem lw_p36 : lw_okq (⟨"LayeredImageModel", "snapshots", "(I)I"⟩, 7) := ⟨⟨by decide +kernel, by decide +kernel⟩, List.mem_of_getElem? (i := 424) (by decide +kernel), List.mem_of_getElem? (i := 445) (by decide +kernel), List.mem_of_getElem? (i := 446) (by decide +kernel)⟩
theorem lw_p37 : lw_okq (⟨"LayeredImageModel", "table", "(II)I"⟩, 7) := ⟨⟨by decide +kernel, by decide +kernel⟩, List.mem_of_getElem? (i := 424) (by decide +kernel), List.mem_of_getElem? (i := 449) (by decide +kernel), List.mem_of_getElem? (i := 450) (by decide +kernel)⟩
theorem lw_p38 : lw_okq (⟨"LayeredImageModel", "countLeaf", "(I)V"⟩, 7) := ⟨⟨by decide +kernel, by decide +kernel⟩, List.mem_of_getElem? (i := 424) (by decide +kernel), List.mem_of_getElem? (i := 453) (by decide +kernel), List.mem_of_getElem? (i := 454) (by decide +kernel)⟩
theorem lw_p39 : lw_okq (⟨"LayeredImageModel", "marked", "(I)I"⟩, 7) := ⟨⟨by decide +kernel, by decide +kernel⟩, List.mem_of_getElem? (i := 424) (by decide +kernel), List.mem_of_getElem? (i := 457) (by decide +kernel), List.mem_of_getElem? (i := 458) (by decide +kernel)⟩
theorem lw_p40 : lw_okq (⟨"LayeredImageModel", "isAddress", "(I)Z"⟩, 7) := ⟨⟨by decide +kernel, by decide +kernel⟩, List.mem_of_getElem? (i := 424) (by decide +kernel), List.mem_of_getElem? (i := 487) (by decide +kernel), List.mem_of_getElem? (i := 488) (by decide +kernel)⟩
theorem lw_p41 : lw_okq (⟨"LayeredImageModel", "sizeOf", "(I)I"⟩, 7) := ⟨⟨by decide +kernel, by decide +kernel⟩, List.mem_of_getElem? (i := 424) (by decide +kernel), List.mem_of_getElem? (i := 491) (by decide +kernel), List.mem_of_getElem? (i := 492) (by decide +kernel)⟩
theorem lw_p42 : lw_okq (⟨"LayeredImageModel", "lacksLeaf", "(II)Z"⟩, 7) := ⟨⟨by decide +kernel, by decide +kernel⟩, List.mem_of_getElem? (i := 424) (by decide +kernel), List.mem_of_getElem? (i := 495) (by decide +kernel), List.mem_of_getElem? (i := 496) (by decide +kernel)⟩
theorem lw_p43 : lw_okq (⟨"LayeredImageModel", "lacksCluster", "(II)Z"⟩, 7) := ⟨⟨by decide +kernel, by decide +kernel⟩, List.mem_of_getElem? (i := 424) (by decide +kernel), List.mem_of_getElem? (i := 499) (by decide +kernel), List.mem_of_getElem? (i := 500) (by decide +kernel)⟩
theorem lw_p44 : lw_okq (⟨"LayeredImageModel", "entry", "(III)I"⟩, 7) := ⟨⟨by decide +kernel, by decide +kernel⟩, List.mem_of_getElem? (i := 424) (by decide +kernel), List.mem_of_getElem? (i := 503) (by decide +kernel), List.mem_of_getElem? (i := 504) (by decide +kernel)⟩
theorem lw_p45 : lw_okq (⟨"LayeredImageModel", "slot", "(III)I"⟩, 7) := ⟨⟨by decide +kernel, by decide +kernel⟩, List.mem_of_getElem? (i := 424) (by decide +kernel), List.mem_of_getElem? (i := 507) (by decide +kernel), List.mem_of_getElem? (i := 508) (by decide +kernel)⟩
theorem lw_p46 : lw_okq (⟨"LayeredImageModel", "room", "(I)I"⟩, 7) := ⟨⟨by decide +kernel, by decide +kernel⟩, List.mem_of_getElem? (i := 424) (by decide +kernel), List.mem_of_getElem? (i := 511) (by decide +kernel), List.mem_of_getElem? (i := 512) (by decide +kernel)⟩
theorem lw_p47 : lw_okq (⟨"LayeredImageModel", "own", "(III)I"⟩, 7) := ⟨⟨by decide +kernel, by decide +kernel⟩, List.mem_of_getElem? (i := 424) (by decide +kernel), List.mem_of_getElem? (i := 515) (by decide +kernel), List.mem_of_getElem? (i := 516) (by decide +kernel)⟩
def lw_privs_3 : List (MethodName × Nat) := [(⟨"LayeredImage$Reader", "areOthersBlank", "(LLayeredImage$ClusterFile;)Z"⟩, 2), (⟨"LayeredImageModel", "fresh", "(II)V"⟩, 7), (⟨"LayeredImageModel", "settle", "(I)V"⟩, 7), (⟨"LayeredImageModel", "recount", "(I)V"⟩, 7), (⟨"LayeredImageModel", "snapshots", "(I)I"⟩, 7), (⟨"LayeredImageModel", "table", "(II)I"⟩, 7), (⟨"LayeredImageModel", "countLeaf", "(I)V"⟩, 7), (⟨"LayeredImageModel", "marked", "(I)I"⟩, 7), (⟨"LayeredImageModel", "isAddress", "(I)Z"⟩, 7), (⟨"LayeredImageModel", "sizeOf", "(I)I"⟩, 7), (⟨"LayeredImageModel", "lacksLeaf", "(II)Z"⟩, 7), (⟨"LayeredImageModel", "lacksCluster", "(II)Z"⟩, 7), (⟨"LayeredImageModel", "entry", "(III)I"⟩, 7), (⟨"LayeredImageModel", "slot", "(III)I"⟩, 7), (⟨"LayeredImageModel", "room", "(I)I"⟩, 7), (⟨"LayeredImageModel", "own", "(III)I"⟩, 7)]
theorem lw_r3 : ∀ q ∈ lw_privs_3, lw_okq q := List.forall_mem_cons.mpr ⟨lw_p32, List.forall_mem_cons.mpr ⟨lw_p33, List.forall_mem_cons.mpr ⟨lw_p34, List.forall_mem_cons.mpr ⟨lw_p35, List.forall_mem_cons.mpr ⟨lw_p36, List.forall_mem_cons.mpr ⟨lw_p37, List.forall_mem_cons.mpr ⟨lw_p38, List.forall_mem_cons.mpr ⟨lw_p39, List.forall_mem_cons.mpr ⟨lw_p40, List.forall_mem_cons.mpr ⟨lw_p41, List.forall_mem_cons.mpr ⟨lw_p42, List.forall_mem_cons.mpr ⟨lw_p43, List.forall_mem_cons.mpr ⟨lw_p44, List.forall_mem_cons.mpr ⟨lw_p45, List.forall_mem_cons.mpr ⟨lw_p46, List.forall_mem_cons.mpr ⟨lw_p47, fun _ h => absurd h List.not_mem_nil⟩⟩⟩⟩⟩⟩⟩⟩⟩⟩⟩⟩⟩⟩⟩⟩
theorem lw_p48 : lw_okq (⟨"LayeredImageModel", "ownLeaf", "(II)I"⟩, 7) := ⟨⟨by decide +kernel, by decide +kernel⟩, List.mem_of_getElem? (i := 424) (by decide +kernel), List.mem_of_getElem? (i := 519) (by decide +kernel), List.mem_of_getElem? (i := 520) (by decide +kernel)⟩
theorem lw_p49 : lw_okq (⟨"LayeredImageModel", "take", "(I)I"⟩, 7) := ⟨⟨by decide +kernel, by decide +kernel⟩, List.mem_of_getElem? (i := 424) (by decide +kernel), List.mem_of_getElem? (i := 523) (by decide +kernel), List.mem_of_getElem? (i := 524) (by decide +kernel)⟩
theorem lw_p50 : lw_okq (⟨"LayeredImageModel", "leastFree", "()I"⟩, 7) := ⟨⟨by decide +kernel, by decide +kernel⟩, List.mem_of_getElem? (i := 424) (by decide +kernel), List.mem_of_getElem? (i := 527) (by decide +kernel), List.mem_of_getElem? (i := 528) (by decide +kernel)⟩
theorem lw_p51 : lw_okq (⟨"LayeredImageModel", "shows", "(IIIII)I"⟩, 7) := ⟨⟨by decide +kernel, by decide +kernel⟩, List.mem_of_getElem? (i := 424) (by decide +kernel), List.mem_of_getElem? (i := 531) (by decide +kernel), List.mem_of_getElem? (i := 532) (by decide +kernel)⟩
theorem lw_p52 : lw_okq (⟨"LayeredImageModel", "drop", "(III)I"⟩, 7) := ⟨⟨by decide +kernel, by decide +kernel⟩, List.mem_of_getElem? (i := 424) (by decide +kernel), List.mem_of_getElem? (i := 543) (by decide +kernel), List.mem_of_getElem? (i := 544) (by decide +kernel)⟩
theorem lw_p53 : lw_okq (⟨"LayeredImageModel", "named", "(I)I"⟩, 7) := ⟨⟨by decide +kernel, by decide +kernel⟩, List.mem_of_getElem? (i := 424) (by decide +kernel), List.mem_of_getElem? (i := 551) (by decide +kernel), List.mem_of_getElem? (i := 552) (by decide +kernel)⟩
theorem lw_p54 : lw_okq (⟨"LayeredImageModel", "copyFile", "(II)V"⟩, 7) := ⟨⟨by decide +kernel, by decide +kernel⟩, List.mem_of_getElem? (i := 424) (by decide +kernel), List.mem_of_getElem? (i := 576) (by decide +kernel), List.mem_of_getElem? (i := 577) (by decide +kernel)⟩
theorem lw_p55 : lw_okq (⟨"LayeredImageModel", "headerRight", "()Z"⟩, 7) := ⟨⟨by decide +kernel, by decide +kernel⟩, List.mem_of_getElem? (i := 424) (by decide +kernel), List.mem_of_getElem? (i := 608) (by decide +kernel), List.mem_of_getElem? (i := 609) (by decide +kernel)⟩
theorem lw_p56 : lw_okq (⟨"LayeredImageModel", "usesRight", "()Z"⟩, 7) := ⟨⟨by decide +kernel, by decide +kernel⟩, List.mem_of_getElem? (i := 424) (by decide +kernel), List.mem_of_getElem? (i := 612) (by decide +kernel), List.mem_of_getElem? (i := 613) (by decide +kernel)⟩
theorem lw_p57 : lw_okq (⟨"LayeredImageModel", "lead", "(II)Z"⟩, 7) := ⟨⟨by decide +kernel, by decide +kernel⟩, List.mem_of_getElem? (i := 424) (by decide +kernel), List.mem_of_getElem? (i := 616) (by decide +kernel), List.mem_of_getElem? (i := 617) (by decide +kernel)⟩
theorem lw_p58 : lw_okq (⟨"LayeredImageModel", "walkTable", "(I)V"⟩, 7) := ⟨⟨by decide +kernel, by decide +kernel⟩, List.mem_of_getElem? (i := 424) (by decide +kernel), List.mem_of_getElem? (i := 620) (by decide +kernel), List.mem_of_getElem? (i := 621) (by decide +kernel)⟩
theorem lw_p59 : lw_okq (⟨"LayeredImageModel", "follow", "(II)Z"⟩, 7) := ⟨⟨by decide +kernel, by decide +kernel⟩, List.mem_of_getElem? (i := 424) (by decide +kernel), List.mem_of_getElem? (i := 624) (by decide +kernel), List.mem_of_getElem? (i := 625) (by decide +kernel)⟩
theorem lw_p60 : lw_okq (⟨"LayeredImageModel", "listRight", "()Z"⟩, 7) := ⟨⟨by decide +kernel, by decide +kernel⟩, List.mem_of_getElem? (i := 424) (by decide +kernel), List.mem_of_getElem? (i := 628) (by decide +kernel), List.mem_of_getElem? (i := 629) (by decide +kernel)⟩
theorem lw_p61 : lw_okq (⟨"LayeredImageModel", "countsRight", "()Z"⟩, 7) := ⟨⟨by decide +kernel, by decide +kernel⟩, List.mem_of_getElem? (i := 424) (by decide +kernel), List.mem_of_getElem? (i := 632) (by decide +kernel), List.mem_of_getElem? (i := 633) (by decide +kernel)⟩
theorem lw_p62 : lw_okq (⟨"LayeredImageModel", "marksRight", "()Z"⟩, 7) := ⟨⟨by decide +kernel, by decide +kernel⟩, List.mem_of_getElem? (i := 424) (by decide +kernel), List.mem_of_getElem? (i := 636) (by decide +kernel), List.mem_of_getElem? (i := 637) (by decide +kernel)⟩
theorem lw_p63 : lw_okq (⟨"LayeredImageModel", "restRight", "()Z"⟩, 7) := ⟨⟨by decide +kernel, by decide +kernel⟩, List.mem_of_getElem? (i := 424) (by decide +kernel), List.mem_of_getElem? (i := 640) (by decide +kernel), List.mem_of_getElem? (i := 641) (by decide +kernel)⟩
def lw_privs_4 : List (MethodName × Nat) := [(⟨"LayeredImageModel", "ownLeaf", "(II)I"⟩, 7), (⟨"LayeredImageModel", "take", "(I)I"⟩, 7), (⟨"LayeredImageModel", "leastFree", "()I"⟩, 7), (⟨"LayeredImageModel", "shows", "(IIIII)I"⟩, 7), (⟨"LayeredImageModel", "drop", "(III)I"⟩, 7), (⟨"LayeredImageModel", "named", "(I)I"⟩, 7), (⟨"LayeredImageModel", "copyFile", "(II)V"⟩, 7), (⟨"LayeredImageModel", "headerRight", "()Z"⟩, 7), (⟨"LayeredImageModel", "usesRight", "()Z"⟩, 7), (⟨"LayeredImageModel", "lead", "(II)Z"⟩, 7), (⟨"LayeredImageModel", "walkTable", "(I)V"⟩, 7), (⟨"LayeredImageModel", "follow", "(II)Z"⟩, 7), (⟨"LayeredImageModel", "listRight", "()Z"⟩, 7), (⟨"LayeredImageModel", "countsRight", "()Z"⟩, 7), (⟨"LayeredImageModel", "marksRight", "()Z"⟩, 7), (⟨"LayeredImageModel", "restRight", "()Z"⟩, 7)]
theorem lw_r4 : ∀ q ∈ lw_privs_4, lw_okq q := List.forall_mem_cons.mpr ⟨lw_p48, List.forall_mem_cons.mpr ⟨lw_p49, List.forall_mem_cons.mpr ⟨lw_p50, List.forall_mem_cons.mpr ⟨lw_p51, List.forall_mem_cons.mpr ⟨lw_p52, List.forall_mem_cons.mpr ⟨lw_p53, List.forall_mem_cons.mpr ⟨lw_p54, List.forall_mem_cons.mpr ⟨lw_p55, List.forall_mem_cons.mpr ⟨lw_p56, List.forall_mem_cons.mpr ⟨lw_p57, List.forall_mem_cons.mpr ⟨lw_p58, List.forall_mem_cons.mpr ⟨lw_p59, List.forall_mem_cons.mpr ⟨lw_p60, List.forall_mem_cons.mpr ⟨lw_p61, List.forall_mem_cons.mpr ⟨lw_p62, List.forall_mem_cons.mpr ⟨lw_p63, fun _ h => absurd h List.not_mem_nil⟩⟩⟩⟩⟩⟩⟩⟩⟩⟩⟩⟩⟩⟩⟩⟩
def lw_privs : List (MethodName × Nat) := lw_privs_1 ++ (lw_privs_2 ++ (lw_privs_3 ++ (lw_privs_4)))
def lw_tbl : List Cond := k2_sels lw_privs ++ tables_1
theorem lw_privs_ok : ∀ q ∈ lw_privs, lw_okq q := by
  show ∀ q ∈ lw_privs_1 ++ (lw_privs_2 ++ (lw_privs_3 ++ (lw_privs_4))), lw_okq q
  exact List.forall_mem_append.mpr ⟨lw_r1, List.forall_mem_append.mpr ⟨lw_r2, List.forall_mem_append.mpr ⟨lw_r3, lw_r4⟩⟩⟩
-- ===== names: classes, fields, codes, method names (printed of the program) =====
def RX0 : String := "LayeredImage$ClusterFile"
def TX0 : u_T := fun k => match k with
  | _ => ("LayeredImage$ClusterFile", "words", "[I", true)
def tyX0 : Nat → FieldType := fun k => match k with
  | _ => .array .int
abbrev wsX00 : List Cond := u_ws RX0 TX0 1
theorem nmX0 : ∀ a, a < 1 → ∀ b, b < 1 → a ≠ b → (TX0 a).2.1 ≠ (TX0 b).2.1 := by decide +kernel
theorem tyX0_ok : ∀ k, k < 1 → parseFieldDescriptor (TX0 k).2.2.1 = some (tyX0 k) := by decide +kernel
abbrev cX0_init : ByteArray := prog_2_method_1_code
def yX0_init : MethodName := ⟨RX0, "<init>", "()V"⟩
abbrev cX0_at : ByteArray := prog_2_method_2_code
def yX0_at : MethodName := ⟨RX0, "at", "(II)I"⟩
abbrev cX0_put : ByteArray := prog_2_method_3_code
def yX0_put : MethodName := ⟨RX0, "put", "(III)V"⟩
abbrev cX0_becomeLike : ByteArray := prog_2_method_4_code
def yX0_becomeLike : MethodName := ⟨RX0, "becomeLike", "(LLayeredImage$ClusterFile;)V"⟩
abbrev cX0_copyCluster : ByteArray := prog_2_method_5_code
def yX0_copyCluster : MethodName := ⟨RX0, "copyCluster", "(LLayeredImage$ClusterFile;II)V"⟩
abbrev cX0_isBlank : ByteArray := prog_2_method_6_code
def yX0_isBlank : MethodName := ⟨RX0, "isBlank", "(II)Z"⟩
abbrev cX0_format : ByteArray := prog_2_method_7_code
def yX0_format : MethodName := ⟨RX0, "format", "(I)V"⟩
abbrev cX0_count : ByteArray := prog_2_method_8_code
def yX0_count : MethodName := ⟨RX0, "count", "(I)I"⟩
abbrev cX0_addToCount : ByteArray := prog_2_method_9_code
def yX0_addToCount : MethodName := ⟨RX0, "addToCount", "(II)V"⟩
abbrev cX0_clustersInUse : ByteArray := prog_2_method_10_code
def yX0_clustersInUse : MethodName := ⟨RX0, "clustersInUse", "()I"⟩
abbrev cX0_room : ByteArray := prog_2_method_11_code
def yX0_room : MethodName := ⟨RX0, "room", "()I"⟩
abbrev cX0_take : ByteArray := prog_2_method_12_code
def yX0_take : MethodName := ⟨RX0, "take", "()I"⟩
abbrev cX0_leastFree : ByteArray := prog_2_method_13_code
def yX0_leastFree : MethodName := ⟨RX0, "leastFree", "()I"⟩
def RX1 : String := "LayeredImage$Image"
def TX1 : u_T := fun k => match k with
  | 0 => ("LayeredImage$Image", "file", "LLayeredImage$ClusterFile;", true)
  | _ => ("LayeredImage$Image", "below", "LLayeredImage$Image;", true)
def tyX1 : Nat → FieldType := fun k => match k with
  | 0 => .object "LayeredImage$ClusterFile"
  | _ => .object "LayeredImage$Image"
abbrev wsX10 : List Cond := u_ws RX1 TX1 2
theorem nmX1 : ∀ a, a < 2 → ∀ b, b < 2 → a ≠ b → (TX1 a).2.1 ≠ (TX1 b).2.1 := by decide +kernel
theorem tyX1_ok : ∀ k, k < 2 → parseFieldDescriptor (TX1 k).2.2.1 = some (tyX1 k) := by decide +kernel
abbrev cX1_init : ByteArray := prog_3_method_1_code
def yX1_init : MethodName := ⟨RX1, "<init>", "(LLayeredImage$Image;)V"⟩
abbrev cX1_blocks : ByteArray := prog_3_method_2_code
def yX1_blocks : MethodName := ⟨RX1, "blocks", "()I"⟩
abbrev cX1_hasBlock : ByteArray := prog_3_method_3_code
def yX1_hasBlock : MethodName := ⟨RX1, "hasBlock", "(I)Z"⟩
abbrev cX1_hasAddress : ByteArray := prog_3_method_4_code
def yX1_hasAddress : MethodName := ⟨RX1, "hasAddress", "(I)Z"⟩
abbrev cX1_activeTable : ByteArray := prog_3_method_5_code
def yX1_activeTable : MethodName := ⟨RX1, "activeTable", "()I"⟩
abbrev cX1_leafLead : ByteArray := prog_3_method_6_code
def yX1_leafLead : MethodName := ⟨RX1, "leafLead", "(I)I"⟩
abbrev cX1_blockWord : ByteArray := prog_3_method_7_code
def yX1_blockWord : MethodName := ⟨RX1, "blockWord", "(II)I"⟩
abbrev cX1_activeWord : ByteArray := prog_3_method_8_code
def yX1_activeWord : MethodName := ⟨RX1, "activeWord", "(I)I"⟩
abbrev cX1_putActiveWord : ByteArray := prog_3_method_9_code
def yX1_putActiveWord : MethodName := ⟨RX1, "putActiveWord", "(II)V"⟩
abbrev cX1_shown : ByteArray := prog_3_method_10_code
def yX1_shown : MethodName := ⟨RX1, "shown", "(II)I"⟩
abbrev cX1_putWord : ByteArray := prog_3_method_11_code
def yX1_putWord : MethodName := ⟨RX1, "putWord", "(II)I"⟩
abbrev cX1_dropBlock : ByteArray := prog_3_method_12_code
def yX1_dropBlock : MethodName := ⟨RX1, "dropBlock", "(I)I"⟩
abbrev cX1_dropChanges : ByteArray := prog_3_method_13_code
def yX1_dropChanges : MethodName := ⟨RX1, "dropChanges", "(I)Z"⟩
abbrev cX1_makeZero : ByteArray := prog_3_method_14_code
def yX1_makeZero : MethodName := ⟨RX1, "makeZero", "(I)V"⟩
abbrev cX1_release : ByteArray := prog_3_method_15_code
def yX1_release : MethodName := ⟨RX1, "release", "(I)V"⟩
abbrev cX1_isOwn : ByteArray := prog_3_method_16_code
def yX1_isOwn : MethodName := ⟨RX1, "isOwn", "(I)Z"⟩
abbrev cX1_leavesFor : ByteArray := prog_3_method_17_code
def yX1_leavesFor : MethodName := ⟨RX1, "leavesFor", "(I)I"⟩
abbrev cX1_clustersFor : ByteArray := prog_3_method_18_code
def yX1_clustersFor : MethodName := ⟨RX1, "clustersFor", "(I)I"⟩
abbrev cX1_giveLeaf : ByteArray := prog_3_method_19_code
def yX1_giveLeaf : MethodName := ⟨RX1, "giveLeaf", "(I)V"⟩
abbrev cX1_giveCluster : ByteArray := prog_3_method_20_code
def yX1_giveCluster : MethodName := ⟨RX1, "giveCluster", "(I)I"⟩
abbrev cX1_tellFlags : ByteArray := prog_3_method_21_code
def yX1_tellFlags : MethodName := ⟨RX1, "tellFlags", "()V"⟩
abbrev cX1_tellFlagsBelow : ByteArray := prog_3_method_22_code
def yX1_tellFlagsBelow : MethodName := ⟨RX1, "tellFlagsBelow", "(I)V"⟩
abbrev cX1_tellFlagsIn : ByteArray := prog_3_method_23_code
def yX1_tellFlagsIn : MethodName := ⟨RX1, "tellFlagsIn", "(I)V"⟩
abbrev cX1_snapshotCount : ByteArray := prog_3_method_24_code
def yX1_snapshotCount : MethodName := ⟨RX1, "snapshotCount", "()I"⟩
abbrev cX1_snapshotList : ByteArray := prog_3_method_25_code
def yX1_snapshotList : MethodName := ⟨RX1, "snapshotList", "()I"⟩
abbrev cX1_snapshotTable : ByteArray := prog_3_method_26_code
def yX1_snapshotTable : MethodName := ⟨RX1, "snapshotTable", "(I)I"⟩
abbrev cX1_snapshotNamed : ByteArray := prog_3_method_27_code
def yX1_snapshotNamed : MethodName := ⟨RX1, "snapshotNamed", "(I)I"⟩
abbrev cX1_addSnapshot : ByteArray := prog_3_method_28_code
def yX1_addSnapshot : MethodName := ⟨RX1, "addSnapshot", "(I)I"⟩
abbrev cX1_returnTo : ByteArray := prog_3_method_29_code
def yX1_returnTo : MethodName := ⟨RX1, "returnTo", "(I)V"⟩
abbrev cX1_removeSnapshot : ByteArray := prog_3_method_30_code
def yX1_removeSnapshot : MethodName := ⟨RX1, "removeSnapshot", "(I)V"⟩
abbrev cX1_closeListGap : ByteArray := prog_3_method_31_code
def yX1_closeListGap : MethodName := ⟨RX1, "closeListGap", "(I)V"⟩
abbrev cX1_countTable : ByteArray := prog_3_method_32_code
def yX1_countTable : MethodName := ⟨RX1, "countTable", "(II)V"⟩
abbrev cX1_countLeaf : ByteArray := prog_3_method_33_code
def yX1_countLeaf : MethodName := ⟨RX1, "countLeaf", "(II)V"⟩
abbrev cX1_takeIn : ByteArray := prog_3_method_34_code
def yX1_takeIn : MethodName := ⟨RX1, "takeIn", "(LLayeredImage$Image;)I"⟩
abbrev cX1_takingsFor : ByteArray := prog_3_method_35_code
def yX1_takingsFor : MethodName := ⟨RX1, "takingsFor", "(LLayeredImage$Image;)I"⟩
def RX2 : String := "LayeredImage$Reader"
def TX2 : u_T := fun k => match k with
  | 0 => ("LayeredImage$Reader", "uses", "[I", true)
  | _ => ("LayeredImage$Reader", "counts", "[I", true)
def tyX2 : Nat → FieldType := fun k => match k with
  | 0 => .array .int
  | _ => .array .int
abbrev wsX20 : List Cond := u_ws RX2 TX2 2
theorem nmX2 : ∀ a, a < 2 → ∀ b, b < 2 → a ≠ b → (TX2 a).2.1 ≠ (TX2 b).2.1 := by decide +kernel
theorem tyX2_ok : ∀ k, k < 2 → parseFieldDescriptor (TX2 k).2.2.1 = some (tyX2 k) := by decide +kernel
abbrev cX2_init : ByteArray := prog_4_method_1_code
def yX2_init : MethodName := ⟨RX2, "<init>", "()V"⟩
abbrev cX2_firstWrong : ByteArray := prog_4_method_2_code
def yX2_firstWrong : MethodName := ⟨RX2, "firstWrong", "(LLayeredImage$ClusterFile;)I"⟩
abbrev cX2_isHeaderRight : ByteArray := prog_4_method_3_code
def yX2_isHeaderRight : MethodName := ⟨RX2, "isHeaderRight", "(LLayeredImage$ClusterFile;)Z"⟩
abbrev cX2_areLeadsRight : ByteArray := prog_4_method_4_code
def yX2_areLeadsRight : MethodName := ⟨RX2, "areLeadsRight", "(LLayeredImage$ClusterFile;)Z"⟩
abbrev cX2_claim : ByteArray := prog_4_method_5_code
def yX2_claim : MethodName := ⟨RX2, "claim", "(II)Z"⟩
abbrev cX2_areHeaderLeadsRight : ByteArray := prog_4_method_6_code
def yX2_areHeaderLeadsRight : MethodName := ⟨RX2, "areHeaderLeadsRight", "(LLayeredImage$ClusterFile;)Z"⟩
abbrev cX2_areCountLeadsRight : ByteArray := prog_4_method_7_code
def yX2_areCountLeadsRight : MethodName := ⟨RX2, "areCountLeadsRight", "(LLayeredImage$ClusterFile;)Z"⟩
abbrev cX2_areListLeadsRight : ByteArray := prog_4_method_8_code
def yX2_areListLeadsRight : MethodName := ⟨RX2, "areListLeadsRight", "(LLayeredImage$ClusterFile;)Z"⟩
abbrev cX2_areTableLeadsRight : ByteArray := prog_4_method_9_code
def yX2_areTableLeadsRight : MethodName := ⟨RX2, "areTableLeadsRight", "(LLayeredImage$ClusterFile;I)Z"⟩
abbrev cX2_areLeafLeadsRight : ByteArray := prog_4_method_10_code
def yX2_areLeafLeadsRight : MethodName := ⟨RX2, "areLeafLeadsRight", "(LLayeredImage$ClusterFile;II)Z"⟩
abbrev cX2_clusterLedTo : ByteArray := prog_4_method_11_code
def yX2_clusterLedTo : MethodName := ⟨RX2, "clusterLedTo", "(I)I"⟩
abbrev cX2_isListRight : ByteArray := prog_4_method_12_code
def yX2_isListRight : MethodName := ⟨RX2, "isListRight", "(LLayeredImage$ClusterFile;)Z"⟩
abbrev cX2_areCountsRight : ByteArray := prog_4_method_13_code
def yX2_areCountsRight : MethodName := ⟨RX2, "areCountsRight", "(LLayeredImage$ClusterFile;)Z"⟩
abbrev cX2_areFlagsRight : ByteArray := prog_4_method_14_code
def yX2_areFlagsRight : MethodName := ⟨RX2, "areFlagsRight", "(LLayeredImage$ClusterFile;)Z"⟩
abbrev cX2_hasFlags : ByteArray := prog_4_method_15_code
def yX2_hasFlags : MethodName := ⟨RX2, "hasFlags", "(I)Z"⟩
abbrev cX2_areFlagsRightIn : ByteArray := prog_4_method_16_code
def yX2_areFlagsRightIn : MethodName := ⟨RX2, "areFlagsRightIn", "(LLayeredImage$ClusterFile;I)Z"⟩
abbrev cX2_areOthersBlank : ByteArray := prog_4_method_17_code
def yX2_areOthersBlank : MethodName := ⟨RX2, "areOthersBlank", "(LLayeredImage$ClusterFile;)Z"⟩
def RX3 : String := "LayeredImage"
def TX3 : u_T := fun k => match k with
  | 0 => ("LayeredImage", "chain", "[LLayeredImage$Image;", true)
  | 1 => ("LayeredImage", "height", "I", false)
  | 2 => ("LayeredImage", "staged", "LLayeredImage$ClusterFile;", true)
  | _ => ("LayeredImage", "reader", "LLayeredImage$Reader;", true)
def tyX3 : Nat → FieldType := fun k => match k with
  | 0 => .array (.object "LayeredImage$Image")
  | 1 => .int
  | 2 => .object "LayeredImage$ClusterFile"
  | _ => .object "LayeredImage$Reader"
abbrev wsX30 : List Cond := u_ws RX3 TX3 4
theorem nmX3 : ∀ a, a < 4 → ∀ b, b < 4 → a ≠ b → (TX3 a).2.1 ≠ (TX3 b).2.1 := by decide +kernel
theorem tyX3_ok : ∀ k, k < 4 → parseFieldDescriptor (TX3 k).2.2.1 = some (tyX3 k) := by decide +kernel
abbrev cX3_init : ByteArray := prog_1_method_1_code
def yX3_init : MethodName := ⟨RX3, "<init>", "(I)V"⟩
abbrev cX3_write : ByteArray := prog_1_method_2_code
def yX3_write : MethodName := ⟨RX3, "write", "(II)I"⟩
abbrev cX3_read : ByteArray := prog_1_method_3_code
def yX3_read : MethodName := ⟨RX3, "read", "(I)I"⟩
abbrev cX3_discard : ByteArray := prog_1_method_4_code
def yX3_discard : MethodName := ⟨RX3, "discard", "(I)I"⟩
abbrev cX3_snapshot : ByteArray := prog_1_method_5_code
def yX3_snapshot : MethodName := ⟨RX3, "snapshot", "(I)I"⟩
abbrev cX3_revert : ByteArray := prog_1_method_6_code
def yX3_revert : MethodName := ⟨RX3, "revert", "(I)I"⟩
abbrev cX3_delete : ByteArray := prog_1_method_7_code
def yX3_delete : MethodName := ⟨RX3, "delete", "(I)I"⟩
abbrev cX3_readOld : ByteArray := prog_1_method_8_code
def yX3_readOld : MethodName := ⟨RX3, "readOld", "(II)J"⟩
abbrev cX3_overlay : ByteArray := prog_1_method_9_code
def yX3_overlay : MethodName := ⟨RX3, "overlay", "()I"⟩
abbrev cX3_commit : ByteArray := prog_1_method_10_code
def yX3_commit : MethodName := ⟨RX3, "commit", "()I"⟩
abbrev cX3_grow : ByteArray := prog_1_method_11_code
def yX3_grow : MethodName := ⟨RX3, "grow", "(I)I"⟩
abbrev cX3_size : ByteArray := prog_1_method_12_code
def yX3_size : MethodName := ⟨RX3, "size", "()I"⟩
abbrev cX3_images : ByteArray := prog_1_method_13_code
def yX3_images : MethodName := ⟨RX3, "images", "()I"⟩
abbrev cX3_used : ByteArray := prog_1_method_14_code
def yX3_used : MethodName := ⟨RX3, "used", "()I"⟩
abbrev cX3_word : ByteArray := prog_1_method_15_code
def yX3_word : MethodName := ⟨RX3, "word", "(II)I"⟩
abbrev cX3_stage : ByteArray := prog_1_method_16_code
def yX3_stage : MethodName := ⟨RX3, "stage", "(IIIII)Z"⟩
abbrev cX3_load : ByteArray := prog_1_method_17_code
def yX3_load : MethodName := ⟨RX3, "load", "()I"⟩
abbrev cX3_top : ByteArray := prog_1_method_18_code
def yX3_top : MethodName := ⟨RX3, "top", "()LLayeredImage$Image;"⟩
abbrev cX3_isLead : ByteArray := prog_1_method_19_code
def yX3_isLead : MethodName := ⟨RX3, "isLead", "(I)Z"⟩
abbrev cX3_clusterOf : ByteArray := prog_1_method_20_code
def yX3_clusterOf : MethodName := ⟨RX3, "clusterOf", "(I)I"⟩
abbrev cX3_leadTo : ByteArray := prog_1_method_21_code
def yX3_leadTo : MethodName := ⟨RX3, "leadTo", "(IZ)I"⟩
def RX4 : String := "LayeredImageModel"
def TX4 : u_T := fun k => match k with
  | 0 => ("LayeredImageModel", "file", "[I", true)
  | 1 => ("LayeredImageModel", "stage", "[I", true)
  | 2 => ("LayeredImageModel", "images", "I", false)
  | 3 => ("LayeredImageModel", "count", "[I", true)
  | 4 => ("LayeredImageModel", "use", "[I", true)
  | 5 => ("LayeredImageModel", "fits", "Z", false)
  | _ => ("LayeredImageModel", "shown", "[I", true)
def tyX4 : Nat → FieldType := fun k => match k with
  | 0 => .array .int
  | 1 => .array .int
  | 2 => .int
  | 3 => .array .int
  | 4 => .array .int
  | 5 => .boolean
  | _ => .array .int
abbrev wsX40 : List Cond := u_ws RX4 TX4 7
theorem nmX4 : ∀ a, a < 7 → ∀ b, b < 7 → a ≠ b → (TX4 a).2.1 ≠ (TX4 b).2.1 := by decide +kernel
theorem tyX4_ok : ∀ k, k < 7 → parseFieldDescriptor (TX4 k).2.2.1 = some (tyX4 k) := by decide +kernel
abbrev cX4_init : ByteArray := prog_6_method_1_code
def yX4_init : MethodName := ⟨RX4, "<init>", "(I)V"⟩
abbrev cX4_fresh : ByteArray := prog_6_method_2_code
def yX4_fresh : MethodName := ⟨RX4, "fresh", "(II)V"⟩
abbrev cX4_at : ByteArray := prog_6_method_3_code
def yX4_at : MethodName := ⟨RX4, "at", "(II)I"⟩
abbrev cX4_sizeOf : ByteArray := prog_6_method_4_code
def yX4_sizeOf : MethodName := ⟨RX4, "sizeOf", "(I)I"⟩
abbrev cX4_snapshots : ByteArray := prog_6_method_5_code
def yX4_snapshots : MethodName := ⟨RX4, "snapshots", "(I)I"⟩
abbrev cX4_table : ByteArray := prog_6_method_6_code
def yX4_table : MethodName := ⟨RX4, "table", "(II)I"⟩
abbrev cX4_recount : ByteArray := prog_6_method_7_code
def yX4_recount : MethodName := ⟨RX4, "recount", "(I)V"⟩
abbrev cX4_countLeaf : ByteArray := prog_6_method_8_code
def yX4_countLeaf : MethodName := ⟨RX4, "countLeaf", "(I)V"⟩
abbrev cX4_marked : ByteArray := prog_6_method_9_code
def yX4_marked : MethodName := ⟨RX4, "marked", "(I)I"⟩
abbrev cX4_settle : ByteArray := prog_6_method_10_code
def yX4_settle : MethodName := ⟨RX4, "settle", "(I)V"⟩
abbrev cX4_leastFree : ByteArray := prog_6_method_11_code
def yX4_leastFree : MethodName := ⟨RX4, "leastFree", "()I"⟩
abbrev cX4_take : ByteArray := prog_6_method_12_code
def yX4_take : MethodName := ⟨RX4, "take", "(I)I"⟩
abbrev cX4_room : ByteArray := prog_6_method_13_code
def yX4_room : MethodName := ⟨RX4, "room", "(I)I"⟩
abbrev cX4_slot : ByteArray := prog_6_method_14_code
def yX4_slot : MethodName := ⟨RX4, "slot", "(III)I"⟩
abbrev cX4_entry : ByteArray := prog_6_method_15_code
def yX4_entry : MethodName := ⟨RX4, "entry", "(III)I"⟩
abbrev cX4_shows : ByteArray := prog_6_method_16_code
def yX4_shows : MethodName := ⟨RX4, "shows", "(IIIII)I"⟩
abbrev cX4_lacksLeaf : ByteArray := prog_6_method_17_code
def yX4_lacksLeaf : MethodName := ⟨RX4, "lacksLeaf", "(II)Z"⟩
abbrev cX4_lacksCluster : ByteArray := prog_6_method_18_code
def yX4_lacksCluster : MethodName := ⟨RX4, "lacksCluster", "(II)Z"⟩
abbrev cX4_ownLeaf : ByteArray := prog_6_method_19_code
def yX4_ownLeaf : MethodName := ⟨RX4, "ownLeaf", "(II)I"⟩
abbrev cX4_own : ByteArray := prog_6_method_20_code
def yX4_own : MethodName := ⟨RX4, "own", "(III)I"⟩
abbrev cX4_isAddress : ByteArray := prog_6_method_21_code
def yX4_isAddress : MethodName := ⟨RX4, "isAddress", "(I)Z"⟩
abbrev cX4_write : ByteArray := prog_6_method_22_code
def yX4_write : MethodName := ⟨RX4, "write", "(II)I"⟩
abbrev cX4_read : ByteArray := prog_6_method_23_code
def yX4_read : MethodName := ⟨RX4, "read", "(I)I"⟩
abbrev cX4_drop : ByteArray := prog_6_method_24_code
def yX4_drop : MethodName := ⟨RX4, "drop", "(III)I"⟩
abbrev cX4_discard : ByteArray := prog_6_method_25_code
def yX4_discard : MethodName := ⟨RX4, "discard", "(I)I"⟩
abbrev cX4_named : ByteArray := prog_6_method_26_code
def yX4_named : MethodName := ⟨RX4, "named", "(I)I"⟩
abbrev cX4_snapshot : ByteArray := prog_6_method_27_code
def yX4_snapshot : MethodName := ⟨RX4, "snapshot", "(I)I"⟩
abbrev cX4_revert : ByteArray := prog_6_method_28_code
def yX4_revert : MethodName := ⟨RX4, "revert", "(I)I"⟩
abbrev cX4_delete : ByteArray := prog_6_method_29_code
def yX4_delete : MethodName := ⟨RX4, "delete", "(I)I"⟩
abbrev cX4_readOld : ByteArray := prog_6_method_30_code
def yX4_readOld : MethodName := ⟨RX4, "readOld", "(II)J"⟩
abbrev cX4_overlay : ByteArray := prog_6_method_31_code
def yX4_overlay : MethodName := ⟨RX4, "overlay", "()I"⟩
abbrev cX4_copyFile : ByteArray := prog_6_method_32_code
def yX4_copyFile : MethodName := ⟨RX4, "copyFile", "(II)V"⟩
abbrev cX4_commit : ByteArray := prog_6_method_33_code
def yX4_commit : MethodName := ⟨RX4, "commit", "()I"⟩
abbrev cX4_grow : ByteArray := prog_6_method_34_code
def yX4_grow : MethodName := ⟨RX4, "grow", "(I)I"⟩
abbrev cX4_size : ByteArray := prog_6_method_35_code
def yX4_size : MethodName := ⟨RX4, "size", "()I"⟩
abbrev cX4_images : ByteArray := prog_6_method_36_code
def yX4_images : MethodName := ⟨RX4, "images", "()I"⟩
abbrev cX4_used : ByteArray := prog_6_method_37_code
def yX4_used : MethodName := ⟨RX4, "used", "()I"⟩
abbrev cX4_word : ByteArray := prog_6_method_38_code
def yX4_word : MethodName := ⟨RX4, "word", "(II)I"⟩
abbrev cX4_stage : ByteArray := prog_6_method_39_code
def yX4_stage : MethodName := ⟨RX4, "stage", "(IIIII)Z"⟩
abbrev cX4_lead : ByteArray := prog_6_method_40_code
def yX4_lead : MethodName := ⟨RX4, "lead", "(II)Z"⟩
abbrev cX4_headerRight : ByteArray := prog_6_method_41_code
def yX4_headerRight : MethodName := ⟨RX4, "headerRight", "()Z"⟩
abbrev cX4_follow : ByteArray := prog_6_method_42_code
def yX4_follow : MethodName := ⟨RX4, "follow", "(II)Z"⟩
abbrev cX4_walkTable : ByteArray := prog_6_method_43_code
def yX4_walkTable : MethodName := ⟨RX4, "walkTable", "(I)V"⟩
abbrev cX4_usesRight : ByteArray := prog_6_method_44_code
def yX4_usesRight : MethodName := ⟨RX4, "usesRight", "()Z"⟩
abbrev cX4_listRight : ByteArray := prog_6_method_45_code
def yX4_listRight : MethodName := ⟨RX4, "listRight", "()Z"⟩
abbrev cX4_countsRight : ByteArray := prog_6_method_46_code
def yX4_countsRight : MethodName := ⟨RX4, "countsRight", "()Z"⟩
abbrev cX4_marksRight : ByteArray := prog_6_method_47_code
def yX4_marksRight : MethodName := ⟨RX4, "marksRight", "()Z"⟩
abbrev cX4_restRight : ByteArray := prog_6_method_48_code
def yX4_restRight : MethodName := ⟨RX4, "restRight", "()Z"⟩
abbrev cX4_load : ByteArray := prog_6_method_49_code
def yX4_load : MethodName := ⟨RX4, "load", "()I"⟩
def RJ9 : String := "java/lang/Math"
def TJ9 : u_T := fun k => match k with
  | _ => ("", "", "", false)
def tyJ9 : Nat → FieldType := fun k => match k with
  | _ => .int
theorem nmJ9 : ∀ a, a < 0 → ∀ b, b < 0 → a ≠ b → (TJ9 a).2.1 ≠ (TJ9 b).2.1 := by decide +kernel
theorem tyJ9_ok : ∀ k, k < 0 → parseFieldDescriptor (TJ9 k).2.2.1 = some (tyJ9 k) := by decide +kernel
abbrev cJ9_max_7cf53 : ByteArray := prog_7_method_65_code
def yJ9_max_7cf53 : MethodName := ⟨RJ9, "max", "(II)I"⟩
abbrev cJ9_min_7cf53 : ByteArray := prog_7_method_69_code
def yJ9_min_7cf53 : MethodName := ⟨RJ9, "min", "(II)I"⟩
def RJ10 : String := "java/lang/System"
def TJ10 : u_T := fun k => match k with
  | _ => ("", "", "", false)
def tyJ10 : Nat → FieldType := fun k => match k with
  | _ => .int
theorem nmJ10 : ∀ a, a < 0 → ∀ b, b < 0 → a ≠ b → (TJ10 a).2.1 ≠ (TJ10 b).2.1 := by decide +kernel
theorem tyJ10_ok : ∀ k, k < 0 → parseFieldDescriptor (TJ10 k).2.2.1 = some (tyJ10 k) := by decide +kernel
def RL : String := "LayeredImageLaw"
abbrev cL_cell : ByteArray := method_2_code
def yL_cell : MethodName := ⟨RL, "cell", "([II)I"⟩
abbrev cL_law : ByteArray := code
def yL_law : MethodName := ⟨RL, "law", "([I)Z"⟩
abbrev vwCl : List vw_C := [(RX0, TX0, 1), (RX1, TX1, 2), (RX2, TX2, 2), (RX3, TX3, 4), (RX4, TX4, 7)]
end
section
/-! ===== the methods as tables of resolved steps (printed by wip/gen/gen1.py) ===== -/
def GW : List Cond := lw_tbl.filter goodWord
theorem inGW {w : Cond} (i : Nat) (h : lw_tbl[i]? = some w) (hg : goodWord w = true) : w ∈ GW := List.mem_filter.mpr ⟨List.mem_of_getElem? h, hg⟩
/-- a step: its kind, a number, the next place, another place or number, an int -/
abbrev Op : Type := Nat × Nat × Nat × Nat × Int32
def nth {α : Type} : List α → Nat → Option α
  | [], _ => none
  | a :: _, 0 => some a
  | _ :: l, n + 1 => nth l n
def nth2 {α : Type} (l : List (List α)) (k : Nat) : Option α := match nth l (k / 16) with
  | none => none
  | some r => nth r (k % 16)
/-- a method: its class, name, code, locals, answer, number of parameters, whether it is static -/
abbrev MI : Type := Nat × MethodName × ByteArray × Nat × Option FieldType × Nat × Bool
def mi_0 : List MI := [(0, yX0_init, cX0_init, 1, none, 0, false), (0, yX0_at, cX0_at, 3, (some .int), 2, false), (0, yX0_put, cX0_put, 4, none, 3, false), (0, yX0_becomeLike, cX0_becomeLike, 2, none, 1, false), (0, yX0_copyCluster, cX0_copyCluster, 5, none, 3, false), (0, yX0_isBlank, cX0_isBlank, 4, (some .boolean), 2, false), (0, yX0_format, cX0_format, 3, none, 1, false), (0, yX0_count, cX0_count, 3, (some .int), 1, false), (0, yX0_addToCount, cX0_addToCount, 6, none, 2, false), (0, yX0_clustersInUse, cX0_clustersInUse, 3, (some .int), 0, false), (0, yX0_room, cX0_room, 3, (some .int), 0, false), (0, yX0_take, cX0_take, 3, (some .int), 0, false), (0, yX0_leastFree, cX0_leastFree, 2, (some .int), 0, false), (1, yX1_init, cX1_init, 2, none, 1, false), (1, yX1_blocks, cX1_blocks, 1, (some .int), 0, false), (1, yX1_hasBlock, cX1_hasBlock, 2, (some .boolean), 1, false)]
def mi_1 : List MI := [(1, yX1_hasAddress, cX1_hasAddress, 2, (some .boolean), 1, false), (1, yX1_activeTable, cX1_activeTable, 1, (some .int), 0, false), (1, yX1_leafLead, cX1_leafLead, 2, (some .int), 1, false), (1, yX1_blockWord, cX1_blockWord, 4, (some .int), 2, false), (1, yX1_activeWord, cX1_activeWord, 2, (some .int), 1, false), (1, yX1_putActiveWord, cX1_putActiveWord, 3, none, 2, false), (1, yX1_shown, cX1_shown, 5, (some .int), 2, false), (1, yX1_putWord, cX1_putWord, 5, (some .int), 2, false), (1, yX1_dropBlock, cX1_dropBlock, 3, (some .int), 1, false), (1, yX1_dropChanges, cX1_dropChanges, 3, (some .boolean), 1, false), (1, yX1_makeZero, cX1_makeZero, 3, none, 1, false), (1, yX1_release, cX1_release, 2, none, 1, false), (1, yX1_isOwn, cX1_isOwn, 2, (some .boolean), 1, false), (1, yX1_leavesFor, cX1_leavesFor, 2, (some .int), 1, false), (1, yX1_clustersFor, cX1_clustersFor, 2, (some .int), 1, false), (1, yX1_giveLeaf, cX1_giveLeaf, 4, none, 1, false)]
def mi_2 : List MI := [(1, yX1_giveCluster, cX1_giveCluster, 5, (some .int), 1, false), (1, yX1_tellFlags, cX1_tellFlags, 2, none, 0, false), (1, yX1_tellFlagsBelow, cX1_tellFlagsBelow, 4, none, 1, false), (1, yX1_tellFlagsIn, cX1_tellFlagsIn, 5, none, 1, false), (1, yX1_snapshotCount, cX1_snapshotCount, 1, (some .int), 0, false), (1, yX1_snapshotList, cX1_snapshotList, 1, (some .int), 0, false), (1, yX1_snapshotTable, cX1_snapshotTable, 2, (some .int), 1, false), (1, yX1_snapshotNamed, cX1_snapshotNamed, 3, (some .int), 1, false), (1, yX1_addSnapshot, cX1_addSnapshot, 4, (some .int), 1, false), (1, yX1_returnTo, cX1_returnTo, 3, none, 1, false), (1, yX1_removeSnapshot, cX1_removeSnapshot, 4, none, 1, false), (1, yX1_closeListGap, cX1_closeListGap, 5, none, 1, false), (1, yX1_countTable, cX1_countTable, 5, none, 2, false), (1, yX1_countLeaf, cX1_countLeaf, 5, none, 2, false), (1, yX1_takeIn, cX1_takeIn, 5, (some .int), 1, false), (1, yX1_takingsFor, cX1_takingsFor, 7, (some .int), 1, false)]
def mi_3 : List MI := [(2, yX2_init, cX2_init, 1, none, 0, false), (2, yX2_firstWrong, cX2_firstWrong, 2, (some .int), 1, false), (2, yX2_isHeaderRight, cX2_isHeaderRight, 3, (some .boolean), 1, true), (2, yX2_areLeadsRight, cX2_areLeadsRight, 3, (some .boolean), 1, false), (2, yX2_claim, cX2_claim, 3, (some .boolean), 2, false), (2, yX2_areHeaderLeadsRight, cX2_areHeaderLeadsRight, 3, (some .boolean), 1, false), (2, yX2_areCountLeadsRight, cX2_areCountLeadsRight, 4, (some .boolean), 1, false), (2, yX2_areListLeadsRight, cX2_areListLeadsRight, 6, (some .boolean), 1, false), (2, yX2_areTableLeadsRight, cX2_areTableLeadsRight, 5, (some .boolean), 2, false), (2, yX2_areLeafLeadsRight, cX2_areLeafLeadsRight, 6, (some .boolean), 3, false), (2, yX2_clusterLedTo, cX2_clusterLedTo, 1, (some .int), 1, true), (2, yX2_isListRight, cX2_isListRight, 5, (some .boolean), 1, true), (2, yX2_areCountsRight, cX2_areCountsRight, 3, (some .boolean), 1, false), (2, yX2_areFlagsRight, cX2_areFlagsRight, 3, (some .boolean), 1, false), (2, yX2_hasFlags, cX2_hasFlags, 1, (some .boolean), 1, true), (2, yX2_areFlagsRightIn, cX2_areFlagsRightIn, 6, (some .boolean), 2, false)]
def mi_4 : List MI := [(2, yX2_areOthersBlank, cX2_areOthersBlank, 3, (some .boolean), 1, false), (3, yX3_init, cX3_init, 5, none, 1, false), (3, yX3_write, cX3_write, 3, (some .int), 2, false), (3, yX3_read, cX3_read, 3, (some .int), 1, false), (3, yX3_discard, cX3_discard, 2, (some .int), 1, false), (3, yX3_snapshot, cX3_snapshot, 2, (some .int), 1, false), (3, yX3_revert, cX3_revert, 3, (some .int), 1, false), (3, yX3_delete, cX3_delete, 3, (some .int), 1, false), (3, yX3_readOld, cX3_readOld, 5, (some .long), 2, false), (3, yX3_overlay, cX3_overlay, 2, (some .int), 0, false), (3, yX3_commit, cX3_commit, 4, (some .int), 0, false), (3, yX3_grow, cX3_grow, 2, (some .int), 1, false), (3, yX3_size, cX3_size, 1, (some .int), 0, false), (3, yX3_images, cX3_images, 1, (some .int), 0, false), (3, yX3_used, cX3_used, 1, (some .int), 0, false), (3, yX3_word, cX3_word, 3, (some .int), 2, false)]
def mi_5 : List MI := [(3, yX3_stage, cX3_stage, 8, (some .boolean), 5, false), (3, yX3_load, cX3_load, 2, (some .int), 0, false), (3, yX3_top, cX3_top, 1, (some (.object "LayeredImage$Image")), 0, false), (3, yX3_isLead, cX3_isLead, 1, (some .boolean), 1, true), (3, yX3_clusterOf, cX3_clusterOf, 1, (some .int), 1, true), (3, yX3_leadTo, cX3_leadTo, 2, (some .int), 2, true), (4, yX4_init, cX4_init, 2, none, 1, false), (4, yX4_fresh, cX4_fresh, 4, none, 2, false), (4, yX4_at, cX4_at, 2, (some .int), 2, true), (4, yX4_sizeOf, cX4_sizeOf, 2, (some .int), 1, false), (4, yX4_snapshots, cX4_snapshots, 2, (some .int), 1, false), (4, yX4_table, cX4_table, 4, (some .int), 2, false), (4, yX4_recount, cX4_recount, 7, none, 1, false), (4, yX4_countLeaf, cX4_countLeaf, 4, none, 1, false), (4, yX4_marked, cX4_marked, 3, (some .int), 1, false), (4, yX4_settle, cX4_settle, 8, none, 1, false)]
def mi_6 : List MI := [(4, yX4_leastFree, cX4_leastFree, 2, (some .int), 0, false), (4, yX4_take, cX4_take, 4, (some .int), 1, false), (4, yX4_room, cX4_room, 6, (some .int), 1, false), (4, yX4_slot, cX4_slot, 5, (some .int), 3, false), (4, yX4_entry, cX4_entry, 5, (some .int), 3, false), (4, yX4_shows, cX4_shows, 9, (some .int), 5, false), (4, yX4_lacksLeaf, cX4_lacksLeaf, 4, (some .boolean), 2, false), (4, yX4_lacksCluster, cX4_lacksCluster, 5, (some .boolean), 2, false), (4, yX4_ownLeaf, cX4_ownLeaf, 7, (some .int), 2, false), (4, yX4_own, cX4_own, 9, (some .int), 3, false), (4, yX4_isAddress, cX4_isAddress, 2, (some .boolean), 1, false), (4, yX4_write, cX4_write, 8, (some .int), 2, false), (4, yX4_read, cX4_read, 3, (some .int), 1, false), (4, yX4_drop, cX4_drop, 8, (some .int), 3, false), (4, yX4_discard, cX4_discard, 4, (some .int), 1, false), (4, yX4_named, cX4_named, 5, (some .int), 1, false)]
def mi_7 : List MI := [(4, yX4_snapshot, cX4_snapshot, 7, (some .int), 1, false), (4, yX4_revert, cX4_revert, 7, (some .int), 1, false), (4, yX4_delete, cX4_delete, 7, (some .int), 1, false), (4, yX4_readOld, cX4_readOld, 5, (some .long), 2, false), (4, yX4_overlay, cX4_overlay, 2, (some .int), 0, false), (4, yX4_copyFile, cX4_copyFile, 4, none, 2, false), (4, yX4_commit, cX4_commit, 10, (some .int), 0, false), (4, yX4_grow, cX4_grow, 3, (some .int), 1, false), (4, yX4_size, cX4_size, 1, (some .int), 0, false), (4, yX4_images, cX4_images, 1, (some .int), 0, false), (4, yX4_used, cX4_used, 3, (some .int), 0, false), (4, yX4_word, cX4_word, 3, (some .int), 2, false), (4, yX4_stage, cX4_stage, 6, (some .boolean), 5, false), (4, yX4_lead, cX4_lead, 3, (some .boolean), 2, false), (4, yX4_headerRight, cX4_headerRight, 3, (some .boolean), 0, false), (4, yX4_follow, cX4_follow, 3, (some .boolean), 2, false)]
def mi_8 : List MI := [(4, yX4_walkTable, cX4_walkTable, 8, none, 1, false), (4, yX4_usesRight, cX4_usesRight, 7, (some .boolean), 0, false), (4, yX4_listRight, cX4_listRight, 6, (some .boolean), 0, false), (4, yX4_countsRight, cX4_countsRight, 6, (some .boolean), 0, false), (4, yX4_marksRight, cX4_marksRight, 8, (some .boolean), 0, false), (4, yX4_restRight, cX4_restRight, 3, (some .boolean), 0, false), (4, yX4_load, cX4_load, 2, (some .int), 0, false)]
def miT : List (List MI) := [mi_0, mi_1, mi_2, mi_3, mi_4, mi_5, mi_6, mi_7, mi_8]
def mI (mi : Nat) : MI := (nth2 miT mi).getD (0, yX0_init, cX0_init, 0, none, 0, false)
def mOwn (mi : Nat) : Nat := (mI mi).1
def mY (mi : Nat) : MethodName := (mI mi).2.1
def mC (mi : Nat) : ByteArray := (mI mi).2.2.1
def mL (mi : Nat) : Nat := (mI mi).2.2.2.1
def mR (mi : Nat) : Option FieldType := (mI mi).2.2.2.2.1
def mN (mi : Nat) : Nat := (mI mi).2.2.2.2.2.1
def mS (mi : Nat) : Bool := (mI mi).2.2.2.2.2.2
def cn (c : Nat) : String := match c with
  | 0 => RX0
  | 1 => RX1
  | 2 => RX2
  | 3 => RX3
  | _ => RX4
def tb_X0_init : List (List (Option Op)) := []
def tb_X0_at : List (List (Option Op)) := [[some (26, 0, 1, 0, 0), some (8, 0, 4, 0, 0), none, none, some (0, 1, 5, 0, 0), some (1, 0, 7, 0, nI 63), none, some (2, 3, 8, 0, 0), some (1, 0, 10, 0, nI 8), none, some (2, 2, 11, 0, 0), some (0, 2, 12, 0, 0), some (1, 0, 14, 0, nI 7), none, some (2, 3, 15, 0, 0), some (2, 0, 16, 0, 0)], [some (10, 0, 17, 0, 0), some (13, 0, 0, 0, 0)]]
def tb_X0_put : List (List (Option Op)) := [[some (26, 0, 1, 0, 0), some (8, 0, 4, 0, 0), none, none, some (0, 1, 5, 0, 0), some (1, 0, 7, 0, nI 63), none, some (2, 3, 8, 0, 0), some (1, 0, 10, 0, nI 8), none, some (2, 2, 11, 0, 0), some (0, 2, 12, 0, 0), some (1, 0, 14, 0, nI 7), none, some (2, 3, 15, 0, 0), some (2, 0, 16, 0, 0)], [some (0, 3, 17, 0, 0), some (11, 0, 18, 0, 0), some (17, 0, 0, 0, 0)]]
def tb_X0_becomeLike : List (List (Option Op)) := [[some (26, 1, 1, 0, 0), some (8, 0, 4, 0, 0), none, none, some (1, 0, 5, 0, nI 0), some (26, 0, 6, 0, 0), some (8, 0, 9, 0, 0), none, none, some (1, 0, 10, 0, nI 0), some (1, 0, 13, 0, nI 512), none, none, some (25, 0, 16, 0, 0), none, none], [some (17, 0, 0, 0, 0)]]
def tb_X0_copyCluster : List (List (Option Op)) := [[some (1, 0, 1, 0, nI 0), some (3, 4, 3, 0, 0), none, some (0, 4, 5, 0, 0), none, some (1, 0, 7, 0, nI 8), none, some (5, 3, 10, 30, 0), none, none, some (26, 0, 11, 0, 0), some (0, 3, 12, 0, 0), some (0, 4, 14, 0, 0), none, some (26, 1, 15, 0, 0), some (0, 2, 16, 0, 0)], [some (0, 4, 18, 0, 0), none, some (14, 1, 21, 2, 0), none, none, some (14, 2, 24, 3, 0), none, none, some (4, 4, 27, 0, nI 1), none, none, some (7, 0, 3, 0, 0), none, none, some (17, 0, 0, 0, 0)]]
def tb_X0_isBlank : List (List (Option Op)) := [[some (0, 2, 1, 0, 0), some (3, 3, 2, 0, 0), some (0, 3, 3, 0, 0), some (1, 0, 5, 0, nI 8), none, some (5, 3, 8, 25, 0), none, none, some (26, 0, 9, 0, 0), some (0, 1, 10, 0, 0), some (0, 3, 11, 0, 0), some (14, 1, 14, 2, 0), none, none, some (6, 0, 17, 19, 0), none], [none, some (1, 0, 18, 0, nI 0), some (13, 1, 0, 0, 0), some (4, 3, 22, 0, nI 1), none, none, some (7, 0, 2, 0, 0), none, none, some (1, 0, 26, 0, nI 1), some (13, 1, 0, 0, 0)]]
def tb_X0_format : List (List (Option Op)) := [[some (1, 0, 1, 0, nI 0), some (3, 2, 2, 0, 0), some (0, 2, 3, 0, 0), some (1, 0, 6, 0, nI 512), none, none, some (5, 3, 9, 22, 0), none, none, some (26, 0, 10, 0, 0), some (8, 0, 13, 0, 0), none, none, some (0, 2, 14, 0, 0), some (1, 0, 15, 0, nI 0), some (11, 0, 16, 0, 0)], [some (4, 2, 19, 0, nI 1), none, none, some (7, 0, 2, 0, 0), none, none, some (26, 0, 23, 0, 0), some (1, 0, 24, 0, nI 0), some (1, 0, 25, 0, nI 0), some (1, 0, 28, 0, nI 7001), none, none, some (14, 2, 31, 3, 0), none, none, some (26, 0, 32, 0, 0)], [some (1, 0, 33, 0, nI 0), some (1, 0, 34, 0, nI 1), some (1, 0, 35, 0, nI 1), some (14, 2, 38, 3, 0), none, none, some (26, 0, 39, 0, 0), some (1, 0, 40, 0, nI 0), some (1, 0, 41, 0, nI 2), some (0, 1, 42, 0, 0), some (14, 2, 45, 3, 0), none, none, some (26, 0, 46, 0, 0), some (1, 0, 47, 0, nI 0), some (1, 0, 48, 0, nI 3)], [some (1, 0, 49, 0, nI 3), some (14, 2, 52, 3, 0), none, none, some (26, 0, 53, 0, 0), some (1, 0, 54, 0, nI 0), some (1, 0, 55, 0, nI 4), some (1, 0, 56, 0, nI 1), some (14, 2, 59, 3, 0), none, none, some (26, 0, 60, 0, 0), some (1, 0, 61, 0, nI 1), some (1, 0, 62, 0, nI 0), some (1, 0, 63, 0, nI 2), some (14, 2, 66, 3, 0)], [none, none, some (1, 0, 67, 0, nI 0), some (3, 2, 68, 0, 0), some (0, 2, 69, 0, 0), some (1, 0, 70, 0, nI 3), some (5, 4, 73, 86, 0), none, none, some (26, 0, 74, 0, 0), some (1, 0, 75, 0, nI 2), some (0, 2, 76, 0, 0), some (1, 0, 77, 0, nI 1), some (14, 2, 80, 3, 0), none, none], [some (4, 2, 83, 0, nI 1), none, none, some (7, 0, 68, 0, 0), none, none, some (17, 0, 0, 0, 0)]]
def tb_X0_count : List (List (Option Op)) := [[some (26, 0, 1, 0, 0), some (26, 0, 2, 0, 0), some (1, 0, 3, 0, nI 0), some (1, 0, 4, 0, nI 4), some (14, 1, 7, 2, 0), none, none, some (0, 1, 8, 0, 0), some (1, 0, 10, 0, nI 8), none, some (2, 5, 11, 0, 0), some (14, 1, 14, 2, 0), none, none, some (3, 2, 15, 0, 0), some (0, 2, 16, 0, 0)], [some (6, 1, 19, 23, 0), none, none, some (1, 0, 20, 0, nI 0), some (7, 0, 32, 0, 0), none, none, some (26, 0, 24, 0, 0), some (0, 2, 25, 0, 0), some (0, 1, 26, 0, 0), some (1, 0, 28, 0, nI 8), none, some (2, 6, 29, 0, 0), some (14, 1, 32, 2, 0), none, none], [some (13, 0, 0, 0, 0)]]
def tb_X0_addToCount : List (List (Option Op)) := [[some (26, 0, 1, 0, 0), some (26, 0, 2, 0, 0), some (1, 0, 3, 0, nI 0), some (1, 0, 4, 0, nI 4), some (14, 1, 7, 2, 0), none, none, some (0, 1, 8, 0, 0), some (1, 0, 10, 0, nI 8), none, some (2, 5, 11, 0, 0), some (14, 1, 14, 2, 0), none, none, some (3, 3, 15, 0, 0), some (26, 0, 16, 0, 0)], [some (0, 3, 17, 0, 0), some (0, 1, 18, 0, 0), some (1, 0, 20, 0, nI 8), none, some (2, 6, 21, 0, 0), some (14, 1, 24, 2, 0), none, none, some (0, 2, 25, 0, 0), some (2, 0, 26, 0, 0), some (3, 4, 28, 0, 0), none, some (26, 0, 29, 0, 0), some (0, 3, 30, 0, 0), some (0, 1, 31, 0, 0), some (1, 0, 33, 0, nI 8)], [none, some (2, 6, 34, 0, 0), some (0, 4, 36, 0, 0), none, some (14, 2, 39, 3, 0), none, none, some (0, 4, 41, 0, 0), none, some (6, 1, 44, 68, 0), none, none, some (1, 0, 45, 0, nI 0), some (3, 5, 47, 0, 0), none, some (0, 5, 49, 0, 0)], [none, some (1, 0, 51, 0, nI 8), none, some (5, 3, 54, 68, 0), none, none, some (26, 0, 55, 0, 0), some (0, 1, 56, 0, 0), some (0, 5, 58, 0, 0), none, some (1, 0, 59, 0, nI 0), some (14, 2, 62, 3, 0), none, none, some (4, 5, 65, 0, nI 1), none], [none, some (7, 0, 47, 0, 0), none, none, some (17, 0, 0, 0, 0)]]
def tb_X0_clustersInUse : List (List (Option Op)) := [[some (1, 0, 1, 0, nI 0), some (3, 1, 2, 0, 0), some (1, 0, 3, 0, nI 0), some (3, 2, 4, 0, 0), some (0, 2, 5, 0, 0), some (1, 0, 7, 0, nI 64), none, some (5, 3, 10, 32, 0), none, none, some (0, 1, 11, 0, 0), some (26, 0, 12, 0, 0), some (0, 2, 13, 0, 0), some (14, 7, 16, 1, 0), none, none], [some (6, 5, 19, 23, 0), none, none, some (1, 0, 20, 0, nI 1), some (7, 0, 24, 0, 0), none, none, some (1, 0, 24, 0, nI 0), some (2, 0, 25, 0, 0), some (3, 1, 26, 0, 0), some (4, 2, 29, 0, nI 1), none, none, some (7, 0, 4, 0, 0), none, none], [some (0, 1, 33, 0, 0), some (13, 0, 0, 0, 0)]]
def tb_X0_room : List (List (Option Op)) := [[some (1, 0, 2, 0, nI 64), none, some (26, 0, 3, 0, 0), some (14, 9, 6, 0, 0), none, none, some (2, 1, 7, 0, 0), some (3, 1, 8, 0, 0), some (1, 0, 9, 0, nI 0), some (3, 2, 10, 0, 0), some (0, 2, 11, 0, 0), some (1, 0, 13, 0, nI 8), none, some (5, 3, 16, 44, 0), none, none], [some (0, 1, 17, 0, 0), some (26, 0, 18, 0, 0), some (26, 0, 19, 0, 0), some (1, 0, 20, 0, nI 0), some (1, 0, 21, 0, nI 4), some (14, 1, 24, 2, 0), none, none, some (0, 2, 25, 0, 0), some (14, 1, 28, 2, 0), none, none, some (6, 1, 31, 35, 0), none, none, some (1, 0, 32, 0, nI 1)], [some (7, 0, 36, 0, 0), none, none, some (1, 0, 36, 0, nI 0), some (2, 1, 37, 0, 0), some (3, 1, 38, 0, 0), some (4, 2, 41, 0, nI 1), none, none, some (7, 0, 10, 0, 0), none, none, some (0, 1, 45, 0, 0), some (13, 0, 0, 0, 0)]]
def tb_X0_take : List (List (Option Op)) := [[some (26, 0, 1, 0, 0), some (14, 12, 4, 0, 0), none, none, some (3, 1, 5, 0, 0), some (26, 0, 6, 0, 0), some (1, 0, 7, 0, nI 0), some (1, 0, 8, 0, nI 4), some (14, 1, 11, 2, 0), none, none, some (3, 2, 12, 0, 0), some (26, 0, 13, 0, 0), some (0, 2, 14, 0, 0), some (0, 1, 15, 0, 0), some (1, 0, 17, 0, nI 8)], [none, some (2, 5, 18, 0, 0), some (14, 1, 21, 2, 0), none, none, some (6, 1, 24, 45, 0), none, none, some (26, 0, 25, 0, 0), some (0, 2, 26, 0, 0), some (0, 1, 27, 0, 0), some (1, 0, 29, 0, nI 8), none, some (2, 5, 30, 0, 0), some (0, 1, 31, 0, 0), some (14, 2, 34, 3, 0)], [none, none, some (26, 0, 35, 0, 0), some (0, 1, 36, 0, 0), some (1, 0, 37, 0, nI 1), some (14, 8, 40, 2, 0), none, none, some (26, 0, 41, 0, 0), some (14, 12, 44, 0, 0), none, none, some (3, 1, 45, 0, 0), some (26, 0, 46, 0, 0), some (0, 1, 47, 0, 0), some (1, 0, 48, 0, nI 1)], [some (14, 8, 51, 2, 0), none, none, some (0, 1, 52, 0, 0), some (13, 0, 0, 0, 0)]]
def tb_X0_leastFree : List (List (Option Op)) := [[some (1, 0, 1, 0, nI 1), some (3, 1, 2, 0, 0), some (0, 1, 3, 0, 0), some (1, 0, 5, 0, nI 63), none, some (5, 3, 8, 22, 0), none, none, some (26, 0, 9, 0, 0), some (0, 1, 10, 0, 0), some (14, 7, 13, 1, 0), none, none, some (6, 5, 16, 22, 0), none, none], [some (4, 1, 19, 0, nI 1), none, none, some (7, 0, 2, 0, 0), none, none, some (0, 1, 23, 0, 0), some (13, 0, 0, 0, 0)]]
def tb_X1_init : List (List (Option Op)) := []
def tb_X1_blocks : List (List (Option Op)) := [[some (26, 0, 1, 0, 0), some (8, 1, 4, 0, 0), none, none, some (1, 0, 5, 0, nI 0), some (1, 0, 6, 0, nI 2), some (14, 1, 9, 2, 0), none, none, some (13, 0, 0, 0, 0)]]
def tb_X1_hasBlock : List (List (Option Op)) := [[some (0, 1, 1, 0, 0), some (6, 2, 4, 16, 0), none, none, some (0, 1, 5, 0, 0), some (26, 0, 6, 0, 0), some (14, 14, 9, 16, 0), none, none, some (5, 3, 12, 16, 0), none, none, some (1, 0, 13, 0, nI 1), some (7, 0, 17, 0, 0), none, none], [some (1, 0, 17, 0, nI 0), some (13, 1, 0, 0, 0)]]
def tb_X1_hasAddress : List (List (Option Op)) := [[some (0, 1, 1, 0, 0), some (6, 2, 4, 19, 0), none, none, some (0, 1, 5, 0, 0), some (1, 0, 7, 0, nI 8), none, some (26, 0, 8, 0, 0), some (14, 14, 11, 16, 0), none, none, some (2, 2, 12, 0, 0), some (5, 3, 15, 19, 0), none, none, some (1, 0, 16, 0, nI 1)], [some (7, 0, 20, 0, 0), none, none, some (1, 0, 20, 0, nI 0), some (13, 1, 0, 0, 0)]]
def tb_X1_activeTable : List (List (Option Op)) := [[some (26, 0, 1, 0, 0), some (8, 1, 4, 0, 0), none, none, some (1, 0, 5, 0, nI 0), some (1, 0, 6, 0, nI 3), some (14, 1, 9, 2, 0), none, none, some (13, 0, 0, 0, 0)]]
def tb_X1_leafLead : List (List (Option Op)) := [[some (26, 0, 1, 0, 0), some (8, 1, 4, 0, 0), none, none, some (26, 0, 5, 0, 0), some (14, 17, 8, 16, 0), none, none, some (0, 1, 9, 0, 0), some (1, 0, 11, 0, nI 8), none, some (2, 5, 12, 0, 0), some (14, 1, 15, 2, 0), none, none, some (13, 0, 0, 0, 0)]]
def tb_X1_blockWord : List (List (Option Op)) := [[some (26, 0, 1, 0, 0), some (8, 1, 4, 0, 0), none, none, some (0, 1, 5, 0, 0), some (0, 2, 6, 0, 0), some (1, 0, 8, 0, nI 8), none, some (2, 5, 9, 0, 0), some (14, 1, 12, 2, 0), none, none, some (3, 3, 13, 0, 0), some (0, 3, 14, 0, 0), some (16, 83, 17, 49, 0), none], [none, some (6, 0, 20, 38, 0), none, none, some (26, 0, 21, 0, 0), some (8, 1, 24, 0, 0), none, none, some (0, 3, 25, 0, 0), some (16, 84, 28, 49, 0), none, none, some (0, 2, 29, 0, 0), some (1, 0, 31, 0, nI 8), none, some (2, 6, 32, 0, 0)], [some (14, 1, 35, 2, 0), none, none, some (7, 0, 39, 0, 0), none, none, some (1, 0, 39, 0, nI 0), some (13, 0, 0, 0, 0)]]
def tb_X1_activeWord : List (List (Option Op)) := [[some (26, 0, 1, 0, 0), some (26, 0, 2, 0, 0), some (14, 17, 5, 16, 0), none, none, some (0, 1, 6, 0, 0), some (14, 19, 9, 18, 0), none, none, some (13, 0, 0, 0, 0)]]
def tb_X1_putActiveWord : List (List (Option Op)) := [[some (26, 0, 1, 0, 0), some (8, 1, 4, 0, 0), none, none, some (26, 0, 5, 0, 0), some (0, 1, 6, 0, 0), some (14, 18, 9, 17, 0), none, none, some (16, 84, 12, 49, 0), none, none, some (0, 1, 13, 0, 0), some (1, 0, 15, 0, nI 8), none, some (2, 6, 16, 0, 0)], [some (0, 2, 17, 0, 0), some (14, 2, 20, 3, 0), none, none, some (17, 0, 0, 0, 0)]]
def tb_X1_shown : List (List (Option Op)) := [[some (26, 0, 1, 0, 0), some (0, 1, 2, 0, 0), some (0, 2, 3, 0, 0), some (1, 0, 5, 0, nI 8), none, some (2, 5, 6, 0, 0), some (14, 19, 9, 18, 0), none, none, some (3, 3, 10, 0, 0), some (26, 0, 11, 0, 0), some (27, 4, 13, 0, 0), none, some (0, 3, 14, 0, 0), some (6, 1, 17, 45, 0), none], [none, some (26, 4, 19, 0, 0), none, some (8, 1, 22, 1, 0), none, none, some (21, 0, 25, 45, 0), none, none, some (26, 4, 27, 0, 0), none, some (8, 1, 30, 1, 0), none, none, some (27, 4, 32, 0, 0), none], [some (26, 4, 34, 0, 0), none, some (0, 2, 35, 0, 0), some (1, 0, 37, 0, nI 8), none, some (2, 5, 38, 0, 0), some (14, 20, 41, 17, 0), none, none, some (3, 3, 42, 0, 0), some (7, 0, 13, 0, 0), none, none, some (0, 3, 46, 0, 0), some (16, 83, 49, 49, 0), none], [none, some (6, 0, 52, 71, 0), none, none, some (26, 4, 54, 0, 0), none, some (8, 1, 57, 0, 0), none, none, some (0, 3, 58, 0, 0), some (16, 84, 61, 49, 0), none, none, some (0, 2, 62, 0, 0), some (1, 0, 64, 0, nI 8), none], [some (2, 6, 65, 0, 0), some (14, 1, 68, 2, 0), none, none, some (7, 0, 72, 0, 0), none, none, some (1, 0, 72, 0, nI 0), some (13, 0, 0, 0, 0)]]
def tb_X1_putWord : List (List (Option Op)) := [[some (0, 1, 1, 0, 0), some (1, 0, 3, 0, nI 8), none, some (2, 5, 4, 0, 0), some (3, 3, 5, 0, 0), some (26, 0, 6, 0, 0), some (0, 3, 7, 0, 0), some (14, 29, 10, 17, 0), none, none, some (26, 0, 11, 0, 0), some (0, 3, 12, 0, 0), some (14, 30, 15, 17, 0), none, none, some (2, 0, 16, 0, 0)], [some (3, 4, 18, 0, 0), none, some (26, 0, 19, 0, 0), some (8, 1, 22, 0, 0), none, none, some (14, 10, 25, 0, 0), none, none, some (0, 4, 27, 0, 0), none, some (5, 3, 30, 33, 0), none, none, some (1, 0, 32, 0, -2), none], [some (13, 0, 0, 0, 0), some (26, 0, 34, 0, 0), some (0, 3, 35, 0, 0), some (14, 31, 38, 17, 0), none, none, some (26, 0, 39, 0, 0), some (8, 1, 42, 0, 0), none, none, some (26, 0, 43, 0, 0), some (0, 3, 44, 0, 0), some (14, 32, 47, 17, 0), none, none, some (0, 1, 48, 0, 0)], [some (1, 0, 50, 0, nI 8), none, some (2, 6, 51, 0, 0), some (0, 2, 52, 0, 0), some (14, 2, 55, 3, 0), none, none, some (26, 0, 56, 0, 0), some (14, 33, 59, 16, 0), none, none, some (0, 4, 61, 0, 0), none, some (13, 0, 0, 0, 0)]]
def tb_X1_dropBlock : List (List (Option Op)) := [[some (26, 0, 1, 0, 0), some (0, 1, 2, 0, 0), some (14, 25, 5, 17, 0), none, none, some (6, 1, 8, 10, 0), none, none, some (1, 0, 9, 0, nI 0), some (13, 0, 0, 0, 0), some (26, 0, 11, 0, 0), some (0, 1, 12, 0, 0), some (14, 29, 15, 17, 0), none, none, some (3, 2, 16, 0, 0)], [some (26, 0, 17, 0, 0), some (8, 1, 20, 0, 0), none, none, some (14, 10, 23, 0, 0), none, none, some (0, 2, 24, 0, 0), some (5, 3, 27, 30, 0), none, none, some (1, 0, 29, 0, -2), none, some (13, 0, 0, 0, 0), some (26, 0, 31, 0, 0), some (0, 1, 32, 0, 0)], [some (14, 31, 35, 17, 0), none, none, some (26, 0, 36, 0, 0), some (0, 1, 37, 0, 0), some (14, 26, 40, 17, 0), none, none, some (26, 0, 41, 0, 0), some (14, 33, 44, 16, 0), none, none, some (0, 2, 45, 0, 0), some (13, 0, 0, 0, 0)]]
def tb_X1_dropChanges : List (List (Option Op)) := [[some (26, 0, 1, 0, 0), some (0, 1, 2, 0, 0), some (14, 20, 5, 17, 0), none, none, some (3, 2, 6, 0, 0), some (0, 2, 7, 0, 0), some (16, 83, 10, 49, 0), none, none, some (6, 1, 13, 24, 0), none, none, some (0, 2, 14, 0, 0), some (6, 1, 17, 28, 0), none], [none, some (26, 0, 18, 0, 0), some (8, 1, 21, 1, 0), none, none, some (21, 0, 24, 28, 0), none, none, some (1, 0, 25, 0, nI 1), some (7, 0, 29, 0, 0), none, none, some (1, 0, 29, 0, nI 0), some (13, 1, 0, 0, 0)]]
def tb_X1_makeZero : List (List (Option Op)) := [[some (26, 0, 1, 0, 0), some (0, 1, 2, 0, 0), some (14, 20, 5, 17, 0), none, none, some (3, 2, 6, 0, 0), some (26, 0, 7, 0, 0), some (0, 1, 8, 0, 0), some (1, 0, 9, 0, nI 2), some (14, 21, 12, 18, 0), none, none, some (26, 0, 13, 0, 0), some (0, 2, 14, 0, 0), some (14, 27, 17, 17, 0), none], [none, some (17, 0, 0, 0, 0)]]
def tb_X1_release : List (List (Option Op)) := [[some (0, 1, 1, 0, 0), some (16, 83, 4, 49, 0), none, none, some (6, 0, 7, 19, 0), none, none, some (26, 0, 8, 0, 0), some (8, 1, 11, 0, 0), none, none, some (0, 1, 12, 0, 0), some (16, 84, 15, 49, 0), none, none, some (1, 0, 16, 0, -1)], [some (14, 8, 19, 2, 0), none, none, some (17, 0, 0, 0, 0)]]
def tb_X1_isOwn : List (List (Option Op)) := [[some (0, 1, 1, 0, 0), some (16, 83, 4, 49, 0), none, none, some (6, 0, 7, 26, 0), none, none, some (26, 0, 8, 0, 0), some (8, 1, 11, 0, 0), none, none, some (0, 1, 12, 0, 0), some (16, 84, 15, 49, 0), none, none, some (14, 7, 18, 1, 0)], [none, none, some (1, 0, 19, 0, nI 1), some (5, 1, 22, 26, 0), none, none, some (1, 0, 23, 0, nI 1), some (7, 0, 27, 0, 0), none, none, some (1, 0, 27, 0, nI 0), some (13, 1, 0, 0, 0)]]
def tb_X1_leavesFor : List (List (Option Op)) := [[some (26, 0, 1, 0, 0), some (26, 0, 2, 0, 0), some (0, 1, 3, 0, 0), some (14, 18, 6, 17, 0), none, none, some (14, 28, 9, 17, 0), none, none, some (6, 0, 12, 16, 0), none, none, some (1, 0, 13, 0, nI 0), some (7, 0, 17, 0, 0), none, none], [some (1, 0, 17, 0, nI 1), some (13, 0, 0, 0, 0)]]
def tb_X1_clustersFor : List (List (Option Op)) := [[some (26, 0, 1, 0, 0), some (26, 0, 2, 0, 0), some (0, 1, 3, 0, 0), some (14, 20, 6, 17, 0), none, none, some (14, 28, 9, 17, 0), none, none, some (6, 0, 12, 16, 0), none, none, some (1, 0, 13, 0, nI 0), some (7, 0, 17, 0, 0), none, none], [some (1, 0, 17, 0, nI 1), some (13, 0, 0, 0, 0)]]
def tb_X1_giveLeaf : List (List (Option Op)) := [[some (26, 0, 1, 0, 0), some (0, 1, 2, 0, 0), some (14, 18, 5, 17, 0), none, none, some (3, 2, 6, 0, 0), some (26, 0, 7, 0, 0), some (0, 2, 8, 0, 0), some (14, 28, 11, 17, 0), none, none, some (6, 0, 14, 15, 0), none, none, some (17, 0, 0, 0, 0), some (26, 0, 16, 0, 0)], [some (8, 1, 19, 0, 0), none, none, some (14, 11, 22, 0, 0), none, none, some (3, 3, 23, 0, 0), some (0, 2, 24, 0, 0), some (16, 83, 27, 49, 0), none, none, some (6, 0, 30, 46, 0), none, none, some (26, 0, 31, 0, 0), some (8, 1, 34, 0, 0)], [none, none, some (26, 0, 35, 0, 0), some (8, 1, 38, 0, 0), none, none, some (0, 2, 39, 0, 0), some (16, 84, 42, 49, 0), none, none, some (0, 3, 43, 0, 0), some (14, 4, 46, 3, 0), none, none, some (26, 0, 47, 0, 0), some (8, 1, 50, 0, 0)], [none, none, some (26, 0, 51, 0, 0), some (14, 17, 54, 16, 0), none, none, some (0, 1, 55, 0, 0), some (1, 0, 57, 0, nI 8), none, some (2, 5, 58, 0, 0), some (0, 3, 59, 0, 0), some (1, 0, 60, 0, nI 1), some (16, 85, 63, 50, 0), none, none, some (14, 2, 66, 3, 0)], [none, none, some (26, 0, 67, 0, 0), some (0, 2, 68, 0, 0), some (14, 27, 71, 17, 0), none, none, some (17, 0, 0, 0, 0)]]
def tb_X1_giveCluster : List (List (Option Op)) := [[some (26, 0, 1, 0, 0), some (0, 1, 2, 0, 0), some (14, 20, 5, 17, 0), none, none, some (3, 2, 6, 0, 0), some (26, 0, 7, 0, 0), some (0, 2, 8, 0, 0), some (14, 28, 11, 17, 0), none, none, some (6, 0, 14, 19, 0), none, none, some (0, 2, 15, 0, 0), some (16, 84, 18, 49, 0)], [none, none, some (13, 0, 0, 0, 0), some (26, 0, 20, 0, 0), some (8, 1, 23, 0, 0), none, none, some (14, 11, 26, 0, 0), none, none, some (3, 3, 27, 0, 0), some (1, 0, 28, 0, nI 0), some (3, 4, 30, 0, 0), none, some (0, 4, 32, 0, 0), none], [some (1, 0, 34, 0, nI 8), none, some (5, 3, 37, 68, 0), none, none, some (26, 0, 38, 0, 0), some (8, 1, 41, 0, 0), none, none, some (0, 3, 42, 0, 0), some (0, 4, 44, 0, 0), none, some (26, 0, 45, 0, 0), some (26, 0, 46, 0, 0), some (14, 17, 49, 16, 0), none], [none, some (1, 0, 51, 0, nI 8), none, some (0, 1, 52, 0, 0), some (2, 2, 53, 0, 0), some (0, 4, 55, 0, 0), none, some (2, 0, 56, 0, 0), some (14, 22, 59, 18, 0), none, none, some (14, 2, 62, 3, 0), none, none, some (4, 4, 65, 0, nI 1), none], [none, some (7, 0, 30, 0, 0), none, none, some (26, 0, 69, 0, 0), some (0, 1, 70, 0, 0), some (0, 3, 71, 0, 0), some (1, 0, 72, 0, nI 1), some (16, 85, 75, 50, 0), none, none, some (14, 21, 78, 18, 0), none, none, some (26, 0, 79, 0, 0), some (0, 2, 80, 0, 0)], [some (14, 27, 83, 17, 0), none, none, some (0, 3, 84, 0, 0), some (13, 0, 0, 0, 0)]]
def tb_X1_tellFlags : List (List (Option Op)) := [[some (26, 0, 1, 0, 0), some (26, 0, 2, 0, 0), some (14, 17, 5, 16, 0), none, none, some (14, 34, 8, 17, 0), none, none, some (1, 0, 9, 0, nI 0), some (3, 1, 10, 0, 0), some (0, 1, 11, 0, 0), some (26, 0, 12, 0, 0), some (14, 36, 15, 16, 0), none, none, some (5, 3, 18, 33, 0)], [none, none, some (26, 0, 19, 0, 0), some (26, 0, 20, 0, 0), some (0, 1, 21, 0, 0), some (14, 38, 24, 17, 0), none, none, some (14, 34, 27, 17, 0), none, none, some (4, 1, 30, 0, nI 1), none, none, some (7, 0, 10, 0, 0), none], [none, some (17, 0, 0, 0, 0)]]
def tb_X1_tellFlagsBelow : List (List (Option Op)) := [[some (26, 0, 1, 0, 0), some (0, 1, 2, 0, 0), some (14, 35, 5, 17, 0), none, none, some (1, 0, 6, 0, nI 0), some (3, 2, 7, 0, 0), some (0, 2, 8, 0, 0), some (1, 0, 10, 0, nI 8), none, some (5, 3, 13, 44, 0), none, none, some (26, 0, 14, 0, 0), some (8, 1, 17, 0, 0), none], [none, some (0, 1, 18, 0, 0), some (0, 2, 19, 0, 0), some (14, 1, 22, 2, 0), none, none, some (3, 3, 23, 0, 0), some (0, 3, 24, 0, 0), some (16, 83, 27, 49, 0), none, none, some (6, 0, 30, 38, 0), none, none, some (26, 0, 31, 0, 0), some (0, 3, 32, 0, 0)], [some (16, 84, 35, 49, 0), none, none, some (14, 35, 38, 17, 0), none, none, some (4, 2, 41, 0, nI 1), none, none, some (7, 0, 7, 0, 0), none, none, some (17, 0, 0, 0, 0)]]
def tb_X1_tellFlagsIn : List (List (Option Op)) := [[some (1, 0, 1, 0, nI 0), some (3, 2, 2, 0, 0), some (0, 2, 3, 0, 0), some (1, 0, 5, 0, nI 8), none, some (5, 3, 8, 71, 0), none, none, some (26, 0, 9, 0, 0), some (8, 1, 12, 0, 0), none, none, some (0, 1, 13, 0, 0), some (0, 2, 14, 0, 0), some (14, 1, 17, 2, 0), none], [none, some (3, 3, 18, 0, 0), some (0, 3, 19, 0, 0), some (16, 83, 22, 49, 0), none, none, some (6, 0, 25, 65, 0), none, none, some (26, 0, 26, 0, 0), some (8, 1, 29, 0, 0), none, none, some (0, 3, 30, 0, 0), some (16, 84, 33, 49, 0), none], [none, some (14, 7, 36, 1, 0), none, none, some (1, 0, 37, 0, nI 1), some (5, 1, 40, 44, 0), none, none, some (1, 0, 41, 0, nI 1), some (7, 0, 45, 0, 0), none, none, some (1, 0, 45, 0, nI 0), some (3, 4, 47, 0, 0), none, some (26, 0, 48, 0, 0)], [some (8, 1, 51, 0, 0), none, none, some (0, 1, 52, 0, 0), some (0, 2, 53, 0, 0), some (0, 3, 54, 0, 0), some (16, 84, 57, 49, 0), none, none, some (0, 4, 59, 0, 0), none, some (16, 85, 62, 50, 0), none, none, some (14, 2, 65, 3, 0), none], [none, some (4, 2, 68, 0, nI 1), none, none, some (7, 0, 2, 0, 0), none, none, some (17, 0, 0, 0, 0)]]
def tb_X1_snapshotCount : List (List (Option Op)) := [[some (26, 0, 1, 0, 0), some (8, 1, 4, 0, 0), none, none, some (1, 0, 5, 0, nI 0), some (1, 0, 6, 0, nI 5), some (14, 1, 9, 2, 0), none, none, some (13, 0, 0, 0, 0)]]
def tb_X1_snapshotList : List (List (Option Op)) := [[some (26, 0, 1, 0, 0), some (8, 1, 4, 0, 0), none, none, some (1, 0, 5, 0, nI 0), some (1, 0, 7, 0, nI 6), none, some (14, 1, 10, 2, 0), none, none, some (13, 0, 0, 0, 0)]]
def tb_X1_snapshotTable : List (List (Option Op)) := [[some (26, 0, 1, 0, 0), some (8, 1, 4, 0, 0), none, none, some (26, 0, 5, 0, 0), some (14, 37, 8, 16, 0), none, none, some (1, 0, 9, 0, nI 2), some (0, 1, 10, 0, 0), some (2, 2, 11, 0, 0), some (14, 1, 14, 2, 0), none, none, some (13, 0, 0, 0, 0)]]
def tb_X1_snapshotNamed : List (List (Option Op)) := [[some (1, 0, 1, 0, nI 0), some (3, 2, 2, 0, 0), some (0, 2, 3, 0, 0), some (26, 0, 4, 0, 0), some (14, 36, 7, 16, 0), none, none, some (5, 3, 10, 38, 0), none, none, some (26, 0, 11, 0, 0), some (8, 1, 14, 0, 0), none, none, some (26, 0, 15, 0, 0), some (14, 37, 18, 16, 0)], [none, none, some (1, 0, 19, 0, nI 2), some (0, 2, 20, 0, 0), some (2, 2, 21, 0, 0), some (1, 0, 22, 0, nI 1), some (2, 0, 23, 0, 0), some (14, 1, 26, 2, 0), none, none, some (0, 1, 27, 0, 0), some (5, 1, 30, 32, 0), none, none, some (0, 2, 31, 0, 0), some (13, 0, 0, 0, 0)], [some (4, 2, 35, 0, nI 1), none, none, some (7, 0, 2, 0, 0), none, none, some (1, 0, 39, 0, -1), some (13, 0, 0, 0, 0)]]
def tb_X1_addSnapshot : List (List (Option Op)) := [[some (26, 0, 1, 0, 0), some (14, 36, 4, 16, 0), none, none, some (3, 2, 5, 0, 0), some (26, 0, 6, 0, 0), some (0, 1, 7, 0, 0), some (14, 39, 10, 17, 0), none, none, some (6, 2, 13, 16, 0), none, none, some (1, 0, 15, 0, -4), none, some (13, 0, 0, 0, 0)], [some (0, 2, 17, 0, 0), some (1, 0, 18, 0, nI 4), some (5, 1, 21, 24, 0), none, none, some (1, 0, 23, 0, -3), none, some (13, 0, 0, 0, 0), some (26, 0, 25, 0, 0), some (8, 1, 28, 0, 0), none, none, some (14, 10, 31, 0, 0), none, none, some (0, 2, 32, 0, 0)], [some (6, 1, 35, 39, 0), none, none, some (1, 0, 36, 0, nI 2), some (7, 0, 40, 0, 0), none, none, some (1, 0, 40, 0, nI 1), some (5, 3, 43, 46, 0), none, none, some (1, 0, 45, 0, -2), none, some (13, 0, 0, 0, 0), some (0, 2, 47, 0, 0), some (6, 1, 50, 67, 0)], [none, none, some (26, 0, 51, 0, 0), some (8, 1, 54, 0, 0), none, none, some (1, 0, 55, 0, nI 0), some (1, 0, 57, 0, nI 6), none, some (26, 0, 58, 0, 0), some (8, 1, 61, 0, 0), none, none, some (14, 11, 64, 0, 0), none, none], [some (14, 2, 67, 3, 0), none, none, some (26, 0, 68, 0, 0), some (8, 1, 71, 0, 0), none, none, some (14, 11, 74, 0, 0), none, none, some (3, 3, 75, 0, 0), some (26, 0, 76, 0, 0), some (8, 1, 79, 0, 0), none, none, some (26, 0, 80, 0, 0)], [some (8, 1, 83, 0, 0), none, none, some (26, 0, 84, 0, 0), some (14, 17, 87, 16, 0), none, none, some (0, 3, 88, 0, 0), some (14, 4, 91, 3, 0), none, none, some (26, 0, 92, 0, 0), some (8, 1, 95, 0, 0), none, none, some (26, 0, 96, 0, 0)], [some (14, 37, 99, 16, 0), none, none, some (1, 0, 100, 0, nI 2), some (0, 2, 101, 0, 0), some (2, 2, 102, 0, 0), some (0, 3, 103, 0, 0), some (14, 2, 106, 3, 0), none, none, some (26, 0, 107, 0, 0), some (8, 1, 110, 0, 0), none, none, some (26, 0, 111, 0, 0), some (14, 37, 114, 16, 0)], [none, none, some (1, 0, 115, 0, nI 2), some (0, 2, 116, 0, 0), some (2, 2, 117, 0, 0), some (1, 0, 118, 0, nI 1), some (2, 0, 119, 0, 0), some (0, 1, 120, 0, 0), some (14, 2, 123, 3, 0), none, none, some (26, 0, 124, 0, 0), some (8, 1, 127, 0, 0), none, none, some (1, 0, 128, 0, nI 0)], [some (1, 0, 129, 0, nI 5), some (0, 2, 130, 0, 0), some (1, 0, 131, 0, nI 1), some (2, 0, 132, 0, 0), some (14, 2, 135, 3, 0), none, none, some (26, 0, 136, 0, 0), some (0, 3, 137, 0, 0), some (1, 0, 138, 0, nI 1), some (14, 44, 141, 18, 0), none, none, some (26, 0, 142, 0, 0), some (14, 33, 145, 16, 0), none], [none, some (1, 0, 146, 0, nI 0), some (13, 0, 0, 0, 0)]]
def tb_X1_returnTo : List (List (Option Op)) := [[some (26, 0, 1, 0, 0), some (0, 1, 2, 0, 0), some (14, 38, 5, 17, 0), none, none, some (3, 2, 6, 0, 0), some (26, 0, 7, 0, 0), some (0, 2, 8, 0, 0), some (1, 0, 9, 0, nI 1), some (14, 44, 12, 18, 0), none, none, some (26, 0, 13, 0, 0), some (26, 0, 14, 0, 0), some (14, 17, 17, 16, 0), none], [none, some (1, 0, 18, 0, -1), some (14, 44, 21, 18, 0), none, none, some (26, 0, 22, 0, 0), some (8, 1, 25, 0, 0), none, none, some (26, 0, 26, 0, 0), some (8, 1, 29, 0, 0), none, none, some (0, 2, 30, 0, 0), some (26, 0, 31, 0, 0), some (14, 17, 34, 16, 0)], [none, none, some (14, 4, 37, 3, 0), none, none, some (26, 0, 38, 0, 0), some (14, 33, 41, 16, 0), none, none, some (17, 0, 0, 0, 0)]]
def tb_X1_removeSnapshot : List (List (Option Op)) := [[some (26, 0, 1, 0, 0), some (0, 1, 2, 0, 0), some (14, 38, 5, 17, 0), none, none, some (3, 2, 6, 0, 0), some (26, 0, 7, 0, 0), some (0, 2, 8, 0, 0), some (1, 0, 9, 0, -1), some (14, 44, 12, 18, 0), none, none, some (26, 0, 13, 0, 0), some (8, 1, 16, 0, 0), none, none], [some (0, 2, 17, 0, 0), some (1, 0, 18, 0, -1), some (14, 8, 21, 2, 0), none, none, some (26, 0, 22, 0, 0), some (0, 1, 23, 0, 0), some (14, 43, 26, 17, 0), none, none, some (26, 0, 27, 0, 0), some (14, 36, 30, 16, 0), none, none, some (1, 0, 31, 0, nI 1), some (2, 1, 32, 0, 0)], [some (3, 3, 33, 0, 0), some (26, 0, 34, 0, 0), some (8, 1, 37, 0, 0), none, none, some (1, 0, 38, 0, nI 0), some (1, 0, 39, 0, nI 5), some (0, 3, 40, 0, 0), some (14, 2, 43, 3, 0), none, none, some (0, 3, 44, 0, 0), some (6, 1, 47, 70, 0), none, none, some (26, 0, 48, 0, 0)], [some (8, 1, 51, 0, 0), none, none, some (26, 0, 52, 0, 0), some (14, 37, 55, 16, 0), none, none, some (1, 0, 56, 0, -1), some (14, 8, 59, 2, 0), none, none, some (26, 0, 60, 0, 0), some (8, 1, 63, 0, 0), none, none, some (1, 0, 64, 0, nI 0)], [some (1, 0, 66, 0, nI 6), none, some (1, 0, 67, 0, nI 0), some (14, 2, 70, 3, 0), none, none, some (26, 0, 71, 0, 0), some (14, 33, 74, 16, 0), none, none, some (17, 0, 0, 0, 0)]]
def tb_X1_closeListGap : List (List (Option Op)) := [[some (26, 0, 1, 0, 0), some (14, 37, 4, 16, 0), none, none, some (3, 2, 5, 0, 0), some (1, 0, 6, 0, nI 2), some (26, 0, 7, 0, 0), some (14, 36, 10, 16, 0), none, none, some (2, 2, 11, 0, 0), some (1, 0, 12, 0, nI 2), some (2, 1, 13, 0, 0), some (3, 3, 14, 0, 0), some (1, 0, 15, 0, nI 2), some (0, 1, 16, 0, 0)], [some (2, 2, 17, 0, 0), some (3, 4, 19, 0, 0), none, some (0, 4, 21, 0, 0), none, some (0, 3, 22, 0, 0), some (5, 3, 25, 53, 0), none, none, some (26, 0, 26, 0, 0), some (8, 1, 29, 0, 0), none, none, some (0, 2, 30, 0, 0), some (0, 4, 32, 0, 0), none], [some (26, 0, 33, 0, 0), some (8, 1, 36, 0, 0), none, none, some (0, 2, 37, 0, 0), some (0, 4, 39, 0, 0), none, some (1, 0, 40, 0, nI 2), some (2, 0, 41, 0, 0), some (14, 1, 44, 2, 0), none, none, some (14, 2, 47, 3, 0), none, none, some (4, 4, 50, 0, nI 1)], [none, none, some (7, 0, 19, 0, 0), none, none, some (26, 0, 54, 0, 0), some (8, 1, 57, 0, 0), none, none, some (0, 2, 58, 0, 0), some (0, 3, 59, 0, 0), some (1, 0, 60, 0, nI 0), some (14, 2, 63, 3, 0), none, none, some (26, 0, 64, 0, 0)], [some (8, 1, 67, 0, 0), none, none, some (0, 2, 68, 0, 0), some (0, 3, 69, 0, 0), some (1, 0, 70, 0, nI 1), some (2, 0, 71, 0, 0), some (1, 0, 72, 0, nI 0), some (14, 2, 75, 3, 0), none, none, some (17, 0, 0, 0, 0)]]
def tb_X1_countTable : List (List (Option Op)) := [[some (1, 0, 1, 0, nI 0), some (3, 3, 2, 0, 0), some (0, 3, 3, 0, 0), some (1, 0, 5, 0, nI 8), none, some (5, 3, 8, 43, 0), none, none, some (26, 0, 9, 0, 0), some (8, 1, 12, 0, 0), none, none, some (0, 1, 13, 0, 0), some (0, 3, 14, 0, 0), some (14, 1, 17, 2, 0), none], [none, some (3, 4, 19, 0, 0), none, some (0, 4, 21, 0, 0), none, some (16, 83, 24, 49, 0), none, none, some (6, 0, 27, 37, 0), none, none, some (26, 0, 28, 0, 0), some (0, 4, 30, 0, 0), none, some (16, 84, 33, 49, 0), none], [none, some (0, 2, 34, 0, 0), some (14, 45, 37, 18, 0), none, none, some (4, 3, 40, 0, nI 1), none, none, some (7, 0, 2, 0, 0), none, none, some (17, 0, 0, 0, 0)]]
def tb_X1_countLeaf : List (List (Option Op)) := [[some (1, 0, 1, 0, nI 0), some (3, 3, 2, 0, 0), some (0, 3, 3, 0, 0), some (1, 0, 5, 0, nI 8), none, some (5, 3, 8, 46, 0), none, none, some (26, 0, 9, 0, 0), some (8, 1, 12, 0, 0), none, none, some (0, 1, 13, 0, 0), some (0, 3, 14, 0, 0), some (14, 1, 17, 2, 0), none], [none, some (3, 4, 19, 0, 0), none, some (0, 4, 21, 0, 0), none, some (16, 83, 24, 49, 0), none, none, some (6, 0, 27, 40, 0), none, none, some (26, 0, 28, 0, 0), some (8, 1, 31, 0, 0), none, none, some (0, 4, 33, 0, 0)], [none, some (16, 84, 36, 49, 0), none, none, some (0, 2, 37, 0, 0), some (14, 8, 40, 2, 0), none, none, some (4, 3, 43, 0, nI 1), none, none, some (7, 0, 2, 0, 0), none, none, some (26, 0, 47, 0, 0), some (8, 1, 50, 0, 0)], [none, none, some (0, 1, 51, 0, 0), some (0, 2, 52, 0, 0), some (14, 8, 55, 2, 0), none, none, some (17, 0, 0, 0, 0)]]
def tb_X1_takeIn : List (List (Option Op)) := [[some (26, 0, 1, 0, 0), some (8, 1, 4, 0, 0), none, none, some (14, 10, 7, 0, 0), none, none, some (26, 0, 8, 0, 0), some (26, 1, 9, 0, 0), some (14, 47, 12, 17, 0), none, none, some (5, 3, 15, 18, 0), none, none, some (1, 0, 17, 0, -2)], [none, some (13, 0, 0, 0, 0), some (26, 0, 19, 0, 0), some (8, 1, 22, 0, 0), none, none, some (1, 0, 23, 0, nI 0), some (1, 0, 24, 0, nI 2), some (26, 1, 25, 0, 0), some (14, 14, 28, 16, 0), none, none, some (14, 2, 31, 3, 0), none, none, some (1, 0, 32, 0, nI 0)], [some (3, 2, 33, 0, 0), some (1, 0, 34, 0, nI 0), some (3, 3, 35, 0, 0), some (0, 3, 36, 0, 0), some (1, 0, 38, 0, nI 64), none, some (5, 3, 41, 128, 0), none, none, some (26, 1, 42, 0, 0), some (0, 3, 43, 0, 0), some (14, 20, 46, 17, 0), none, none, some (3, 4, 48, 0, 0), none], [some (0, 4, 50, 0, 0), none, some (16, 83, 53, 49, 0), none, none, some (6, 0, 56, 85, 0), none, none, some (26, 0, 57, 0, 0), some (0, 3, 58, 0, 0), some (14, 31, 61, 17, 0), none, none, some (26, 0, 62, 0, 0), some (8, 1, 65, 0, 0), none], [none, some (26, 1, 66, 0, 0), some (8, 1, 69, 0, 0), none, none, some (0, 4, 71, 0, 0), none, some (16, 84, 74, 49, 0), none, none, some (26, 0, 75, 0, 0), some (0, 3, 76, 0, 0), some (14, 32, 79, 17, 0), none, none, some (14, 4, 82, 3, 0)], [none, none, some (7, 0, 109, 0, 0), none, none, some (0, 4, 87, 0, 0), none, some (1, 0, 88, 0, nI 2), some (5, 1, 91, 109, 0), none, none, some (26, 0, 92, 0, 0), some (0, 3, 93, 0, 0), some (14, 25, 96, 17, 0), none, none], [some (6, 0, 99, 109, 0), none, none, some (26, 0, 100, 0, 0), some (0, 3, 101, 0, 0), some (14, 31, 104, 17, 0), none, none, some (26, 0, 105, 0, 0), some (0, 3, 106, 0, 0), some (14, 26, 109, 17, 0), none, none, some (0, 2, 110, 0, 0), some (0, 4, 112, 0, 0), none], [some (6, 1, 115, 119, 0), none, none, some (1, 0, 116, 0, nI 0), some (7, 0, 120, 0, 0), none, none, some (1, 0, 120, 0, nI 1), some (2, 0, 121, 0, 0), some (3, 2, 122, 0, 0), some (4, 3, 125, 0, nI 1), none, none, some (7, 0, 35, 0, 0), none, none], [some (26, 0, 129, 0, 0), some (14, 33, 132, 16, 0), none, none, some (0, 2, 133, 0, 0), some (13, 0, 0, 0, 0)]]
def tb_X1_takingsFor : List (List (Option Op)) := [[some (1, 0, 1, 0, nI 0), some (3, 2, 2, 0, 0), some (1, 0, 3, 0, -1), some (3, 3, 4, 0, 0), some (1, 0, 5, 0, nI 0), some (3, 4, 7, 0, 0), none, some (0, 4, 9, 0, 0), none, some (1, 0, 11, 0, nI 64), none, some (5, 3, 14, 104, 0), none, none, some (26, 1, 15, 0, 0), some (0, 4, 17, 0, 0)], [none, some (14, 20, 20, 17, 0), none, none, some (3, 5, 22, 0, 0), none, some (0, 5, 24, 0, 0), none, some (16, 83, 27, 49, 0), none, none, some (6, 0, 30, 39, 0), none, none, some (0, 2, 31, 0, 0), some (26, 0, 32, 0, 0)], [some (0, 4, 34, 0, 0), none, some (14, 30, 37, 17, 0), none, none, some (2, 0, 38, 0, 0), some (3, 2, 39, 0, 0), some (0, 5, 41, 0, 0), none, some (16, 83, 44, 49, 0), none, none, some (6, 1, 47, 62, 0), none, none, some (0, 5, 49, 0, 0)], [none, some (1, 0, 50, 0, nI 2), some (5, 1, 53, 66, 0), none, none, some (26, 0, 54, 0, 0), some (0, 4, 56, 0, 0), none, some (14, 25, 59, 17, 0), none, none, some (6, 0, 62, 66, 0), none, none, some (1, 0, 63, 0, nI 1), some (7, 0, 67, 0, 0)], [none, none, some (1, 0, 67, 0, nI 0), some (3, 6, 69, 0, 0), none, some (0, 6, 71, 0, 0), none, some (6, 0, 74, 98, 0), none, none, some (0, 3, 75, 0, 0), some (0, 4, 77, 0, 0), none, some (1, 0, 79, 0, nI 8), none, some (2, 5, 80, 0, 0)], [some (5, 0, 83, 98, 0), none, none, some (0, 2, 84, 0, 0), some (26, 0, 85, 0, 0), some (0, 4, 87, 0, 0), none, some (14, 29, 90, 17, 0), none, none, some (2, 0, 91, 0, 0), some (3, 2, 92, 0, 0), some (0, 4, 94, 0, 0), none, some (1, 0, 96, 0, nI 8), none], [some (2, 5, 97, 0, 0), some (3, 3, 98, 0, 0), some (4, 4, 101, 0, nI 1), none, none, some (7, 0, 7, 0, 0), none, none, some (0, 2, 105, 0, 0), some (13, 0, 0, 0, 0)]]
def tb_X2_init : List (List (Option Op)) := []
def tb_X2_firstWrong : List (List (Option Op)) := [[some (26, 1, 1, 0, 0), some (15, 50, 4, 33, 0), none, none, some (6, 1, 7, 9, 0), none, none, some (1, 0, 8, 0, nI 1), some (13, 0, 0, 0, 0), some (26, 0, 10, 0, 0), some (26, 1, 11, 0, 0), some (14, 51, 14, 33, 0), none, none, some (6, 1, 17, 19, 0), none], [none, some (1, 0, 18, 0, nI 2), some (13, 0, 0, 0, 0), some (26, 1, 20, 0, 0), some (15, 59, 23, 33, 0), none, none, some (6, 1, 26, 28, 0), none, none, some (1, 0, 27, 0, nI 3), some (13, 0, 0, 0, 0), some (26, 0, 29, 0, 0), some (26, 1, 30, 0, 0), some (14, 60, 33, 33, 0), none], [none, some (6, 1, 36, 38, 0), none, none, some (1, 0, 37, 0, nI 4), some (13, 0, 0, 0, 0), some (26, 0, 39, 0, 0), some (26, 1, 40, 0, 0), some (14, 61, 43, 33, 0), none, none, some (6, 1, 46, 48, 0), none, none, some (1, 0, 47, 0, nI 5), some (13, 0, 0, 0, 0)], [some (26, 0, 49, 0, 0), some (26, 1, 50, 0, 0), some (14, 64, 53, 33, 0), none, none, some (6, 0, 56, 60, 0), none, none, some (1, 0, 57, 0, nI 0), some (7, 0, 62, 0, 0), none, none, some (1, 0, 62, 0, nI 6), none, some (13, 0, 0, 0, 0)]]
def tb_X2_isHeaderRight : List (List (Option Op)) := [[some (26, 0, 1, 0, 0), some (1, 0, 2, 0, nI 0), some (1, 0, 3, 0, nI 2), some (14, 1, 6, 2, 0), none, none, some (3, 1, 7, 0, 0), some (26, 0, 8, 0, 0), some (1, 0, 9, 0, nI 0), some (1, 0, 10, 0, nI 5), some (14, 1, 13, 2, 0), none, none, some (3, 2, 14, 0, 0), some (26, 0, 15, 0, 0), some (1, 0, 16, 0, nI 0)], [some (1, 0, 17, 0, nI 0), some (14, 1, 20, 2, 0), none, none, some (1, 0, 23, 0, nI 7001), none, none, some (5, 1, 26, 97, 0), none, none, some (26, 0, 27, 0, 0), some (1, 0, 28, 0, nI 0), some (1, 0, 29, 0, nI 1), some (14, 1, 32, 2, 0), none, none], [some (1, 0, 33, 0, nI 1), some (5, 1, 36, 97, 0), none, none, some (0, 1, 37, 0, 0), some (1, 0, 38, 0, nI 1), some (5, 2, 41, 97, 0), none, none, some (0, 1, 42, 0, 0), some (1, 0, 44, 0, nI 64), none, some (5, 4, 47, 97, 0), none, none, some (0, 2, 48, 0, 0)], [some (6, 2, 51, 97, 0), none, none, some (0, 2, 52, 0, 0), some (1, 0, 53, 0, nI 4), some (5, 4, 56, 97, 0), none, none, some (26, 0, 57, 0, 0), some (1, 0, 58, 0, nI 0), some (1, 0, 60, 0, nI 7), none, some (14, 1, 63, 2, 0), none, none, some (6, 1, 66, 97, 0)], [none, none, some (26, 0, 67, 0, 0), some (1, 0, 68, 0, nI 0), some (1, 0, 70, 0, nI 6), none, some (14, 1, 73, 2, 0), none, none, some (6, 1, 76, 80, 0), none, none, some (1, 0, 77, 0, nI 1), some (7, 0, 81, 0, 0), none, none], [some (1, 0, 81, 0, nI 0), some (0, 2, 82, 0, 0), some (6, 1, 85, 89, 0), none, none, some (1, 0, 86, 0, nI 1), some (7, 0, 90, 0, 0), none, none, some (1, 0, 90, 0, nI 0), some (5, 1, 93, 97, 0), none, none, some (1, 0, 94, 0, nI 1), some (7, 0, 98, 0, 0), none], [none, some (1, 0, 98, 0, nI 0), some (13, 1, 0, 0, 0)]]
def tb_X2_areLeadsRight : List (List (Option Op)) := [[some (1, 0, 1, 0, nI 0), some (3, 2, 2, 0, 0), some (0, 2, 3, 0, 0), some (1, 0, 5, 0, nI 64), none, some (5, 3, 8, 28, 0), none, none, some (26, 0, 9, 0, 0), some (8, 2, 12, 0, 0), none, none, some (0, 2, 13, 0, 0), some (1, 0, 14, 0, nI 0), some (11, 0, 15, 0, 0), some (26, 0, 16, 0, 0)], [some (8, 2, 19, 1, 0), none, none, some (0, 2, 20, 0, 0), some (1, 0, 21, 0, nI 0), some (11, 0, 22, 0, 0), some (4, 2, 25, 0, nI 1), none, none, some (7, 0, 2, 0, 0), none, none, some (26, 0, 29, 0, 0), some (8, 2, 32, 1, 0), none, none], [some (1, 0, 33, 0, nI 0), some (1, 0, 34, 0, nI 1), some (11, 0, 35, 0, 0), some (26, 0, 36, 0, 0), some (26, 1, 37, 0, 0), some (14, 53, 40, 33, 0), none, none, some (6, 0, 43, 77, 0), none, none, some (26, 0, 44, 0, 0), some (26, 1, 45, 0, 0), some (14, 54, 48, 33, 0), none, none], [some (6, 0, 51, 77, 0), none, none, some (26, 0, 52, 0, 0), some (26, 1, 53, 0, 0), some (14, 55, 56, 33, 0), none, none, some (6, 0, 59, 77, 0), none, none, some (26, 0, 60, 0, 0), some (26, 1, 61, 0, 0), some (26, 1, 62, 0, 0), some (1, 0, 63, 0, nI 0), some (1, 0, 64, 0, nI 3)], [some (14, 1, 67, 2, 0), none, none, some (14, 56, 70, 34, 0), none, none, some (6, 0, 73, 77, 0), none, none, some (1, 0, 74, 0, nI 1), some (7, 0, 78, 0, 0), none, none, some (1, 0, 78, 0, nI 0), some (13, 1, 0, 0, 0)]]
def tb_X2_claim : List (List (Option Op)) := [[some (0, 1, 1, 0, 0), some (1, 0, 2, 0, nI 1), some (5, 2, 5, 11, 0), none, none, some (0, 1, 6, 0, 0), some (1, 0, 8, 0, nI 63), none, some (5, 5, 11, 13, 0), none, none, some (1, 0, 12, 0, nI 0), some (13, 1, 0, 0, 0), some (26, 0, 14, 0, 0), some (8, 2, 17, 0, 0), none], [none, some (0, 1, 18, 0, 0), some (10, 0, 19, 0, 0), some (6, 0, 22, 34, 0), none, none, some (26, 0, 23, 0, 0), some (8, 2, 26, 0, 0), none, none, some (0, 1, 27, 0, 0), some (10, 0, 28, 0, 0), some (0, 2, 29, 0, 0), some (5, 0, 32, 34, 0), none, none], [some (1, 0, 33, 0, nI 0), some (13, 1, 0, 0, 0), some (26, 0, 35, 0, 0), some (8, 2, 38, 0, 0), none, none, some (0, 1, 39, 0, 0), some (0, 2, 40, 0, 0), some (11, 0, 41, 0, 0), some (26, 0, 42, 0, 0), some (8, 2, 45, 1, 0), none, none, some (0, 1, 46, 0, 0), some (19, 0, 47, 0, 0), some (10, 0, 48, 0, 0)], [some (1, 0, 49, 0, nI 1), some (2, 0, 50, 0, 0), some (11, 0, 51, 0, 0), some (1, 0, 52, 0, nI 1), some (13, 1, 0, 0, 0)]]
def tb_X2_areHeaderLeadsRight : List (List (Option Op)) := [[some (26, 1, 1, 0, 0), some (1, 0, 2, 0, nI 0), some (1, 0, 4, 0, nI 6), none, some (14, 1, 7, 2, 0), none, none, some (3, 2, 8, 0, 0), some (26, 0, 9, 0, 0), some (26, 1, 10, 0, 0), some (1, 0, 11, 0, nI 0), some (1, 0, 12, 0, nI 3), some (14, 1, 15, 2, 0), none, none, some (1, 0, 16, 0, nI 1)], [some (14, 52, 19, 34, 0), none, none, some (6, 0, 22, 53, 0), none, none, some (26, 0, 23, 0, 0), some (26, 1, 24, 0, 0), some (1, 0, 25, 0, nI 0), some (1, 0, 26, 0, nI 4), some (14, 1, 29, 2, 0), none, none, some (1, 0, 30, 0, nI 2), some (14, 52, 33, 34, 0), none], [none, some (6, 0, 36, 53, 0), none, none, some (0, 2, 37, 0, 0), some (6, 0, 40, 49, 0), none, none, some (26, 0, 41, 0, 0), some (0, 2, 42, 0, 0), some (1, 0, 43, 0, nI 3), some (14, 52, 46, 34, 0), none, none, some (6, 0, 49, 53, 0), none], [none, some (1, 0, 50, 0, nI 1), some (7, 0, 54, 0, 0), none, none, some (1, 0, 54, 0, nI 0), some (13, 1, 0, 0, 0)]]
def tb_X2_areCountLeadsRight : List (List (Option Op)) := [[some (1, 0, 1, 0, nI 0), some (3, 2, 2, 0, 0), some (0, 2, 3, 0, 0), some (1, 0, 5, 0, nI 8), none, some (5, 3, 8, 44, 0), none, none, some (26, 1, 9, 0, 0), some (26, 1, 10, 0, 0), some (1, 0, 11, 0, nI 0), some (1, 0, 12, 0, nI 4), some (14, 1, 15, 2, 0), none, none, some (0, 2, 16, 0, 0)], [some (14, 1, 19, 2, 0), none, none, some (3, 3, 20, 0, 0), some (0, 3, 21, 0, 0), some (6, 0, 24, 38, 0), none, none, some (26, 0, 25, 0, 0), some (0, 3, 26, 0, 0), some (1, 0, 28, 0, nI 16), none, some (0, 2, 29, 0, 0), some (2, 0, 30, 0, 0), some (14, 52, 33, 34, 0), none], [none, some (6, 1, 36, 38, 0), none, none, some (1, 0, 37, 0, nI 0), some (13, 1, 0, 0, 0), some (4, 2, 41, 0, nI 1), none, none, some (7, 0, 2, 0, 0), none, none, some (1, 0, 45, 0, nI 1), some (13, 1, 0, 0, 0)]]
def tb_X2_areListLeadsRight : List (List (Option Op)) := [[some (26, 1, 1, 0, 0), some (1, 0, 2, 0, nI 0), some (1, 0, 4, 0, nI 6), none, some (14, 1, 7, 2, 0), none, none, some (3, 2, 8, 0, 0), some (26, 1, 9, 0, 0), some (1, 0, 10, 0, nI 0), some (1, 0, 11, 0, nI 5), some (14, 1, 14, 2, 0), none, none, some (3, 3, 15, 0, 0), some (1, 0, 16, 0, nI 0)], [some (3, 4, 18, 0, 0), none, some (0, 4, 20, 0, 0), none, some (0, 3, 21, 0, 0), some (5, 3, 24, 66, 0), none, none, some (26, 1, 25, 0, 0), some (0, 2, 26, 0, 0), some (1, 0, 27, 0, nI 2), some (0, 4, 29, 0, 0), none, some (2, 2, 30, 0, 0), some (14, 1, 33, 2, 0), none], [none, some (3, 5, 35, 0, 0), none, some (26, 0, 36, 0, 0), some (0, 5, 38, 0, 0), none, some (1, 0, 39, 0, nI 4), some (0, 4, 41, 0, 0), none, some (2, 0, 42, 0, 0), some (14, 52, 45, 34, 0), none, none, some (6, 0, 48, 58, 0), none, none], [some (26, 0, 49, 0, 0), some (26, 1, 50, 0, 0), some (0, 5, 52, 0, 0), none, some (14, 56, 55, 34, 0), none, none, some (6, 1, 58, 60, 0), none, none, some (1, 0, 59, 0, nI 0), some (13, 1, 0, 0, 0), some (4, 4, 63, 0, nI 1), none, none, some (7, 0, 18, 0, 0)], [none, none, some (1, 0, 67, 0, nI 1), some (13, 1, 0, 0, 0)]]
def tb_X2_areTableLeadsRight : List (List (Option Op)) := [[some (1, 0, 1, 0, nI 0), some (3, 3, 2, 0, 0), some (0, 3, 3, 0, 0), some (1, 0, 5, 0, nI 8), none, some (5, 3, 8, 78, 0), none, none, some (26, 1, 9, 0, 0), some (0, 2, 10, 0, 0), some (0, 3, 11, 0, 0), some (14, 1, 14, 2, 0), none, none, some (3, 4, 16, 0, 0), none], [some (0, 4, 18, 0, 0), none, some (6, 1, 21, 24, 0), none, none, some (7, 0, 72, 0, 0), none, none, some (1, 0, 26, 0, nI 8), none, some (0, 3, 27, 0, 0), some (2, 2, 28, 0, 0), some (26, 1, 29, 0, 0), some (1, 0, 30, 0, nI 0), some (1, 0, 31, 0, nI 2), some (14, 1, 34, 2, 0)], [none, none, some (5, 3, 37, 70, 0), none, none, some (26, 0, 38, 0, 0), some (0, 4, 40, 0, 0), none, some (15, 58, 43, 33, 0), none, none, some (1, 0, 45, 0, nI 8), none, some (0, 3, 46, 0, 0), some (2, 0, 47, 0, 0), some (14, 52, 50, 34, 0)], [none, none, some (6, 0, 53, 70, 0), none, none, some (26, 0, 54, 0, 0), some (26, 1, 55, 0, 0), some (0, 4, 57, 0, 0), none, some (16, 84, 60, 49, 0), none, none, some (1, 0, 62, 0, nI 8), none, some (0, 3, 63, 0, 0), some (2, 2, 64, 0, 0)], [some (14, 57, 67, 35, 0), none, none, some (6, 1, 70, 72, 0), none, none, some (1, 0, 71, 0, nI 0), some (13, 1, 0, 0, 0), some (4, 3, 75, 0, nI 1), none, none, some (7, 0, 2, 0, 0), none, none, some (1, 0, 79, 0, nI 1), some (13, 1, 0, 0, 0)]]
def tb_X2_areLeafLeadsRight : List (List (Option Op)) := [[some (1, 0, 1, 0, nI 0), some (3, 4, 3, 0, 0), none, some (0, 4, 5, 0, 0), none, some (1, 0, 7, 0, nI 8), none, some (5, 3, 10, 75, 0), none, none, some (26, 1, 11, 0, 0), some (0, 2, 12, 0, 0), some (0, 4, 14, 0, 0), none, some (14, 1, 17, 2, 0), none], [none, some (3, 5, 19, 0, 0), none, some (0, 5, 21, 0, 0), none, some (6, 1, 24, 27, 0), none, none, some (7, 0, 69, 0, 0), none, none, some (0, 3, 28, 0, 0), some (0, 4, 30, 0, 0), none, some (2, 0, 31, 0, 0), some (26, 1, 32, 0, 0)], [some (1, 0, 33, 0, nI 0), some (1, 0, 34, 0, nI 2), some (14, 1, 37, 2, 0), none, none, some (5, 2, 40, 42, 0), none, none, some (1, 0, 41, 0, nI 0), some (13, 1, 0, 0, 0), some (0, 5, 44, 0, 0), none, some (1, 0, 45, 0, nI 2), some (5, 0, 48, 69, 0), none, none], [some (26, 0, 49, 0, 0), some (0, 5, 51, 0, 0), none, some (15, 58, 54, 33, 0), none, none, some (1, 0, 56, 0, nI 24), none, some (0, 3, 57, 0, 0), some (2, 0, 58, 0, 0), some (0, 4, 60, 0, 0), none, some (2, 0, 61, 0, 0), some (14, 52, 64, 34, 0), none, none], [some (6, 1, 67, 69, 0), none, none, some (1, 0, 68, 0, nI 0), some (13, 1, 0, 0, 0), some (4, 4, 72, 0, nI 1), none, none, some (7, 0, 3, 0, 0), none, none, some (1, 0, 76, 0, nI 1), some (13, 1, 0, 0, 0)]]
def tb_X2_clusterLedTo : List (List (Option Op)) := [[some (0, 0, 1, 0, 0), some (1, 0, 2, 0, nI 2), some (2, 3, 3, 0, 0), some (6, 1, 6, 13, 0), none, none, some (0, 0, 7, 0, 0), some (16, 84, 10, 49, 0), none, none, some (7, 0, 14, 0, 0), none, none, some (1, 0, 14, 0, nI 0), some (13, 0, 0, 0, 0)]]
def tb_X2_isListRight : List (List (Option Op)) := [[some (26, 0, 1, 0, 0), some (1, 0, 2, 0, nI 0), some (1, 0, 4, 0, nI 6), none, some (14, 1, 7, 2, 0), none, none, some (3, 1, 8, 0, 0), some (1, 0, 9, 0, nI 2), some (26, 0, 10, 0, 0), some (1, 0, 11, 0, nI 0), some (1, 0, 12, 0, nI 5), some (14, 1, 15, 2, 0), none, none, some (2, 2, 16, 0, 0)], [some (3, 2, 17, 0, 0), some (1, 0, 18, 0, nI 1), some (3, 3, 19, 0, 0), some (0, 3, 20, 0, 0), some (0, 2, 21, 0, 0), some (5, 3, 24, 63, 0), none, none, some (1, 0, 25, 0, nI 1), some (3, 4, 27, 0, 0), none, some (0, 4, 29, 0, 0), none, some (0, 3, 30, 0, 0), some (5, 3, 33, 57, 0), none], [none, some (26, 0, 34, 0, 0), some (0, 1, 35, 0, 0), some (0, 3, 36, 0, 0), some (14, 1, 39, 2, 0), none, none, some (26, 0, 40, 0, 0), some (0, 1, 41, 0, 0), some (0, 4, 43, 0, 0), none, some (14, 1, 46, 2, 0), none, none, some (5, 1, 49, 51, 0), none], [none, some (1, 0, 50, 0, nI 0), some (13, 1, 0, 0, 0), some (4, 4, 54, 0, nI 2), none, none, some (7, 0, 27, 0, 0), none, none, some (4, 3, 60, 0, nI 2), none, none, some (7, 0, 19, 0, 0), none, none, some (0, 2, 64, 0, 0)], [some (6, 0, 67, 76, 0), none, none, some (26, 0, 68, 0, 0), some (0, 1, 69, 0, 0), some (0, 2, 70, 0, 0), some (14, 5, 73, 2, 0), none, none, some (6, 0, 76, 80, 0), none, none, some (1, 0, 77, 0, nI 1), some (7, 0, 81, 0, 0), none, none], [some (1, 0, 81, 0, nI 0), some (13, 1, 0, 0, 0)]]
def tb_X2_areCountsRight : List (List (Option Op)) := [[some (1, 0, 1, 0, nI 0), some (3, 2, 2, 0, 0), some (0, 2, 3, 0, 0), some (1, 0, 5, 0, nI 64), none, some (5, 3, 8, 30, 0), none, none, some (26, 1, 9, 0, 0), some (0, 2, 10, 0, 0), some (14, 7, 13, 1, 0), none, none, some (26, 0, 14, 0, 0), some (8, 2, 17, 1, 0), none], [none, some (0, 2, 18, 0, 0), some (10, 0, 19, 0, 0), some (5, 0, 22, 24, 0), none, none, some (1, 0, 23, 0, nI 0), some (13, 1, 0, 0, 0), some (4, 2, 27, 0, nI 1), none, none, some (7, 0, 2, 0, 0), none, none, some (1, 0, 31, 0, nI 1), some (13, 1, 0, 0, 0)]]
def tb_X2_areFlagsRight : List (List (Option Op)) := [[some (1, 0, 1, 0, nI 0), some (3, 2, 2, 0, 0), some (0, 2, 3, 0, 0), some (1, 0, 5, 0, nI 64), none, some (5, 3, 8, 37, 0), none, none, some (26, 0, 9, 0, 0), some (8, 2, 12, 0, 0), none, none, some (0, 2, 13, 0, 0), some (10, 0, 14, 0, 0), some (15, 62, 17, 33, 0), none], [none, some (6, 0, 20, 31, 0), none, none, some (26, 0, 21, 0, 0), some (26, 1, 22, 0, 0), some (0, 2, 23, 0, 0), some (14, 63, 26, 34, 0), none, none, some (6, 1, 29, 31, 0), none, none, some (1, 0, 30, 0, nI 0), some (13, 1, 0, 0, 0), some (4, 2, 34, 0, nI 1)], [none, none, some (7, 0, 2, 0, 0), none, none, some (1, 0, 38, 0, nI 1), some (13, 1, 0, 0, 0)]]
def tb_X2_hasFlags : List (List (Option Op)) := [[some (0, 0, 1, 0, 0), some (1, 0, 2, 0, nI 1), some (5, 0, 5, 16, 0), none, none, some (0, 0, 6, 0, 0), some (1, 0, 7, 0, nI 4), some (5, 2, 10, 20, 0), none, none, some (0, 0, 11, 0, 0), some (1, 0, 13, 0, nI 16), none, some (5, 3, 16, 20, 0), none, none], [some (1, 0, 17, 0, nI 1), some (7, 0, 21, 0, 0), none, none, some (1, 0, 21, 0, nI 0), some (13, 1, 0, 0, 0)]]
def tb_X2_areFlagsRightIn : List (List (Option Op)) := [[some (1, 0, 1, 0, nI 0), some (3, 3, 2, 0, 0), some (0, 3, 3, 0, 0), some (1, 0, 5, 0, nI 8), none, some (5, 3, 8, 71, 0), none, none, some (26, 1, 9, 0, 0), some (0, 2, 10, 0, 0), some (0, 3, 11, 0, 0), some (14, 1, 14, 2, 0), none, none, some (3, 4, 16, 0, 0), none], [some (0, 4, 18, 0, 0), none, some (16, 83, 21, 49, 0), none, none, some (6, 0, 24, 65, 0), none, none, some (26, 0, 25, 0, 0), some (8, 2, 28, 1, 0), none, none, some (0, 4, 30, 0, 0), none, some (16, 84, 33, 49, 0), none], [none, some (1, 0, 35, 0, nI 63), none, some (2, 3, 36, 0, 0), some (10, 0, 37, 0, 0), some (1, 0, 38, 0, nI 1), some (5, 1, 41, 45, 0), none, none, some (1, 0, 42, 0, nI 1), some (7, 0, 46, 0, 0), none, none, some (1, 0, 46, 0, nI 0), some (3, 5, 48, 0, 0), none], [some (0, 4, 50, 0, 0), none, some (0, 4, 52, 0, 0), none, some (16, 84, 55, 49, 0), none, none, some (0, 5, 57, 0, 0), none, some (16, 85, 60, 50, 0), none, none, some (5, 0, 63, 65, 0), none, none, some (1, 0, 64, 0, nI 0)], [some (13, 1, 0, 0, 0), some (4, 3, 68, 0, nI 1), none, none, some (7, 0, 2, 0, 0), none, none, some (1, 0, 72, 0, nI 1), some (13, 1, 0, 0, 0)]]
def tb_X2_areOthersBlank : List (List (Option Op)) := [[some (1, 0, 1, 0, nI 1), some (3, 2, 2, 0, 0), some (0, 2, 3, 0, 0), some (1, 0, 5, 0, nI 64), none, some (5, 3, 8, 34, 0), none, none, some (26, 0, 9, 0, 0), some (8, 2, 12, 0, 0), none, none, some (0, 2, 13, 0, 0), some (10, 0, 14, 0, 0), some (6, 1, 17, 28, 0), none], [none, some (26, 1, 18, 0, 0), some (0, 2, 19, 0, 0), some (1, 0, 20, 0, nI 0), some (14, 5, 23, 2, 0), none, none, some (6, 1, 26, 28, 0), none, none, some (1, 0, 27, 0, nI 0), some (13, 1, 0, 0, 0), some (4, 2, 31, 0, nI 1), none, none, some (7, 0, 2, 0, 0)], [none, none, some (1, 0, 35, 0, nI 1), some (13, 1, 0, 0, 0)]]
def tb_X3_init : List (List (Option Op)) := []
def tb_X3_write : List (List (Option Op)) := [[some (26, 0, 1, 0, 0), some (14, 82, 4, 48, 0), none, none, some (0, 1, 5, 0, 0), some (14, 16, 8, 17, 0), none, none, some (6, 0, 11, 23, 0), none, none, some (26, 0, 12, 0, 0), some (14, 82, 15, 48, 0), none, none, some (0, 1, 16, 0, 0)], [some (0, 2, 17, 0, 0), some (14, 23, 20, 18, 0), none, none, some (7, 0, 24, 0, 0), none, none, some (1, 0, 24, 0, -1), some (13, 0, 0, 0, 0)]]
def tb_X3_read : List (List (Option Op)) := [[some (26, 0, 1, 0, 0), some (14, 82, 4, 48, 0), none, none, some (27, 2, 5, 0, 0), some (26, 2, 6, 0, 0), some (0, 1, 7, 0, 0), some (14, 16, 10, 17, 0), none, none, some (6, 0, 13, 25, 0), none, none, some (26, 2, 14, 0, 0), some (26, 2, 15, 0, 0), some (14, 17, 18, 16, 0)], [none, none, some (0, 1, 19, 0, 0), some (14, 22, 22, 18, 0), none, none, some (7, 0, 26, 0, 0), none, none, some (1, 0, 26, 0, nI 0), some (13, 0, 0, 0, 0)]]
def tb_X3_discard : List (List (Option Op)) := [[some (26, 0, 1, 0, 0), some (14, 82, 4, 48, 0), none, none, some (0, 1, 5, 0, 0), some (14, 15, 8, 17, 0), none, none, some (6, 0, 11, 22, 0), none, none, some (26, 0, 12, 0, 0), some (14, 82, 15, 48, 0), none, none, some (0, 1, 16, 0, 0)], [some (14, 24, 19, 17, 0), none, none, some (7, 0, 23, 0, 0), none, none, some (1, 0, 23, 0, -1), some (13, 0, 0, 0, 0)]]
def tb_X3_snapshot : List (List (Option Op)) := [[some (26, 0, 1, 0, 0), some (14, 82, 4, 48, 0), none, none, some (0, 1, 5, 0, 0), some (14, 40, 8, 17, 0), none, none, some (13, 0, 0, 0, 0)]]
def tb_X3_revert : List (List (Option Op)) := [[some (26, 0, 1, 0, 0), some (14, 82, 4, 48, 0), none, none, some (0, 1, 5, 0, 0), some (14, 39, 8, 17, 0), none, none, some (3, 2, 9, 0, 0), some (0, 2, 10, 0, 0), some (6, 3, 13, 15, 0), none, none, some (1, 0, 14, 0, -1), some (13, 0, 0, 0, 0), some (26, 0, 16, 0, 0)], [some (14, 82, 19, 48, 0), none, none, some (0, 2, 20, 0, 0), some (14, 41, 23, 17, 0), none, none, some (1, 0, 24, 0, nI 0), some (13, 0, 0, 0, 0)]]
def tb_X3_delete : List (List (Option Op)) := [[some (26, 0, 1, 0, 0), some (14, 82, 4, 48, 0), none, none, some (0, 1, 5, 0, 0), some (14, 39, 8, 17, 0), none, none, some (3, 2, 9, 0, 0), some (0, 2, 10, 0, 0), some (6, 3, 13, 15, 0), none, none, some (1, 0, 14, 0, -1), some (13, 0, 0, 0, 0), some (26, 0, 16, 0, 0)], [some (14, 82, 19, 48, 0), none, none, some (0, 2, 20, 0, 0), some (14, 42, 23, 17, 0), none, none, some (1, 0, 24, 0, nI 0), some (13, 0, 0, 0, 0)]]
def tb_X3_readOld : List (List (Option Op)) := [[some (26, 0, 1, 0, 0), some (14, 82, 4, 48, 0), none, none, some (27, 3, 5, 0, 0), some (26, 3, 6, 0, 0), some (0, 1, 7, 0, 0), some (14, 39, 10, 17, 0), none, none, some (3, 4, 12, 0, 0), none, some (0, 4, 14, 0, 0), none, some (6, 2, 17, 25, 0), none], [none, some (26, 3, 18, 0, 0), some (0, 2, 19, 0, 0), some (14, 16, 22, 17, 0), none, none, some (6, 1, 25, 29, 0), none, none, some (24, 0, 28, 0, 0), none, none, some (13, 3, 0, 0, 0), some (26, 3, 30, 0, 0), some (26, 3, 31, 0, 0), some (0, 4, 33, 0, 0)], [none, some (14, 38, 36, 17, 0), none, none, some (0, 2, 37, 0, 0), some (14, 22, 40, 18, 0), none, none, some (23, 0, 41, 0, 0), some (13, 3, 0, 0, 0)]]
def tb_X3_overlay : List (List (Option Op)) := [[some (26, 0, 1, 0, 0), some (8, 3, 4, 1, 0), none, none, some (1, 0, 5, 0, nI 3), some (5, 1, 8, 11, 0), none, none, some (1, 0, 10, 0, -3), none, some (13, 0, 0, 0, 0), some (26, 0, 12, 0, 0), some (14, 82, 15, 48, 0), none, none, some (14, 14, 18, 16, 0)], [none, none, some (3, 1, 19, 0, 0), some (26, 0, 20, 0, 0), some (18, 0, 21, 0, 0), some (8, 3, 24, 1, 0), none, none, some (1, 0, 25, 0, nI 1), some (2, 0, 26, 0, 0), some (9, 3, 29, 1, 0), none, none, some (26, 0, 30, 0, 0), some (14, 82, 33, 48, 0), none], [none, some (8, 1, 36, 0, 1), none, none, some (0, 1, 37, 0, 0), some (14, 6, 40, 1, 0), none, none, some (26, 0, 41, 0, 0), some (8, 3, 44, 1, 0), none, none, some (13, 0, 0, 0, 0)]]
def tb_X3_commit : List (List (Option Op)) := [[some (26, 0, 1, 0, 0), some (14, 82, 4, 48, 0), none, none, some (27, 1, 5, 0, 0), some (26, 1, 6, 0, 0), some (8, 1, 9, 1, 1), none, none, some (27, 2, 10, 0, 0), some (26, 2, 11, 0, 0), some (22, 0, 14, 16, 0), none, none, some (1, 0, 15, 0, -1), some (13, 0, 0, 0, 0)], [some (26, 1, 17, 0, 0), some (14, 36, 20, 16, 0), none, none, some (6, 5, 23, 26, 0), none, none, some (1, 0, 25, 0, -4), none, some (13, 0, 0, 0, 0), some (26, 2, 27, 0, 0), some (26, 1, 28, 0, 0), some (14, 46, 31, 17, 0), none, none, some (3, 3, 32, 0, 0)], [some (0, 3, 33, 0, 0), some (1, 0, 35, 0, -2), none, some (5, 0, 38, 48, 0), none, none, some (26, 0, 39, 0, 0), some (18, 0, 40, 0, 0), some (8, 3, 43, 1, 0), none, none, some (1, 0, 44, 0, nI 1), some (2, 1, 45, 0, 0), some (9, 3, 48, 1, 0), none, none], [some (0, 3, 49, 0, 0), some (13, 0, 0, 0, 0)]]
def tb_X3_grow : List (List (Option Op)) := [[some (0, 1, 1, 0, 0), some (26, 0, 2, 0, 0), some (14, 82, 5, 48, 0), none, none, some (14, 14, 8, 16, 0), none, none, some (5, 5, 11, 17, 0), none, none, some (0, 1, 12, 0, 0), some (1, 0, 14, 0, nI 64), none, some (5, 5, 17, 19, 0), none], [none, some (1, 0, 18, 0, -1), some (13, 0, 0, 0, 0), some (26, 0, 20, 0, 0), some (14, 82, 23, 48, 0), none, none, some (8, 1, 26, 0, 1), none, none, some (1, 0, 27, 0, nI 0), some (1, 0, 28, 0, nI 2), some (0, 1, 29, 0, 0), some (14, 2, 32, 3, 0), none, none], [some (1, 0, 33, 0, nI 0), some (13, 0, 0, 0, 0)]]
def tb_X3_size : List (List (Option Op)) := [[some (26, 0, 1, 0, 0), some (14, 82, 4, 48, 0), none, none, some (14, 14, 7, 16, 0), none, none, some (13, 0, 0, 0, 0)]]
def tb_X3_images : List (List (Option Op)) := [[some (26, 0, 1, 0, 0), some (8, 3, 4, 1, 0), none, none, some (13, 0, 0, 0, 0)]]
def tb_X3_used : List (List (Option Op)) := [[some (26, 0, 1, 0, 0), some (14, 82, 4, 48, 0), none, none, some (8, 1, 7, 0, 1), none, none, some (14, 9, 10, 0, 0), none, none, some (13, 0, 0, 0, 0)]]
def tb_X3_word : List (List (Option Op)) := [[some (0, 1, 1, 0, 0), some (6, 2, 4, 23, 0), none, none, some (0, 1, 5, 0, 0), some (26, 0, 6, 0, 0), some (8, 3, 9, 1, 0), none, none, some (5, 3, 12, 23, 0), none, none, some (0, 2, 13, 0, 0), some (6, 2, 16, 23, 0), none, none], [some (0, 2, 17, 0, 0), some (1, 0, 20, 0, nI 512), none, none, some (5, 2, 23, 25, 0), none, none, some (1, 0, 24, 0, nI 0), some (13, 0, 0, 0, 0), some (26, 0, 26, 0, 0), some (8, 3, 29, 0, 0), none, none, some (26, 0, 30, 0, 0), some (8, 3, 33, 1, 0), none], [none, some (1, 0, 34, 0, nI 1), some (2, 1, 35, 0, 0), some (0, 1, 36, 0, 0), some (2, 1, 37, 0, 0), some (12, 0, 38, 0, 0), some (8, 1, 41, 0, 1), none, none, some (0, 2, 42, 0, 0), some (1, 0, 44, 0, nI 8), none, some (2, 5, 45, 0, 0), some (0, 2, 46, 0, 0), some (1, 0, 48, 0, nI 8), none], [some (2, 6, 49, 0, 0), some (14, 1, 52, 2, 0), none, none, some (13, 0, 0, 0, 0)]]
def tb_X3_stage : List (List (Option Op)) := [[some (0, 1, 1, 0, 0), some (6, 2, 4, 11, 0), none, none, some (0, 1, 5, 0, 0), some (1, 0, 8, 0, nI 128), none, none, some (5, 2, 11, 13, 0), none, none, some (1, 0, 12, 0, nI 0), some (13, 1, 0, 0, 0), some (0, 1, 14, 0, 0), some (1, 0, 15, 0, nI 4), some (2, 2, 16, 0, 0)], [some (1, 0, 18, 0, nI 8), none, some (2, 5, 19, 0, 0), some (3, 6, 21, 0, 0), none, some (0, 1, 22, 0, 0), some (1, 0, 23, 0, nI 4), some (2, 2, 24, 0, 0), some (1, 0, 26, 0, nI 8), none, some (2, 6, 27, 0, 0), some (3, 7, 29, 0, 0), none, some (26, 0, 30, 0, 0), some (8, 3, 33, 2, 0), none], [none, some (0, 6, 35, 0, 0), none, some (0, 7, 37, 0, 0), none, some (0, 2, 38, 0, 0), some (14, 2, 41, 3, 0), none, none, some (26, 0, 42, 0, 0), some (8, 3, 45, 2, 0), none, none, some (0, 6, 47, 0, 0), none, some (0, 7, 49, 0, 0)], [none, some (1, 0, 50, 0, nI 1), some (2, 0, 51, 0, 0), some (0, 3, 52, 0, 0), some (14, 2, 55, 3, 0), none, none, some (26, 0, 56, 0, 0), some (8, 3, 59, 2, 0), none, none, some (0, 6, 61, 0, 0), none, some (0, 7, 63, 0, 0), none, some (1, 0, 64, 0, nI 2)], [some (2, 0, 65, 0, 0), some (0, 4, 67, 0, 0), none, some (14, 2, 70, 3, 0), none, none, some (26, 0, 71, 0, 0), some (8, 3, 74, 2, 0), none, none, some (0, 6, 76, 0, 0), none, some (0, 7, 78, 0, 0), none, some (1, 0, 79, 0, nI 3), some (2, 0, 80, 0, 0)], [some (0, 5, 82, 0, 0), none, some (14, 2, 85, 3, 0), none, none, some (1, 0, 86, 0, nI 1), some (13, 1, 0, 0, 0)]]
def tb_X3_load : List (List (Option Op)) := [[some (26, 0, 1, 0, 0), some (8, 3, 4, 3, 0), none, none, some (26, 0, 5, 0, 0), some (8, 3, 8, 2, 0), none, none, some (14, 49, 11, 33, 0), none, none, some (3, 1, 12, 0, 0), some (0, 1, 13, 0, 0), some (6, 1, 16, 35, 0), none, none], [some (26, 0, 17, 0, 0), some (1, 0, 18, 0, nI 1), some (9, 3, 21, 1, 0), none, none, some (26, 0, 22, 0, 0), some (14, 82, 25, 48, 0), none, none, some (8, 1, 28, 0, 1), none, none, some (26, 0, 29, 0, 0), some (8, 3, 32, 2, 0), none, none], [some (14, 3, 35, 1, 0), none, none, some (0, 1, 36, 0, 0), some (13, 0, 0, 0, 0)]]
def tb_X3_top : List (List (Option Op)) := [[some (26, 0, 1, 0, 0), some (8, 3, 4, 0, 0), none, none, some (26, 0, 5, 0, 0), some (8, 3, 8, 1, 0), none, none, some (1, 0, 9, 0, nI 1), some (2, 1, 10, 0, 0), some (12, 0, 11, 0, 0), some (13, 2, 0, 0, 0)]]
def tb_X3_isLead : List (List (Option Op)) := [[some (0, 0, 1, 0, 0), some (1, 0, 2, 0, nI 2), some (5, 5, 5, 9, 0), none, none, some (1, 0, 6, 0, nI 1), some (7, 0, 10, 0, 0), none, none, some (1, 0, 10, 0, nI 0), some (13, 1, 0, 0, 0)]]
def tb_X3_clusterOf : List (List (Option Op)) := [[some (0, 0, 1, 0, 0), some (1, 0, 2, 0, nI 2), some (2, 4, 3, 0, 0), some (13, 0, 0, 0, 0)]]
def tb_X3_leadTo : List (List (Option Op)) := [[some (1, 0, 1, 0, nI 4), some (0, 0, 2, 0, 0), some (2, 2, 3, 0, 0), some (0, 1, 4, 0, 0), some (6, 0, 7, 11, 0), none, none, some (1, 0, 8, 0, nI 1), some (7, 0, 12, 0, 0), none, none, some (1, 0, 12, 0, nI 0), some (2, 0, 13, 0, 0), some (13, 0, 0, 0, 0)]]
def tb_X4_init : List (List (Option Op)) := []
def tb_X4_fresh : List (List (Option Op)) := [[some (1, 0, 1, 0, nI 0), some (3, 3, 2, 0, 0), some (0, 3, 3, 0, 0), some (1, 0, 6, 0, nI 512), none, none, some (5, 3, 9, 28, 0), none, none, some (26, 0, 10, 0, 0), some (8, 4, 13, 0, 0), none, none, some (1, 0, 16, 0, nI 512), none, none], [some (0, 1, 17, 0, 0), some (2, 2, 18, 0, 0), some (0, 3, 19, 0, 0), some (2, 0, 20, 0, 0), some (1, 0, 21, 0, nI 0), some (11, 0, 22, 0, 0), some (4, 3, 25, 0, nI 1), none, none, some (7, 0, 2, 0, 0), none, none, some (26, 0, 29, 0, 0), some (8, 4, 32, 0, 0), none, none], [some (1, 0, 35, 0, nI 512), none, none, some (0, 1, 36, 0, 0), some (2, 2, 37, 0, 0), some (1, 0, 40, 0, nI 7001), none, none, some (11, 0, 41, 0, 0), some (26, 0, 42, 0, 0), some (8, 4, 45, 0, 0), none, none, some (1, 0, 48, 0, nI 512), none, none], [some (0, 1, 49, 0, 0), some (2, 2, 50, 0, 0), some (1, 0, 51, 0, nI 1), some (2, 0, 52, 0, 0), some (1, 0, 53, 0, nI 1), some (11, 0, 54, 0, 0), some (26, 0, 55, 0, 0), some (8, 4, 58, 0, 0), none, none, some (1, 0, 61, 0, nI 512), none, none, some (0, 1, 62, 0, 0), some (2, 2, 63, 0, 0), some (1, 0, 64, 0, nI 2)], [some (2, 0, 65, 0, 0), some (0, 2, 66, 0, 0), some (11, 0, 67, 0, 0), some (26, 0, 68, 0, 0), some (8, 4, 71, 0, 0), none, none, some (1, 0, 74, 0, nI 512), none, none, some (0, 1, 75, 0, 0), some (2, 2, 76, 0, 0), some (1, 0, 77, 0, nI 3), some (2, 0, 78, 0, 0), some (1, 0, 79, 0, nI 3), some (11, 0, 80, 0, 0)], [some (26, 0, 81, 0, 0), some (8, 4, 84, 0, 0), none, none, some (1, 0, 87, 0, nI 512), none, none, some (0, 1, 88, 0, 0), some (2, 2, 89, 0, 0), some (1, 0, 90, 0, nI 4), some (2, 0, 91, 0, 0), some (1, 0, 92, 0, nI 1), some (11, 0, 93, 0, 0), some (26, 0, 94, 0, 0), some (8, 4, 97, 0, 0), none], [none, some (1, 0, 100, 0, nI 512), none, none, some (0, 1, 101, 0, 0), some (2, 2, 102, 0, 0), some (1, 0, 104, 0, nI 8), none, some (2, 0, 105, 0, 0), some (1, 0, 106, 0, nI 2), some (11, 0, 107, 0, 0), some (26, 0, 108, 0, 0), some (0, 1, 109, 0, 0), some (14, 95, 112, 65, 0), none, none], [some (17, 0, 0, 0, 0)]]
def tb_X4_at : List (List (Option Op)) := [[some (1, 0, 3, 0, nI 512), none, none, some (0, 0, 4, 0, 0), some (2, 2, 5, 0, 0), some (1, 0, 7, 0, nI 8), none, some (0, 1, 8, 0, 0), some (2, 2, 9, 0, 0), some (2, 0, 10, 0, 0), some (13, 0, 0, 0, 0)]]
def tb_X4_sizeOf : List (List (Option Op)) := [[some (26, 0, 1, 0, 0), some (8, 4, 4, 0, 0), none, none, some (1, 0, 7, 0, nI 512), none, none, some (0, 1, 8, 0, 0), some (2, 2, 9, 0, 0), some (1, 0, 10, 0, nI 2), some (2, 0, 11, 0, 0), some (10, 0, 12, 0, 0), some (13, 0, 0, 0, 0)]]
def tb_X4_snapshots : List (List (Option Op)) := [[some (26, 0, 1, 0, 0), some (8, 4, 4, 0, 0), none, none, some (1, 0, 7, 0, nI 512), none, none, some (0, 1, 8, 0, 0), some (2, 2, 9, 0, 0), some (1, 0, 10, 0, nI 5), some (2, 0, 11, 0, 0), some (10, 0, 12, 0, 0), some (13, 0, 0, 0, 0)]]
def tb_X4_table : List (List (Option Op)) := [[some (0, 1, 1, 0, 0), some (26, 0, 2, 0, 0), some (8, 4, 5, 0, 0), none, none, some (1, 0, 8, 0, nI 512), none, none, some (0, 1, 9, 0, 0), some (2, 2, 10, 0, 0), some (1, 0, 12, 0, nI 6), none, some (2, 0, 13, 0, 0), some (10, 0, 14, 0, 0), some (15, 88, 17, 66, 0), none], [none, some (3, 3, 18, 0, 0), some (0, 1, 19, 0, 0), some (0, 2, 20, 0, 0), some (6, 3, 23, 38, 0), none, none, some (26, 0, 24, 0, 0), some (8, 4, 27, 0, 0), none, none, some (1, 0, 30, 0, nI 512), none, none, some (0, 1, 31, 0, 0), some (2, 2, 32, 0, 0)], [some (1, 0, 33, 0, nI 3), some (2, 0, 34, 0, 0), some (10, 0, 35, 0, 0), some (7, 0, 48, 0, 0), none, none, some (26, 0, 39, 0, 0), some (8, 4, 42, 0, 0), none, none, some (0, 3, 43, 0, 0), some (1, 0, 44, 0, nI 2), some (0, 2, 45, 0, 0), some (2, 2, 46, 0, 0), some (2, 0, 47, 0, 0), some (10, 0, 48, 0, 0)], [some (15, 88, 51, 66, 0), none, none, some (13, 0, 0, 0, 0)]]
def tb_X4_recount : List (List (Option Op)) := [[some (1, 0, 1, 0, nI 0), some (3, 2, 2, 0, 0), some (0, 2, 3, 0, 0), some (1, 0, 5, 0, nI 64), none, some (5, 3, 8, 21, 0), none, none, some (26, 0, 9, 0, 0), some (8, 4, 12, 3, 0), none, none, some (0, 2, 13, 0, 0), some (1, 0, 14, 0, nI 0), some (11, 0, 15, 0, 0), some (4, 2, 18, 0, nI 1)], [none, none, some (7, 0, 2, 0, 0), none, none, some (26, 0, 22, 0, 0), some (8, 4, 25, 3, 0), none, none, some (1, 0, 26, 0, nI 0), some (1, 0, 27, 0, nI 1), some (11, 0, 28, 0, 0), some (26, 0, 29, 0, 0), some (8, 4, 32, 0, 0), none, none], [some (1, 0, 35, 0, nI 512), none, none, some (0, 1, 36, 0, 0), some (2, 2, 37, 0, 0), some (1, 0, 38, 0, nI 4), some (2, 0, 39, 0, 0), some (10, 0, 40, 0, 0), some (3, 2, 41, 0, 0), some (26, 0, 42, 0, 0), some (8, 4, 45, 3, 0), none, none, some (0, 2, 46, 0, 0), some (19, 0, 47, 0, 0), some (10, 0, 48, 0, 0)], [some (1, 0, 49, 0, nI 1), some (2, 0, 50, 0, 0), some (11, 0, 51, 0, 0), some (1, 0, 52, 0, nI 0), some (3, 3, 53, 0, 0), some (0, 3, 54, 0, 0), some (1, 0, 56, 0, nI 8), none, some (5, 3, 59, 95, 0), none, none, some (26, 0, 60, 0, 0), some (8, 4, 63, 0, 0), none, none, some (0, 1, 64, 0, 0)], [some (0, 2, 65, 0, 0), some (15, 88, 68, 66, 0), none, none, some (0, 3, 69, 0, 0), some (2, 0, 70, 0, 0), some (10, 0, 71, 0, 0), some (3, 4, 73, 0, 0), none, some (0, 4, 75, 0, 0), none, some (6, 0, 78, 89, 0), none, none, some (26, 0, 79, 0, 0), some (8, 4, 82, 3, 0)], [none, none, some (0, 4, 84, 0, 0), none, some (19, 0, 85, 0, 0), some (10, 0, 86, 0, 0), some (1, 0, 87, 0, nI 1), some (2, 0, 88, 0, 0), some (11, 0, 89, 0, 0), some (4, 3, 92, 0, nI 1), none, none, some (7, 0, 53, 0, 0), none, none, some (26, 0, 96, 0, 0)], [some (8, 4, 99, 0, 0), none, none, some (1, 0, 102, 0, nI 512), none, none, some (0, 1, 103, 0, 0), some (2, 2, 104, 0, 0), some (1, 0, 106, 0, nI 6), none, some (2, 0, 107, 0, 0), some (10, 0, 108, 0, 0), some (6, 0, 111, 133, 0), none, none, some (26, 0, 112, 0, 0)], [some (8, 4, 115, 3, 0), none, none, some (26, 0, 116, 0, 0), some (8, 4, 119, 0, 0), none, none, some (1, 0, 122, 0, nI 512), none, none, some (0, 1, 123, 0, 0), some (2, 2, 124, 0, 0), some (1, 0, 126, 0, nI 6), none, some (2, 0, 127, 0, 0), some (10, 0, 128, 0, 0)], [some (19, 0, 129, 0, 0), some (10, 0, 130, 0, 0), some (1, 0, 131, 0, nI 1), some (2, 0, 132, 0, 0), some (11, 0, 133, 0, 0), some (1, 0, 134, 0, -1), some (3, 3, 135, 0, 0), some (0, 3, 136, 0, 0), some (26, 0, 137, 0, 0), some (0, 1, 138, 0, 0), some (14, 90, 141, 65, 0), none, none, some (5, 3, 144, 234, 0), none, none], [some (26, 0, 145, 0, 0), some (0, 1, 146, 0, 0), some (0, 3, 147, 0, 0), some (14, 91, 150, 66, 0), none, none, some (3, 4, 152, 0, 0), none, some (26, 0, 153, 0, 0), some (8, 4, 156, 3, 0), none, none, some (0, 4, 158, 0, 0), none, some (1, 0, 161, 0, nI 512), none], [none, some (0, 1, 162, 0, 0), some (2, 2, 163, 0, 0), some (2, 1, 164, 0, 0), some (1, 0, 166, 0, nI 8), none, some (2, 5, 167, 0, 0), some (19, 0, 168, 0, 0), some (10, 0, 169, 0, 0), some (1, 0, 170, 0, nI 1), some (2, 0, 171, 0, 0), some (11, 0, 172, 0, 0), some (1, 0, 173, 0, nI 0), some (3, 5, 175, 0, 0), none, some (0, 5, 177, 0, 0)], [none, some (1, 0, 179, 0, nI 8), none, some (5, 3, 182, 228, 0), none, none, some (26, 0, 183, 0, 0), some (8, 4, 186, 0, 0), none, none, some (0, 4, 188, 0, 0), none, some (0, 5, 190, 0, 0), none, some (2, 0, 191, 0, 0), some (10, 0, 192, 0, 0)], [some (1, 0, 193, 0, nI 4), some (2, 5, 194, 0, 0), some (3, 6, 196, 0, 0), none, some (0, 6, 198, 0, 0), none, some (6, 5, 201, 222, 0), none, none, some (26, 0, 202, 0, 0), some (8, 4, 205, 3, 0), none, none, some (0, 6, 207, 0, 0), none, some (19, 0, 208, 0, 0)], [some (10, 0, 209, 0, 0), some (1, 0, 210, 0, nI 1), some (2, 0, 211, 0, 0), some (11, 0, 212, 0, 0), some (26, 0, 213, 0, 0), some (0, 1, 214, 0, 0), some (0, 6, 216, 0, 0), none, some (15, 88, 219, 66, 0), none, none, some (14, 93, 222, 65, 0), none, none, some (4, 5, 225, 0, nI 1), none], [none, some (7, 0, 175, 0, 0), none, none, some (4, 3, 231, 0, nI 1), none, none, some (7, 0, 135, 0, 0), none, none, some (17, 0, 0, 0, 0)]]
def tb_X4_countLeaf : List (List (Option Op)) := [[some (1, 0, 1, 0, nI 0), some (3, 2, 2, 0, 0), some (0, 2, 3, 0, 0), some (1, 0, 5, 0, nI 8), none, some (5, 3, 8, 39, 0), none, none, some (26, 0, 9, 0, 0), some (8, 4, 12, 0, 0), none, none, some (0, 1, 13, 0, 0), some (0, 2, 14, 0, 0), some (2, 0, 15, 0, 0), some (10, 0, 16, 0, 0)], [some (1, 0, 17, 0, nI 4), some (2, 5, 18, 0, 0), some (3, 3, 19, 0, 0), some (0, 3, 20, 0, 0), some (6, 5, 23, 33, 0), none, none, some (26, 0, 24, 0, 0), some (8, 4, 27, 3, 0), none, none, some (0, 3, 28, 0, 0), some (19, 0, 29, 0, 0), some (10, 0, 30, 0, 0), some (1, 0, 31, 0, nI 1), some (2, 0, 32, 0, 0)], [some (11, 0, 33, 0, 0), some (4, 2, 36, 0, nI 1), none, none, some (7, 0, 2, 0, 0), none, none, some (17, 0, 0, 0, 0)]]
def tb_X4_marked : List (List (Option Op)) := [[some (0, 1, 1, 0, 0), some (1, 0, 2, 0, nI 4), some (2, 5, 3, 0, 0), some (3, 2, 4, 0, 0), some (0, 2, 5, 0, 0), some (6, 1, 8, 12, 0), none, none, some (0, 1, 9, 0, 0), some (7, 0, 31, 0, 0), none, none, some (1, 0, 13, 0, nI 4), some (0, 2, 14, 0, 0), some (2, 2, 15, 0, 0), some (26, 0, 16, 0, 0)], [some (8, 4, 19, 3, 0), none, none, some (0, 2, 20, 0, 0), some (10, 0, 21, 0, 0), some (1, 0, 22, 0, nI 1), some (5, 1, 25, 29, 0), none, none, some (1, 0, 26, 0, nI 1), some (7, 0, 30, 0, 0), none, none, some (1, 0, 30, 0, nI 0), some (2, 0, 31, 0, 0), some (13, 0, 0, 0, 0)]]
def tb_X4_settle : List (List (Option Op)) := [[some (26, 0, 1, 0, 0), some (0, 1, 2, 0, 0), some (14, 92, 5, 65, 0), none, none, some (0, 1, 6, 0, 0), some (26, 0, 7, 0, 0), some (8, 4, 10, 0, 0), none, none, some (1, 0, 13, 0, nI 512), none, none, some (0, 1, 14, 0, 0), some (2, 2, 15, 0, 0), some (1, 0, 16, 0, nI 4)], [some (2, 0, 17, 0, 0), some (10, 0, 18, 0, 0), some (15, 88, 21, 66, 0), none, none, some (3, 2, 22, 0, 0), some (1, 0, 23, 0, nI 0), some (3, 3, 24, 0, 0), some (0, 3, 25, 0, 0), some (1, 0, 27, 0, nI 64), none, some (5, 3, 30, 120, 0), none, none, some (26, 0, 31, 0, 0), some (8, 4, 34, 0, 0)], [none, none, some (0, 2, 35, 0, 0), some (0, 3, 36, 0, 0), some (1, 0, 38, 0, nI 8), none, some (2, 5, 39, 0, 0), some (2, 0, 40, 0, 0), some (10, 0, 41, 0, 0), some (6, 0, 44, 75, 0), none, none, some (26, 0, 45, 0, 0), some (8, 4, 48, 0, 0), none, none], [some (0, 1, 49, 0, 0), some (26, 0, 50, 0, 0), some (8, 4, 53, 0, 0), none, none, some (0, 2, 54, 0, 0), some (0, 3, 55, 0, 0), some (1, 0, 57, 0, nI 8), none, some (2, 5, 58, 0, 0), some (2, 0, 59, 0, 0), some (10, 0, 60, 0, 0), some (15, 88, 63, 66, 0), none, none, some (0, 3, 64, 0, 0)], [some (1, 0, 66, 0, nI 8), none, some (2, 6, 67, 0, 0), some (2, 0, 68, 0, 0), some (26, 0, 69, 0, 0), some (8, 4, 72, 3, 0), none, none, some (0, 3, 73, 0, 0), some (10, 0, 74, 0, 0), some (11, 0, 75, 0, 0), some (1, 0, 76, 0, nI 0), some (3, 4, 78, 0, 0), none, some (0, 4, 80, 0, 0), none], [some (1, 0, 82, 0, nI 8), none, some (5, 3, 85, 114, 0), none, none, some (26, 0, 86, 0, 0), some (8, 4, 89, 3, 0), none, none, some (0, 3, 90, 0, 0), some (10, 0, 91, 0, 0), some (6, 1, 94, 114, 0), none, none, some (26, 0, 95, 0, 0), some (8, 4, 98, 0, 0)], [none, none, some (0, 1, 99, 0, 0), some (0, 3, 100, 0, 0), some (15, 88, 103, 66, 0), none, none, some (0, 4, 105, 0, 0), none, some (2, 0, 106, 0, 0), some (1, 0, 107, 0, nI 0), some (11, 0, 108, 0, 0), some (4, 4, 111, 0, nI 1), none, none, some (7, 0, 78, 0, 0)], [none, none, some (4, 3, 117, 0, nI 1), none, none, some (7, 0, 24, 0, 0), none, none, some (1, 0, 121, 0, -1), some (3, 3, 122, 0, 0), some (0, 3, 123, 0, 0), some (26, 0, 124, 0, 0), some (0, 1, 125, 0, 0), some (14, 90, 128, 65, 0), none, none], [some (5, 3, 131, 256, 0), none, none, some (26, 0, 132, 0, 0), some (0, 1, 133, 0, 0), some (0, 3, 134, 0, 0), some (14, 91, 137, 66, 0), none, none, some (3, 4, 139, 0, 0), none, some (1, 0, 140, 0, nI 0), some (3, 5, 142, 0, 0), none, some (0, 5, 144, 0, 0), none], [some (1, 0, 146, 0, nI 8), none, some (5, 3, 149, 250, 0), none, none, some (0, 1, 150, 0, 0), some (26, 0, 151, 0, 0), some (8, 4, 154, 0, 0), none, none, some (0, 4, 156, 0, 0), none, some (0, 5, 158, 0, 0), none, some (2, 0, 159, 0, 0), some (10, 0, 160, 0, 0)], [some (1, 0, 161, 0, nI 4), some (2, 5, 162, 0, 0), some (15, 88, 165, 66, 0), none, none, some (3, 6, 167, 0, 0), none, some (26, 0, 168, 0, 0), some (8, 4, 171, 0, 0), none, none, some (0, 4, 173, 0, 0), none, some (0, 5, 175, 0, 0), none, some (2, 0, 176, 0, 0)], [some (26, 0, 177, 0, 0), some (26, 0, 178, 0, 0), some (8, 4, 181, 0, 0), none, none, some (0, 4, 183, 0, 0), none, some (0, 5, 185, 0, 0), none, some (2, 0, 186, 0, 0), some (10, 0, 187, 0, 0), some (14, 94, 190, 65, 0), none, none, some (11, 0, 191, 0, 0), some (1, 0, 192, 0, nI 0)], [some (3, 7, 194, 0, 0), none, some (0, 7, 196, 0, 0), none, some (1, 0, 198, 0, nI 8), none, some (5, 3, 201, 244, 0), none, none, some (26, 0, 202, 0, 0), some (8, 4, 205, 0, 0), none, none, some (0, 4, 207, 0, 0), none, some (0, 5, 209, 0, 0)], [none, some (2, 0, 210, 0, 0), some (10, 0, 211, 0, 0), some (6, 0, 214, 244, 0), none, none, some (26, 0, 215, 0, 0), some (8, 4, 218, 0, 0), none, none, some (0, 6, 220, 0, 0), none, some (0, 7, 222, 0, 0), none, some (2, 0, 223, 0, 0), some (26, 0, 224, 0, 0)], [some (26, 0, 225, 0, 0), some (8, 4, 228, 0, 0), none, none, some (0, 6, 230, 0, 0), none, some (0, 7, 232, 0, 0), none, some (2, 0, 233, 0, 0), some (10, 0, 234, 0, 0), some (14, 94, 237, 65, 0), none, none, some (11, 0, 238, 0, 0), some (4, 7, 241, 0, nI 1), none], [none, some (7, 0, 194, 0, 0), none, none, some (4, 5, 247, 0, nI 1), none, none, some (7, 0, 142, 0, 0), none, none, some (4, 3, 253, 0, nI 1), none, none, some (7, 0, 122, 0, 0), none, none], [some (17, 0, 0, 0, 0)]]
def tb_X4_leastFree : List (List (Option Op)) := [[some (1, 0, 1, 0, nI 0), some (3, 1, 2, 0, 0), some (0, 1, 3, 0, 0), some (1, 0, 5, 0, nI 64), none, some (5, 3, 8, 25, 0), none, none, some (26, 0, 9, 0, 0), some (8, 4, 12, 3, 0), none, none, some (0, 1, 13, 0, 0), some (10, 0, 14, 0, 0), some (6, 1, 17, 19, 0), none], [none, some (0, 1, 18, 0, 0), some (13, 0, 0, 0, 0), some (4, 1, 22, 0, nI 1), none, none, some (7, 0, 2, 0, 0), none, none, some (1, 0, 26, 0, -1), some (13, 0, 0, 0, 0)]]
def tb_X4_take : List (List (Option Op)) := [[some (26, 0, 1, 0, 0), some (0, 1, 2, 0, 0), some (14, 92, 5, 65, 0), none, none, some (26, 0, 6, 0, 0), some (14, 96, 9, 64, 0), none, none, some (3, 2, 10, 0, 0), some (0, 2, 11, 0, 0), some (6, 3, 14, 16, 0), none, none, some (1, 0, 15, 0, -1), some (13, 0, 0, 0, 0)], [some (0, 1, 17, 0, 0), some (26, 0, 18, 0, 0), some (8, 4, 21, 0, 0), none, none, some (1, 0, 24, 0, nI 512), none, none, some (0, 1, 25, 0, 0), some (2, 2, 26, 0, 0), some (1, 0, 27, 0, nI 4), some (2, 0, 28, 0, 0), some (10, 0, 29, 0, 0), some (15, 88, 32, 66, 0), none, none], [some (0, 2, 33, 0, 0), some (1, 0, 35, 0, nI 8), none, some (2, 5, 36, 0, 0), some (2, 0, 37, 0, 0), some (3, 3, 38, 0, 0), some (26, 0, 39, 0, 0), some (8, 4, 42, 0, 0), none, none, some (0, 3, 43, 0, 0), some (10, 0, 44, 0, 0), some (6, 1, 47, 64, 0), none, none, some (26, 0, 48, 0, 0)], [some (8, 4, 51, 0, 0), none, none, some (0, 3, 52, 0, 0), some (0, 2, 53, 0, 0), some (11, 0, 54, 0, 0), some (26, 0, 55, 0, 0), some (0, 1, 56, 0, 0), some (14, 95, 59, 65, 0), none, none, some (26, 0, 60, 0, 0), some (14, 96, 63, 64, 0), none, none, some (3, 2, 64, 0, 0)], [some (0, 2, 65, 0, 0), some (13, 0, 0, 0, 0)]]
def tb_X4_room : List (List (Option Op)) := [[some (26, 0, 1, 0, 0), some (0, 1, 2, 0, 0), some (14, 92, 5, 65, 0), none, none, some (1, 0, 6, 0, nI 0), some (3, 2, 7, 0, 0), some (1, 0, 8, 0, nI 0), some (3, 3, 9, 0, 0), some (0, 3, 10, 0, 0), some (1, 0, 12, 0, nI 8), none, some (5, 3, 15, 102, 0), none, none, some (1, 0, 16, 0, nI 0)], [some (3, 4, 18, 0, 0), none, some (1, 0, 19, 0, nI 0), some (3, 5, 21, 0, 0), none, some (0, 5, 23, 0, 0), none, some (1, 0, 25, 0, nI 8), none, some (5, 3, 28, 60, 0), none, none, some (26, 0, 29, 0, 0), some (8, 4, 32, 3, 0), none, none], [some (1, 0, 34, 0, nI 8), none, some (0, 3, 35, 0, 0), some (2, 2, 36, 0, 0), some (0, 5, 38, 0, 0), none, some (2, 0, 39, 0, 0), some (10, 0, 40, 0, 0), some (6, 1, 43, 50, 0), none, none, some (0, 4, 45, 0, 0), none, some (1, 0, 46, 0, nI 1), some (2, 0, 47, 0, 0), some (7, 0, 52, 0, 0)], [none, none, some (0, 4, 52, 0, 0), none, some (3, 4, 54, 0, 0), none, some (4, 5, 57, 0, nI 1), none, none, some (7, 0, 21, 0, 0), none, none, some (0, 2, 61, 0, 0), some (26, 0, 62, 0, 0), some (8, 4, 65, 0, 0), none], [none, some (0, 1, 66, 0, 0), some (26, 0, 67, 0, 0), some (8, 4, 70, 0, 0), none, none, some (1, 0, 73, 0, nI 512), none, none, some (0, 1, 74, 0, 0), some (2, 2, 75, 0, 0), some (1, 0, 76, 0, nI 4), some (2, 0, 77, 0, 0), some (10, 0, 78, 0, 0), some (15, 88, 81, 66, 0), none], [none, some (0, 3, 82, 0, 0), some (2, 0, 83, 0, 0), some (10, 0, 84, 0, 0), some (6, 1, 87, 92, 0), none, none, some (1, 0, 89, 0, nI 7), none, some (7, 0, 94, 0, 0), none, none, some (0, 4, 94, 0, 0), none, some (2, 0, 95, 0, 0), some (3, 2, 96, 0, 0)], [some (4, 3, 99, 0, nI 1), none, none, some (7, 0, 9, 0, 0), none, none, some (0, 2, 103, 0, 0), some (13, 0, 0, 0, 0)]]
def tb_X4_slot : List (List (Option Op)) := [[some (26, 0, 1, 0, 0), some (8, 4, 4, 0, 0), none, none, some (0, 2, 5, 0, 0), some (0, 3, 6, 0, 0), some (1, 0, 8, 0, nI 8), none, some (2, 5, 9, 0, 0), some (2, 0, 10, 0, 0), some (10, 0, 11, 0, 0), some (1, 0, 12, 0, nI 4), some (2, 5, 13, 0, 0), some (3, 4, 15, 0, 0), none, some (0, 4, 17, 0, 0)], [none, some (6, 1, 20, 24, 0), none, none, some (1, 0, 21, 0, -1), some (7, 0, 35, 0, 0), none, none, some (0, 1, 25, 0, 0), some (0, 4, 27, 0, 0), none, some (15, 88, 30, 66, 0), none, none, some (0, 3, 31, 0, 0), some (1, 0, 33, 0, nI 8)], [none, some (2, 6, 34, 0, 0), some (2, 0, 35, 0, 0), some (13, 0, 0, 0, 0)]]
def tb_X4_entry : List (List (Option Op)) := [[some (26, 0, 1, 0, 0), some (0, 1, 2, 0, 0), some (0, 2, 3, 0, 0), some (0, 3, 4, 0, 0), some (14, 99, 7, 67, 0), none, none, some (3, 4, 9, 0, 0), none, some (0, 4, 11, 0, 0), none, some (6, 3, 14, 18, 0), none, none, some (1, 0, 15, 0, nI 0), some (7, 0, 25, 0, 0)], [none, none, some (26, 0, 19, 0, 0), some (8, 4, 22, 0, 0), none, none, some (0, 4, 24, 0, 0), none, some (10, 0, 25, 0, 0), some (13, 0, 0, 0, 0)]]
def tb_X4_shows : List (List (Option Op)) := [[some (26, 0, 1, 0, 0), some (0, 1, 2, 0, 0), some (0, 2, 3, 0, 0), some (0, 4, 5, 0, 0), none, some (14, 100, 8, 67, 0), none, none, some (3, 6, 10, 0, 0), none, some (0, 3, 11, 0, 0), some (3, 7, 13, 0, 0), none, some (0, 7, 15, 0, 0), none, some (6, 2, 18, 83, 0)], [none, none, some (0, 6, 20, 0, 0), none, some (6, 1, 23, 83, 0), none, none, some (26, 0, 24, 0, 0), some (0, 7, 26, 0, 0), none, some (1, 0, 27, 0, -1), some (14, 91, 30, 66, 0), none, none, some (3, 8, 32, 0, 0), none], [some (26, 0, 33, 0, 0), some (0, 7, 35, 0, 0), none, some (0, 8, 37, 0, 0), none, some (0, 4, 39, 0, 0), none, some (14, 100, 42, 67, 0), none, none, some (3, 6, 44, 0, 0), none, some (0, 6, 46, 0, 0), none, some (1, 0, 47, 0, nI 4), some (2, 5, 48, 0, 0)], [some (6, 5, 51, 69, 0), none, none, some (26, 0, 52, 0, 0), some (8, 4, 55, 0, 0), none, none, some (0, 7, 57, 0, 0), none, some (0, 6, 59, 0, 0), none, some (1, 0, 60, 0, nI 4), some (2, 5, 61, 0, 0), some (15, 88, 64, 66, 0), none, none], [some (0, 5, 66, 0, 0), none, some (2, 0, 67, 0, 0), some (10, 0, 68, 0, 0), some (13, 0, 0, 0, 0), some (0, 6, 71, 0, 0), none, some (1, 0, 72, 0, nI 2), some (5, 1, 75, 77, 0), none, none, some (1, 0, 76, 0, nI 0), some (13, 0, 0, 0, 0), some (4, 7, 80, 0, -1), none, none], [some (7, 0, 13, 0, 0), none, none, some (0, 6, 85, 0, 0), none, some (1, 0, 86, 0, nI 4), some (2, 5, 87, 0, 0), some (6, 5, 90, 109, 0), none, none, some (26, 0, 91, 0, 0), some (8, 4, 94, 0, 0), none, none, some (0, 1, 95, 0, 0), some (0, 6, 97, 0, 0)], [none, some (1, 0, 98, 0, nI 4), some (2, 5, 99, 0, 0), some (15, 88, 102, 66, 0), none, none, some (0, 5, 104, 0, 0), none, some (2, 0, 105, 0, 0), some (10, 0, 106, 0, 0), some (7, 0, 110, 0, 0), none, none, some (1, 0, 110, 0, nI 0), some (13, 0, 0, 0, 0)]]
def tb_X4_lacksLeaf : List (List (Option Op)) := [[some (26, 0, 1, 0, 0), some (0, 1, 2, 0, 0), some (14, 92, 5, 65, 0), none, none, some (26, 0, 6, 0, 0), some (8, 4, 9, 0, 0), none, none, some (26, 0, 10, 0, 0), some (0, 1, 11, 0, 0), some (1, 0, 12, 0, -1), some (14, 91, 15, 66, 0), none, none, some (0, 2, 16, 0, 0)], [some (1, 0, 18, 0, nI 8), none, some (2, 5, 19, 0, 0), some (2, 0, 20, 0, 0), some (10, 0, 21, 0, 0), some (1, 0, 22, 0, nI 4), some (2, 5, 23, 0, 0), some (3, 3, 24, 0, 0), some (0, 3, 25, 0, 0), some (6, 0, 28, 38, 0), none, none, some (26, 0, 29, 0, 0), some (8, 4, 32, 3, 0), none, none], [some (0, 3, 33, 0, 0), some (10, 0, 34, 0, 0), some (1, 0, 35, 0, nI 1), some (5, 5, 38, 42, 0), none, none, some (1, 0, 39, 0, nI 1), some (7, 0, 43, 0, 0), none, none, some (1, 0, 43, 0, nI 0), some (13, 1, 0, 0, 0)]]
def tb_X4_lacksCluster : List (List (Option Op)) := [[some (26, 0, 1, 0, 0), some (0, 1, 2, 0, 0), some (14, 92, 5, 65, 0), none, none, some (26, 0, 6, 0, 0), some (0, 1, 7, 0, 0), some (1, 0, 8, 0, -1), some (14, 91, 11, 66, 0), none, none, some (3, 3, 12, 0, 0), some (26, 0, 13, 0, 0), some (0, 1, 14, 0, 0), some (0, 3, 15, 0, 0), some (0, 2, 16, 0, 0)], [some (14, 100, 19, 67, 0), none, none, some (1, 0, 20, 0, nI 4), some (2, 5, 21, 0, 0), some (3, 4, 23, 0, 0), none, some (0, 4, 25, 0, 0), none, some (6, 0, 28, 39, 0), none, none, some (26, 0, 29, 0, 0), some (8, 4, 32, 3, 0), none, none], [some (0, 4, 34, 0, 0), none, some (10, 0, 35, 0, 0), some (1, 0, 36, 0, nI 1), some (5, 5, 39, 43, 0), none, none, some (1, 0, 40, 0, nI 1), some (7, 0, 44, 0, 0), none, none, some (1, 0, 44, 0, nI 0), some (13, 1, 0, 0, 0)]]
def tb_X4_ownLeaf : List (List (Option Op)) := [[some (26, 0, 1, 0, 0), some (0, 1, 2, 0, 0), some (0, 2, 3, 0, 0), some (14, 102, 6, 66, 0), none, none, some (6, 1, 9, 11, 0), none, none, some (1, 0, 10, 0, nI 0), some (13, 0, 0, 0, 0), some (26, 0, 12, 0, 0), some (0, 1, 13, 0, 0), some (14, 97, 16, 65, 0), none, none], [some (3, 3, 17, 0, 0), some (0, 3, 18, 0, 0), some (6, 3, 21, 25, 0), none, none, some (1, 0, 24, 0, nI 1000), none, none, some (13, 0, 0, 0, 0), some (26, 0, 26, 0, 0), some (0, 1, 27, 0, 0), some (1, 0, 28, 0, -1), some (14, 91, 31, 66, 0), none, none, some (0, 2, 32, 0, 0)], [some (1, 0, 34, 0, nI 8), none, some (2, 5, 35, 0, 0), some (2, 0, 36, 0, 0), some (3, 4, 38, 0, 0), none, some (26, 0, 39, 0, 0), some (8, 4, 42, 0, 0), none, none, some (0, 4, 44, 0, 0), none, some (10, 0, 45, 0, 0), some (1, 0, 46, 0, nI 4), some (2, 5, 47, 0, 0), some (3, 5, 49, 0, 0)], [none, some (1, 0, 50, 0, nI 0), some (3, 6, 52, 0, 0), none, some (0, 6, 54, 0, 0), none, some (1, 0, 56, 0, nI 8), none, some (5, 3, 59, 101, 0), none, none, some (26, 0, 60, 0, 0), some (8, 4, 63, 0, 0), none, none, some (0, 1, 64, 0, 0)], [some (0, 3, 65, 0, 0), some (15, 88, 68, 66, 0), none, none, some (0, 6, 70, 0, 0), none, some (2, 0, 71, 0, 0), some (0, 5, 73, 0, 0), none, some (6, 1, 76, 80, 0), none, none, some (1, 0, 77, 0, nI 0), some (7, 0, 94, 0, 0), none, none], [some (26, 0, 81, 0, 0), some (8, 4, 84, 0, 0), none, none, some (0, 1, 85, 0, 0), some (0, 5, 87, 0, 0), none, some (15, 88, 90, 66, 0), none, none, some (0, 6, 92, 0, 0), none, some (2, 0, 93, 0, 0), some (10, 0, 94, 0, 0), some (11, 0, 95, 0, 0), some (4, 6, 98, 0, nI 1)], [none, none, some (7, 0, 52, 0, 0), none, none, some (26, 0, 102, 0, 0), some (8, 4, 105, 0, 0), none, none, some (0, 4, 107, 0, 0), none, some (1, 0, 108, 0, nI 4), some (0, 3, 109, 0, 0), some (2, 2, 110, 0, 0), some (11, 0, 111, 0, 0), some (26, 0, 112, 0, 0)], [some (0, 1, 113, 0, 0), some (14, 95, 116, 65, 0), none, none, some (1, 0, 117, 0, nI 1), some (13, 0, 0, 0, 0)]]
def tb_X4_own : List (List (Option Op)) := [[some (26, 0, 1, 0, 0), some (0, 1, 2, 0, 0), some (0, 3, 3, 0, 0), some (14, 104, 6, 66, 0), none, none, some (3, 4, 8, 0, 0), none, some (0, 4, 10, 0, 0), none, some (1, 0, 13, 0, nI 1000), none, none, some (5, 3, 16, 25, 0), none, none], [some (26, 0, 17, 0, 0), some (0, 1, 18, 0, 0), some (0, 3, 19, 0, 0), some (14, 103, 22, 66, 0), none, none, some (6, 1, 25, 28, 0), none, none, some (0, 4, 27, 0, 0), none, some (13, 0, 0, 0, 0), some (26, 0, 29, 0, 0), some (0, 1, 30, 0, 0), some (1, 0, 31, 0, -1), some (14, 91, 34, 66, 0)], [none, none, some (3, 5, 36, 0, 0), none, some (1, 0, 37, 0, nI 0), some (3, 6, 39, 0, 0), none, some (0, 6, 41, 0, 0), none, some (1, 0, 43, 0, nI 8), none, some (5, 3, 46, 70, 0), none, none, some (26, 0, 47, 0, 0), some (8, 4, 50, 6, 0)], [none, none, some (0, 6, 52, 0, 0), none, some (26, 0, 53, 0, 0), some (0, 1, 54, 0, 0), some (0, 5, 56, 0, 0), none, some (0, 2, 57, 0, 0), some (0, 3, 58, 0, 0), some (0, 6, 60, 0, 0), none, some (14, 101, 63, 69, 0), none, none, some (11, 0, 64, 0, 0)], [some (4, 6, 67, 0, nI 1), none, none, some (7, 0, 39, 0, 0), none, none, some (26, 0, 71, 0, 0), some (0, 1, 72, 0, 0), some (14, 97, 75, 65, 0), none, none, some (3, 6, 77, 0, 0), none, some (0, 6, 79, 0, 0), none, some (6, 3, 82, 86, 0)], [none, none, some (1, 0, 85, 0, nI 1000), none, none, some (13, 0, 0, 0, 0), some (26, 0, 87, 0, 0), some (0, 1, 88, 0, 0), some (0, 5, 90, 0, 0), none, some (0, 3, 91, 0, 0), some (14, 99, 94, 67, 0), none, none, some (3, 7, 96, 0, 0), none], [some (26, 0, 97, 0, 0), some (8, 4, 100, 0, 0), none, none, some (0, 7, 102, 0, 0), none, some (1, 0, 103, 0, nI 4), some (0, 6, 105, 0, 0), none, some (2, 2, 106, 0, 0), some (11, 0, 107, 0, 0), some (1, 0, 108, 0, nI 0), some (3, 8, 110, 0, 0), none, some (0, 8, 112, 0, 0), none], [some (1, 0, 114, 0, nI 8), none, some (5, 3, 117, 144, 0), none, none, some (26, 0, 118, 0, 0), some (8, 4, 121, 0, 0), none, none, some (0, 1, 122, 0, 0), some (0, 6, 124, 0, 0), none, some (15, 88, 127, 66, 0), none, none, some (0, 8, 129, 0, 0)], [none, some (2, 0, 130, 0, 0), some (26, 0, 131, 0, 0), some (8, 4, 134, 6, 0), none, none, some (0, 8, 136, 0, 0), none, some (10, 0, 137, 0, 0), some (11, 0, 138, 0, 0), some (4, 8, 141, 0, nI 1), none, none, some (7, 0, 110, 0, 0), none, none], [some (26, 0, 145, 0, 0), some (0, 1, 146, 0, 0), some (14, 95, 149, 65, 0), none, none, some (0, 4, 151, 0, 0), none, some (1, 0, 152, 0, nI 1), some (2, 0, 153, 0, 0), some (13, 0, 0, 0, 0)]]
def tb_X4_isAddress : List (List (Option Op)) := [[some (0, 1, 1, 0, 0), some (6, 2, 4, 25, 0), none, none, some (0, 1, 5, 0, 0), some (1, 0, 7, 0, nI 8), none, some (26, 0, 8, 0, 0), some (26, 0, 9, 0, 0), some (8, 4, 12, 2, 0), none, none, some (1, 0, 13, 0, nI 1), some (2, 1, 14, 0, 0), some (14, 89, 17, 65, 0), none], [none, some (2, 2, 18, 0, 0), some (5, 3, 21, 25, 0), none, none, some (1, 0, 22, 0, nI 1), some (7, 0, 26, 0, 0), none, none, some (1, 0, 26, 0, nI 0), some (13, 1, 0, 0, 0)]]
def tb_X4_write : List (List (Option Op)) := [[some (26, 0, 1, 0, 0), some (8, 4, 4, 2, 0), none, none, some (1, 0, 5, 0, nI 1), some (2, 1, 6, 0, 0), some (3, 3, 7, 0, 0), some (26, 0, 8, 0, 0), some (0, 1, 9, 0, 0), some (14, 106, 12, 65, 0), none, none, some (6, 1, 15, 17, 0), none, none, some (1, 0, 16, 0, -1)], [some (13, 0, 0, 0, 0), some (0, 1, 18, 0, 0), some (1, 0, 20, 0, nI 8), none, some (2, 5, 21, 0, 0), some (3, 4, 23, 0, 0), none, some (26, 0, 24, 0, 0), some (0, 3, 25, 0, 0), some (0, 4, 27, 0, 0), none, some (14, 102, 30, 66, 0), none, none, some (6, 0, 33, 37, 0), none], [none, some (1, 0, 34, 0, nI 1), some (7, 0, 38, 0, 0), none, none, some (1, 0, 38, 0, nI 0), some (26, 0, 39, 0, 0), some (0, 3, 40, 0, 0), some (0, 4, 42, 0, 0), none, some (14, 103, 45, 66, 0), none, none, some (6, 0, 48, 52, 0), none, none], [some (1, 0, 49, 0, nI 1), some (7, 0, 53, 0, 0), none, none, some (1, 0, 53, 0, nI 0), some (2, 0, 54, 0, 0), some (3, 5, 56, 0, 0), none, some (26, 0, 57, 0, 0), some (0, 3, 58, 0, 0), some (14, 98, 61, 65, 0), none, none, some (0, 5, 63, 0, 0), none, some (5, 3, 66, 69, 0)], [none, none, some (1, 0, 68, 0, -2), none, some (13, 0, 0, 0, 0), some (26, 0, 70, 0, 0), some (0, 3, 71, 0, 0), some (0, 3, 72, 0, 0), some (1, 0, 73, 0, nI 1), some (2, 1, 74, 0, 0), some (0, 4, 76, 0, 0), none, some (14, 105, 79, 67, 0), none, none, some (3, 6, 81, 0, 0)], [none, some (26, 0, 82, 0, 0), some (0, 3, 83, 0, 0), some (26, 0, 84, 0, 0), some (0, 3, 85, 0, 0), some (1, 0, 86, 0, -1), some (14, 91, 89, 66, 0), none, none, some (0, 4, 91, 0, 0), none, some (14, 100, 94, 67, 0), none, none, some (3, 7, 96, 0, 0), none], [some (26, 0, 97, 0, 0), some (8, 4, 100, 0, 0), none, none, some (0, 3, 101, 0, 0), some (0, 7, 103, 0, 0), none, some (1, 0, 104, 0, nI 4), some (2, 5, 105, 0, 0), some (15, 88, 108, 66, 0), none, none, some (0, 1, 109, 0, 0), some (1, 0, 111, 0, nI 8), none, some (2, 6, 112, 0, 0)], [some (2, 0, 113, 0, 0), some (0, 2, 114, 0, 0), some (11, 0, 115, 0, 0), some (0, 6, 117, 0, 0), none, some (13, 0, 0, 0, 0)]]
def tb_X4_read : List (List (Option Op)) := [[some (26, 0, 1, 0, 0), some (8, 4, 4, 2, 0), none, none, some (1, 0, 5, 0, nI 1), some (2, 1, 6, 0, 0), some (3, 2, 7, 0, 0), some (26, 0, 8, 0, 0), some (0, 1, 9, 0, 0), some (14, 106, 12, 65, 0), none, none, some (6, 0, 15, 40, 0), none, none, some (26, 0, 16, 0, 0)], [some (0, 2, 17, 0, 0), some (26, 0, 18, 0, 0), some (0, 2, 19, 0, 0), some (1, 0, 20, 0, -1), some (14, 91, 23, 66, 0), none, none, some (0, 2, 24, 0, 0), some (1, 0, 25, 0, nI 1), some (2, 1, 26, 0, 0), some (0, 1, 27, 0, 0), some (1, 0, 29, 0, nI 8), none, some (2, 5, 30, 0, 0), some (0, 1, 31, 0, 0), some (1, 0, 33, 0, nI 8)], [none, some (2, 6, 34, 0, 0), some (14, 101, 37, 69, 0), none, none, some (7, 0, 41, 0, 0), none, none, some (1, 0, 41, 0, nI 0), some (13, 0, 0, 0, 0)]]
def tb_X4_drop : List (List (Option Op)) := [[some (26, 0, 1, 0, 0), some (0, 1, 2, 0, 0), some (1, 0, 3, 0, -1), some (14, 91, 6, 66, 0), none, none, some (3, 4, 8, 0, 0), none, some (26, 0, 9, 0, 0), some (0, 1, 10, 0, 0), some (0, 4, 12, 0, 0), none, some (0, 3, 13, 0, 0), some (14, 100, 16, 67, 0), none, none], [some (3, 5, 18, 0, 0), none, some (0, 5, 20, 0, 0), none, some (1, 0, 21, 0, nI 2), some (5, 0, 24, 33, 0), none, none, some (0, 5, 26, 0, 0), none, some (6, 1, 29, 35, 0), none, none, some (0, 2, 30, 0, 0), some (6, 3, 33, 35, 0), none], [none, some (1, 0, 34, 0, nI 0), some (13, 0, 0, 0, 0), some (26, 0, 36, 0, 0), some (0, 1, 37, 0, 0), some (0, 3, 38, 0, 0), some (14, 104, 41, 66, 0), none, none, some (3, 6, 43, 0, 0), none, some (0, 6, 45, 0, 0), none, some (1, 0, 48, 0, nI 1000), none, none], [some (5, 2, 51, 54, 0), none, none, some (0, 6, 53, 0, 0), none, some (13, 0, 0, 0, 0), some (26, 0, 55, 0, 0), some (0, 1, 56, 0, 0), some (0, 4, 58, 0, 0), none, some (0, 3, 59, 0, 0), some (14, 99, 62, 67, 0), none, none, some (3, 7, 64, 0, 0), none], [some (26, 0, 65, 0, 0), some (8, 4, 68, 0, 0), none, none, some (0, 7, 70, 0, 0), none, some (1, 0, 71, 0, nI 2), some (11, 0, 72, 0, 0), some (26, 0, 73, 0, 0), some (0, 1, 74, 0, 0), some (14, 95, 77, 65, 0), none, none, some (0, 6, 79, 0, 0), none, some (13, 0, 0, 0, 0)]]
def tb_X4_discard : List (List (Option Op)) := [[some (26, 0, 1, 0, 0), some (8, 4, 4, 2, 0), none, none, some (1, 0, 5, 0, nI 1), some (2, 1, 6, 0, 0), some (3, 2, 7, 0, 0), some (0, 1, 8, 0, 0), some (6, 2, 11, 20, 0), none, none, some (0, 1, 12, 0, 0), some (26, 0, 13, 0, 0), some (0, 2, 14, 0, 0), some (14, 89, 17, 65, 0), none], [none, some (5, 2, 20, 22, 0), none, none, some (1, 0, 21, 0, -1), some (13, 0, 0, 0, 0), some (26, 0, 23, 0, 0), some (0, 2, 24, 0, 0), some (26, 0, 25, 0, 0), some (0, 2, 26, 0, 0), some (1, 0, 27, 0, -1), some (14, 91, 30, 66, 0), none, none, some (0, 1, 31, 0, 0), some (14, 100, 34, 67, 0)], [none, none, some (3, 3, 35, 0, 0), some (0, 3, 36, 0, 0), some (1, 0, 37, 0, nI 2), some (5, 0, 40, 48, 0), none, none, some (0, 3, 41, 0, 0), some (6, 1, 44, 50, 0), none, none, some (0, 2, 45, 0, 0), some (6, 1, 48, 50, 0), none, none], [some (1, 0, 49, 0, nI 0), some (13, 0, 0, 0, 0), some (26, 0, 51, 0, 0), some (0, 2, 52, 0, 0), some (0, 1, 53, 0, 0), some (14, 102, 56, 66, 0), none, none, some (6, 0, 59, 71, 0), none, none, some (26, 0, 60, 0, 0), some (0, 2, 61, 0, 0), some (14, 98, 64, 65, 0), none, none], [some (1, 0, 65, 0, nI 1), some (5, 3, 68, 71, 0), none, none, some (1, 0, 70, 0, -2), none, some (13, 0, 0, 0, 0), some (26, 0, 72, 0, 0), some (0, 2, 73, 0, 0), some (0, 2, 74, 0, 0), some (1, 0, 75, 0, nI 1), some (2, 1, 76, 0, 0), some (0, 1, 77, 0, 0), some (14, 109, 80, 67, 0), none, none], [some (13, 0, 0, 0, 0)]]
def tb_X4_named : List (List (Option Op)) := [[some (26, 0, 1, 0, 0), some (8, 4, 4, 2, 0), none, none, some (1, 0, 5, 0, nI 1), some (2, 1, 6, 0, 0), some (3, 2, 7, 0, 0), some (0, 2, 8, 0, 0), some (26, 0, 9, 0, 0), some (8, 4, 12, 0, 0), none, none, some (1, 0, 15, 0, nI 512), none, none, some (0, 2, 16, 0, 0)], [some (2, 2, 17, 0, 0), some (1, 0, 19, 0, nI 6), none, some (2, 0, 20, 0, 0), some (10, 0, 21, 0, 0), some (15, 88, 24, 66, 0), none, none, some (3, 3, 25, 0, 0), some (1, 0, 26, 0, nI 0), some (3, 4, 28, 0, 0), none, some (0, 4, 30, 0, 0), none, some (26, 0, 31, 0, 0), some (0, 2, 32, 0, 0)], [some (14, 90, 35, 65, 0), none, none, some (5, 3, 38, 64, 0), none, none, some (26, 0, 39, 0, 0), some (8, 4, 42, 0, 0), none, none, some (0, 3, 43, 0, 0), some (1, 0, 44, 0, nI 2), some (0, 4, 46, 0, 0), none, some (2, 2, 47, 0, 0), some (2, 0, 48, 0, 0)], [some (1, 0, 49, 0, nI 1), some (2, 0, 50, 0, 0), some (10, 0, 51, 0, 0), some (0, 1, 52, 0, 0), some (5, 1, 55, 58, 0), none, none, some (0, 4, 57, 0, 0), none, some (13, 0, 0, 0, 0), some (4, 4, 61, 0, nI 1), none, none, some (7, 0, 28, 0, 0), none, none], [some (1, 0, 65, 0, -1), some (13, 0, 0, 0, 0)]]
def tb_X4_snapshot : List (List (Option Op)) := [[some (26, 0, 1, 0, 0), some (8, 4, 4, 2, 0), none, none, some (1, 0, 5, 0, nI 1), some (2, 1, 6, 0, 0), some (3, 2, 7, 0, 0), some (26, 0, 8, 0, 0), some (0, 1, 9, 0, 0), some (14, 111, 12, 65, 0), none, none, some (6, 2, 15, 18, 0), none, none, some (1, 0, 17, 0, -4)], [none, some (13, 0, 0, 0, 0), some (26, 0, 19, 0, 0), some (0, 2, 20, 0, 0), some (14, 90, 23, 65, 0), none, none, some (3, 3, 24, 0, 0), some (0, 3, 25, 0, 0), some (1, 0, 26, 0, nI 4), some (5, 1, 29, 32, 0), none, none, some (1, 0, 31, 0, -3), none, some (13, 0, 0, 0, 0)], [some (26, 0, 33, 0, 0), some (0, 2, 34, 0, 0), some (14, 98, 37, 65, 0), none, none, some (0, 3, 38, 0, 0), some (6, 1, 41, 45, 0), none, none, some (1, 0, 42, 0, nI 2), some (7, 0, 46, 0, 0), none, none, some (1, 0, 46, 0, nI 1), some (5, 3, 49, 52, 0), none], [none, some (1, 0, 51, 0, -2), none, some (13, 0, 0, 0, 0), some (0, 3, 53, 0, 0), some (6, 1, 56, 83, 0), none, none, some (26, 0, 57, 0, 0), some (0, 2, 58, 0, 0), some (14, 97, 61, 65, 0), none, none, some (3, 4, 63, 0, 0), none, some (26, 0, 64, 0, 0)], [some (8, 4, 67, 0, 0), none, none, some (1, 0, 70, 0, nI 512), none, none, some (0, 2, 71, 0, 0), some (2, 2, 72, 0, 0), some (1, 0, 74, 0, nI 6), none, some (2, 0, 75, 0, 0), some (0, 4, 77, 0, 0), none, some (11, 0, 78, 0, 0), some (26, 0, 79, 0, 0), some (0, 2, 80, 0, 0)], [some (14, 95, 83, 65, 0), none, none, some (26, 0, 84, 0, 0), some (0, 2, 85, 0, 0), some (14, 97, 88, 65, 0), none, none, some (3, 4, 90, 0, 0), none, some (0, 2, 91, 0, 0), some (26, 0, 92, 0, 0), some (8, 4, 95, 0, 0), none, none, some (1, 0, 98, 0, nI 512)], [none, none, some (0, 2, 99, 0, 0), some (2, 2, 100, 0, 0), some (1, 0, 102, 0, nI 6), none, some (2, 0, 103, 0, 0), some (10, 0, 104, 0, 0), some (15, 88, 107, 66, 0), none, none, some (3, 5, 109, 0, 0), none, some (26, 0, 110, 0, 0), some (8, 4, 113, 0, 0), none], [none, some (0, 5, 115, 0, 0), none, some (1, 0, 116, 0, nI 2), some (0, 3, 117, 0, 0), some (2, 2, 118, 0, 0), some (2, 0, 119, 0, 0), some (0, 4, 121, 0, 0), none, some (11, 0, 122, 0, 0), some (26, 0, 123, 0, 0), some (8, 4, 126, 0, 0), none, none, some (0, 5, 128, 0, 0), none], [some (1, 0, 129, 0, nI 2), some (0, 3, 130, 0, 0), some (2, 2, 131, 0, 0), some (2, 0, 132, 0, 0), some (1, 0, 133, 0, nI 1), some (2, 0, 134, 0, 0), some (0, 1, 135, 0, 0), some (11, 0, 136, 0, 0), some (1, 0, 137, 0, nI 0), some (3, 6, 139, 0, 0), none, some (0, 6, 141, 0, 0), none, some (1, 0, 143, 0, nI 8), none, some (5, 3, 146, 180, 0)], [none, none, some (26, 0, 147, 0, 0), some (8, 4, 150, 0, 0), none, none, some (0, 2, 151, 0, 0), some (0, 4, 153, 0, 0), none, some (15, 88, 156, 66, 0), none, none, some (0, 6, 158, 0, 0), none, some (2, 0, 159, 0, 0), some (26, 0, 160, 0, 0)], [some (8, 4, 163, 0, 0), none, none, some (26, 0, 164, 0, 0), some (0, 2, 165, 0, 0), some (1, 0, 166, 0, -1), some (14, 91, 169, 66, 0), none, none, some (0, 6, 171, 0, 0), none, some (2, 0, 172, 0, 0), some (10, 0, 173, 0, 0), some (11, 0, 174, 0, 0), some (4, 6, 177, 0, nI 1), none], [none, some (7, 0, 139, 0, 0), none, none, some (26, 0, 181, 0, 0), some (8, 4, 184, 0, 0), none, none, some (1, 0, 187, 0, nI 512), none, none, some (0, 2, 188, 0, 0), some (2, 2, 189, 0, 0), some (1, 0, 190, 0, nI 5), some (2, 0, 191, 0, 0), some (0, 3, 192, 0, 0)], [some (1, 0, 193, 0, nI 1), some (2, 0, 194, 0, 0), some (11, 0, 195, 0, 0), some (26, 0, 196, 0, 0), some (0, 2, 197, 0, 0), some (14, 95, 200, 65, 0), none, none, some (1, 0, 201, 0, nI 0), some (13, 0, 0, 0, 0)]]
def tb_X4_revert : List (List (Option Op)) := [[some (26, 0, 1, 0, 0), some (8, 4, 4, 2, 0), none, none, some (1, 0, 5, 0, nI 1), some (2, 1, 6, 0, 0), some (3, 2, 7, 0, 0), some (26, 0, 8, 0, 0), some (0, 1, 9, 0, 0), some (14, 111, 12, 65, 0), none, none, some (3, 3, 13, 0, 0), some (0, 3, 14, 0, 0), some (6, 3, 17, 19, 0), none], [none, some (1, 0, 18, 0, -1), some (13, 0, 0, 0, 0), some (26, 0, 20, 0, 0), some (0, 2, 21, 0, 0), some (0, 3, 22, 0, 0), some (14, 91, 25, 66, 0), none, none, some (3, 4, 27, 0, 0), none, some (26, 0, 28, 0, 0), some (0, 2, 29, 0, 0), some (1, 0, 30, 0, -1), some (14, 91, 33, 66, 0), none], [none, some (3, 5, 35, 0, 0), none, some (1, 0, 36, 0, nI 0), some (3, 6, 38, 0, 0), none, some (0, 6, 40, 0, 0), none, some (1, 0, 42, 0, nI 8), none, some (5, 3, 45, 71, 0), none, none, some (26, 0, 46, 0, 0), some (8, 4, 49, 0, 0), none], [none, some (0, 5, 51, 0, 0), none, some (0, 6, 53, 0, 0), none, some (2, 0, 54, 0, 0), some (26, 0, 55, 0, 0), some (8, 4, 58, 0, 0), none, none, some (0, 4, 60, 0, 0), none, some (0, 6, 62, 0, 0), none, some (2, 0, 63, 0, 0), some (10, 0, 64, 0, 0)], [some (11, 0, 65, 0, 0), some (4, 6, 68, 0, nI 1), none, none, some (7, 0, 38, 0, 0), none, none, some (26, 0, 72, 0, 0), some (0, 2, 73, 0, 0), some (14, 95, 76, 65, 0), none, none, some (1, 0, 77, 0, nI 0), some (13, 0, 0, 0, 0)]]
def tb_X4_delete : List (List (Option Op)) := [[some (26, 0, 1, 0, 0), some (8, 4, 4, 2, 0), none, none, some (1, 0, 5, 0, nI 1), some (2, 1, 6, 0, 0), some (3, 2, 7, 0, 0), some (26, 0, 8, 0, 0), some (0, 1, 9, 0, 0), some (14, 111, 12, 65, 0), none, none, some (3, 3, 13, 0, 0), some (0, 3, 14, 0, 0), some (6, 3, 17, 19, 0), none], [none, some (1, 0, 18, 0, -1), some (13, 0, 0, 0, 0), some (0, 2, 20, 0, 0), some (26, 0, 21, 0, 0), some (8, 4, 24, 0, 0), none, none, some (1, 0, 27, 0, nI 512), none, none, some (0, 2, 28, 0, 0), some (2, 2, 29, 0, 0), some (1, 0, 31, 0, nI 6), none, some (2, 0, 32, 0, 0)], [some (10, 0, 33, 0, 0), some (15, 88, 36, 66, 0), none, none, some (3, 4, 38, 0, 0), none, some (26, 0, 39, 0, 0), some (0, 2, 40, 0, 0), some (14, 90, 43, 65, 0), none, none, some (1, 0, 44, 0, nI 1), some (2, 1, 45, 0, 0), some (3, 5, 47, 0, 0), none, some (1, 0, 48, 0, nI 2)], [some (0, 3, 49, 0, 0), some (2, 2, 50, 0, 0), some (3, 6, 52, 0, 0), none, some (0, 6, 54, 0, 0), none, some (1, 0, 56, 0, nI 8), none, some (5, 3, 59, 100, 0), none, none, some (26, 0, 60, 0, 0), some (8, 4, 63, 0, 0), none, none, some (0, 4, 65, 0, 0)], [none, some (0, 6, 67, 0, 0), none, some (2, 0, 68, 0, 0), some (0, 6, 70, 0, 0), none, some (1, 0, 71, 0, nI 2), some (2, 0, 72, 0, 0), some (1, 0, 74, 0, nI 8), none, some (5, 3, 77, 92, 0), none, none, some (26, 0, 78, 0, 0), some (8, 4, 81, 0, 0), none], [none, some (0, 4, 83, 0, 0), none, some (0, 6, 85, 0, 0), none, some (2, 0, 86, 0, 0), some (1, 0, 87, 0, nI 2), some (2, 0, 88, 0, 0), some (10, 0, 89, 0, 0), some (7, 0, 93, 0, 0), none, none, some (1, 0, 93, 0, nI 0), some (11, 0, 94, 0, 0), some (4, 6, 97, 0, nI 1), none], [none, some (7, 0, 52, 0, 0), none, none, some (26, 0, 101, 0, 0), some (8, 4, 104, 0, 0), none, none, some (1, 0, 107, 0, nI 512), none, none, some (0, 2, 108, 0, 0), some (2, 2, 109, 0, 0), some (1, 0, 110, 0, nI 5), some (2, 0, 111, 0, 0), some (0, 5, 113, 0, 0)], [none, some (11, 0, 114, 0, 0), some (0, 5, 116, 0, 0), none, some (6, 1, 119, 133, 0), none, none, some (26, 0, 120, 0, 0), some (8, 4, 123, 0, 0), none, none, some (1, 0, 126, 0, nI 512), none, none, some (0, 2, 127, 0, 0), some (2, 2, 128, 0, 0)], [some (1, 0, 130, 0, nI 6), none, some (2, 0, 131, 0, 0), some (1, 0, 132, 0, nI 0), some (11, 0, 133, 0, 0), some (26, 0, 134, 0, 0), some (0, 2, 135, 0, 0), some (14, 95, 138, 65, 0), none, none, some (1, 0, 139, 0, nI 0), some (13, 0, 0, 0, 0)]]
def tb_X4_readOld : List (List (Option Op)) := [[some (26, 0, 1, 0, 0), some (8, 4, 4, 2, 0), none, none, some (1, 0, 5, 0, nI 1), some (2, 1, 6, 0, 0), some (3, 3, 7, 0, 0), some (26, 0, 8, 0, 0), some (0, 1, 9, 0, 0), some (14, 111, 12, 65, 0), none, none, some (3, 4, 14, 0, 0), none, some (0, 4, 16, 0, 0), none], [some (6, 2, 19, 27, 0), none, none, some (26, 0, 20, 0, 0), some (0, 2, 21, 0, 0), some (14, 106, 24, 65, 0), none, none, some (6, 1, 27, 33, 0), none, none, some (24, 0, 30, 0, 0), none, none, some (7, 0, 57, 0, 0), none], [none, some (26, 0, 34, 0, 0), some (0, 3, 35, 0, 0), some (26, 0, 36, 0, 0), some (0, 3, 37, 0, 0), some (0, 4, 39, 0, 0), none, some (14, 91, 42, 66, 0), none, none, some (0, 3, 43, 0, 0), some (1, 0, 44, 0, nI 1), some (2, 1, 45, 0, 0), some (0, 2, 46, 0, 0), some (1, 0, 48, 0, nI 8), none], [some (2, 5, 49, 0, 0), some (0, 2, 50, 0, 0), some (1, 0, 52, 0, nI 8), none, some (2, 6, 53, 0, 0), some (14, 101, 56, 69, 0), none, none, some (23, 0, 57, 0, 0), some (13, 3, 0, 0, 0)]]
def tb_X4_overlay : List (List (Option Op)) := [[some (26, 0, 1, 0, 0), some (8, 4, 4, 2, 0), none, none, some (1, 0, 5, 0, nI 3), some (5, 1, 8, 11, 0), none, none, some (1, 0, 10, 0, -3), none, some (13, 0, 0, 0, 0), some (26, 0, 12, 0, 0), some (26, 0, 13, 0, 0), some (8, 4, 16, 2, 0), none, none], [some (1, 0, 17, 0, nI 1), some (2, 1, 18, 0, 0), some (14, 89, 21, 65, 0), none, none, some (3, 1, 22, 0, 0), some (26, 0, 23, 0, 0), some (26, 0, 24, 0, 0), some (8, 4, 27, 2, 0), none, none, some (0, 1, 28, 0, 0), some (14, 87, 31, 66, 0), none, none, some (26, 0, 32, 0, 0)], [some (18, 0, 33, 0, 0), some (8, 4, 36, 2, 0), none, none, some (1, 0, 37, 0, nI 1), some (2, 0, 38, 0, 0), some (9, 4, 41, 2, 0), none, none, some (26, 0, 42, 0, 0), some (8, 4, 45, 2, 0), none, none, some (13, 0, 0, 0, 0)]]
def tb_X4_copyFile : List (List (Option Op)) := [[some (1, 0, 1, 0, nI 0), some (3, 3, 2, 0, 0), some (0, 3, 3, 0, 0), some (1, 0, 6, 0, nI 512), none, none, some (5, 3, 9, 39, 0), none, none, some (26, 0, 10, 0, 0), some (8, 4, 13, 0, 0), none, none, some (1, 0, 16, 0, nI 512), none, none], [some (0, 2, 17, 0, 0), some (2, 2, 18, 0, 0), some (0, 3, 19, 0, 0), some (2, 0, 20, 0, 0), some (26, 0, 21, 0, 0), some (8, 4, 24, 0, 0), none, none, some (1, 0, 27, 0, nI 512), none, none, some (0, 1, 28, 0, 0), some (2, 2, 29, 0, 0), some (0, 3, 30, 0, 0), some (2, 0, 31, 0, 0), some (10, 0, 32, 0, 0)], [some (11, 0, 33, 0, 0), some (4, 3, 36, 0, nI 1), none, none, some (7, 0, 2, 0, 0), none, none, some (17, 0, 0, 0, 0)]]
def tb_X4_commit : List (List (Option Op)) := [[some (26, 0, 1, 0, 0), some (8, 4, 4, 2, 0), none, none, some (1, 0, 5, 0, nI 1), some (5, 1, 8, 10, 0), none, none, some (1, 0, 9, 0, -1), some (13, 0, 0, 0, 0), some (26, 0, 11, 0, 0), some (8, 4, 14, 2, 0), none, none, some (1, 0, 15, 0, nI 1), some (2, 1, 16, 0, 0)], [some (3, 1, 17, 0, 0), some (26, 0, 18, 0, 0), some (0, 1, 19, 0, 0), some (14, 90, 22, 65, 0), none, none, some (6, 5, 25, 28, 0), none, none, some (1, 0, 27, 0, -4), none, some (13, 0, 0, 0, 0), some (26, 0, 29, 0, 0), some (0, 1, 30, 0, 0), some (1, 0, 31, 0, nI 1), some (2, 1, 32, 0, 0)], [some (1, 0, 33, 0, nI 3), some (14, 117, 36, 66, 0), none, none, some (26, 0, 37, 0, 0), some (1, 0, 38, 0, nI 3), some (14, 98, 41, 65, 0), none, none, some (3, 2, 42, 0, 0), some (26, 0, 43, 0, 0), some (8, 4, 46, 0, 0), none, none, some (1, 0, 49, 0, nI 1538), none], [none, some (26, 0, 50, 0, 0), some (0, 1, 51, 0, 0), some (14, 89, 54, 65, 0), none, none, some (11, 0, 55, 0, 0), some (26, 0, 56, 0, 0), some (0, 1, 57, 0, 0), some (1, 0, 58, 0, -1), some (14, 91, 61, 66, 0), none, none, some (3, 3, 62, 0, 0), some (1, 0, 63, 0, nI 0), some (3, 4, 65, 0, 0)], [none, some (1, 0, 66, 0, nI 0), some (3, 5, 68, 0, 0), none, some (1, 0, 69, 0, nI 0), some (3, 6, 71, 0, 0), none, some (0, 6, 73, 0, 0), none, some (26, 0, 74, 0, 0), some (0, 1, 75, 0, 0), some (14, 89, 78, 65, 0), none, none, some (5, 3, 81, 222, 0), none], [none, some (0, 4, 83, 0, 0), none, some (0, 2, 84, 0, 0), some (5, 4, 87, 222, 0), none, none, some (26, 0, 88, 0, 0), some (0, 1, 89, 0, 0), some (0, 3, 90, 0, 0), some (0, 6, 92, 0, 0), none, some (14, 100, 95, 67, 0), none, none, some (3, 7, 97, 0, 0)], [none, some (0, 7, 99, 0, 0), none, some (1, 0, 100, 0, nI 2), some (5, 1, 103, 124, 0), none, none, some (0, 4, 105, 0, 0), none, some (26, 0, 106, 0, 0), some (1, 0, 107, 0, nI 3), some (0, 1, 108, 0, 0), some (1, 0, 109, 0, nI 2), some (2, 1, 110, 0, 0), some (0, 6, 112, 0, 0), none], [some (14, 109, 115, 67, 0), none, none, some (2, 0, 116, 0, 0), some (3, 4, 118, 0, 0), none, some (4, 5, 121, 0, nI 1), none, none, some (7, 0, 216, 0, 0), none, none, some (0, 7, 126, 0, 0), none, some (6, 0, 129, 216, 0), none], [none, some (0, 4, 131, 0, 0), none, some (26, 0, 132, 0, 0), some (1, 0, 133, 0, nI 3), some (0, 1, 134, 0, 0), some (1, 0, 135, 0, nI 2), some (2, 1, 136, 0, 0), some (0, 6, 138, 0, 0), none, some (14, 105, 141, 67, 0), none, none, some (2, 0, 142, 0, 0), some (3, 4, 144, 0, 0), none], [some (26, 0, 145, 0, 0), some (1, 0, 146, 0, nI 3), some (26, 0, 147, 0, 0), some (1, 0, 148, 0, nI 3), some (1, 0, 149, 0, -1), some (14, 91, 152, 66, 0), none, none, some (0, 6, 154, 0, 0), none, some (14, 100, 157, 67, 0), none, none, some (1, 0, 158, 0, nI 4), some (2, 5, 159, 0, 0), some (3, 8, 161, 0, 0)], [none, some (1, 0, 162, 0, nI 0), some (3, 9, 164, 0, 0), none, some (0, 9, 166, 0, 0), none, some (1, 0, 168, 0, nI 8), none, some (5, 3, 171, 213, 0), none, none, some (0, 4, 173, 0, 0), none, some (0, 2, 174, 0, 0), some (5, 4, 177, 213, 0), none], [none, some (26, 0, 178, 0, 0), some (8, 4, 181, 0, 0), none, none, some (1, 0, 182, 0, nI 3), some (0, 8, 184, 0, 0), none, some (15, 88, 187, 66, 0), none, none, some (0, 9, 189, 0, 0), none, some (2, 0, 190, 0, 0), some (26, 0, 191, 0, 0), some (8, 4, 194, 0, 0)], [none, none, some (0, 1, 195, 0, 0), some (0, 7, 197, 0, 0), none, some (1, 0, 198, 0, nI 4), some (2, 5, 199, 0, 0), some (15, 88, 202, 66, 0), none, none, some (0, 9, 204, 0, 0), none, some (2, 0, 205, 0, 0), some (10, 0, 206, 0, 0), some (11, 0, 207, 0, 0), some (4, 9, 210, 0, nI 1)], [none, none, some (7, 0, 164, 0, 0), none, none, some (4, 5, 216, 0, nI 1), none, none, some (4, 6, 219, 0, nI 1), none, none, some (7, 0, 71, 0, 0), none, none, some (0, 4, 224, 0, 0), none], [some (0, 2, 225, 0, 0), some (5, 5, 228, 231, 0), none, none, some (1, 0, 230, 0, -2), none, some (13, 0, 0, 0, 0), some (26, 0, 232, 0, 0), some (1, 0, 233, 0, nI 3), some (0, 1, 234, 0, 0), some (1, 0, 235, 0, nI 1), some (2, 1, 236, 0, 0), some (14, 117, 239, 66, 0), none, none, some (26, 0, 240, 0, 0)], [some (18, 0, 241, 0, 0), some (8, 4, 244, 2, 0), none, none, some (1, 0, 245, 0, nI 1), some (2, 1, 246, 0, 0), some (9, 4, 249, 2, 0), none, none, some (0, 5, 251, 0, 0), none, some (13, 0, 0, 0, 0)]]
def tb_X4_grow : List (List (Option Op)) := [[some (26, 0, 1, 0, 0), some (8, 4, 4, 2, 0), none, none, some (1, 0, 5, 0, nI 1), some (2, 1, 6, 0, 0), some (3, 2, 7, 0, 0), some (0, 1, 8, 0, 0), some (26, 0, 9, 0, 0), some (0, 2, 10, 0, 0), some (14, 89, 13, 65, 0), none, none, some (5, 5, 16, 22, 0), none, none], [some (0, 1, 17, 0, 0), some (1, 0, 19, 0, nI 64), none, some (5, 5, 22, 24, 0), none, none, some (1, 0, 23, 0, -1), some (13, 0, 0, 0, 0), some (26, 0, 25, 0, 0), some (8, 4, 28, 0, 0), none, none, some (1, 0, 31, 0, nI 512), none, none, some (0, 2, 32, 0, 0)], [some (2, 2, 33, 0, 0), some (1, 0, 34, 0, nI 2), some (2, 0, 35, 0, 0), some (0, 1, 36, 0, 0), some (11, 0, 37, 0, 0), some (1, 0, 38, 0, nI 0), some (13, 0, 0, 0, 0)]]
def tb_X4_size : List (List (Option Op)) := [[some (26, 0, 1, 0, 0), some (26, 0, 2, 0, 0), some (8, 4, 5, 2, 0), none, none, some (1, 0, 6, 0, nI 1), some (2, 1, 7, 0, 0), some (14, 89, 10, 65, 0), none, none, some (13, 0, 0, 0, 0)]]
def tb_X4_images : List (List (Option Op)) := [[some (26, 0, 1, 0, 0), some (8, 4, 4, 2, 0), none, none, some (13, 0, 0, 0, 0)]]
def tb_X4_used : List (List (Option Op)) := [[some (26, 0, 1, 0, 0), some (26, 0, 2, 0, 0), some (8, 4, 5, 2, 0), none, none, some (1, 0, 6, 0, nI 1), some (2, 1, 7, 0, 0), some (14, 92, 10, 65, 0), none, none, some (1, 0, 11, 0, nI 0), some (3, 1, 12, 0, 0), some (1, 0, 13, 0, nI 0), some (3, 2, 14, 0, 0), some (0, 2, 15, 0, 0), some (1, 0, 17, 0, nI 64)], [none, some (5, 3, 20, 43, 0), none, none, some (26, 0, 21, 0, 0), some (8, 4, 24, 3, 0), none, none, some (0, 2, 25, 0, 0), some (10, 0, 26, 0, 0), some (6, 5, 29, 35, 0), none, none, some (0, 1, 30, 0, 0), some (1, 0, 31, 0, nI 1), some (2, 0, 32, 0, 0)], [some (7, 0, 36, 0, 0), none, none, some (0, 1, 36, 0, 0), some (3, 1, 37, 0, 0), some (4, 2, 40, 0, nI 1), none, none, some (7, 0, 14, 0, 0), none, none, some (0, 1, 44, 0, 0), some (13, 0, 0, 0, 0)]]
def tb_X4_word : List (List (Option Op)) := [[some (0, 1, 1, 0, 0), some (6, 2, 4, 23, 0), none, none, some (0, 1, 5, 0, 0), some (26, 0, 6, 0, 0), some (8, 4, 9, 2, 0), none, none, some (5, 3, 12, 23, 0), none, none, some (0, 2, 13, 0, 0), some (6, 2, 16, 23, 0), none, none], [some (0, 2, 17, 0, 0), some (1, 0, 20, 0, nI 511), none, none, some (5, 5, 23, 27, 0), none, none, some (1, 0, 24, 0, nI 0), some (7, 0, 46, 0, 0), none, none, some (26, 0, 28, 0, 0), some (8, 4, 31, 0, 0), none, none, some (1, 0, 34, 0, nI 512)], [none, none, some (26, 0, 35, 0, 0), some (8, 4, 38, 2, 0), none, none, some (1, 0, 39, 0, nI 1), some (2, 1, 40, 0, 0), some (0, 1, 41, 0, 0), some (2, 1, 42, 0, 0), some (2, 2, 43, 0, 0), some (0, 2, 44, 0, 0), some (2, 0, 45, 0, 0), some (10, 0, 46, 0, 0), some (13, 0, 0, 0, 0)]]
def tb_X4_stage : List (List (Option Op)) := [[some (0, 1, 1, 0, 0), some (6, 2, 4, 10, 0), none, none, some (0, 1, 5, 0, 0), some (1, 0, 7, 0, nI 127), none, some (5, 5, 10, 12, 0), none, none, some (1, 0, 11, 0, nI 0), some (13, 1, 0, 0, 0), some (26, 0, 13, 0, 0), some (8, 4, 16, 1, 0), none, none], [some (1, 0, 17, 0, nI 4), some (0, 1, 18, 0, 0), some (2, 2, 19, 0, 0), some (0, 2, 20, 0, 0), some (11, 0, 21, 0, 0), some (26, 0, 22, 0, 0), some (8, 4, 25, 1, 0), none, none, some (1, 0, 26, 0, nI 4), some (0, 1, 27, 0, 0), some (2, 2, 28, 0, 0), some (1, 0, 29, 0, nI 1), some (2, 0, 30, 0, 0), some (0, 3, 31, 0, 0), some (11, 0, 32, 0, 0)], [some (26, 0, 33, 0, 0), some (8, 4, 36, 1, 0), none, none, some (1, 0, 37, 0, nI 4), some (0, 1, 38, 0, 0), some (2, 2, 39, 0, 0), some (1, 0, 40, 0, nI 2), some (2, 0, 41, 0, 0), some (0, 4, 43, 0, 0), none, some (11, 0, 44, 0, 0), some (26, 0, 45, 0, 0), some (8, 4, 48, 1, 0), none, none], [some (1, 0, 49, 0, nI 4), some (0, 1, 50, 0, 0), some (2, 2, 51, 0, 0), some (1, 0, 52, 0, nI 3), some (2, 0, 53, 0, 0), some (0, 5, 55, 0, 0), none, some (11, 0, 56, 0, 0), some (1, 0, 57, 0, nI 1), some (13, 1, 0, 0, 0)]]
def tb_X4_lead : List (List (Option Op)) := [[some (0, 1, 1, 0, 0), some (1, 0, 2, 0, nI 1), some (5, 2, 5, 30, 0), none, none, some (0, 1, 6, 0, 0), some (1, 0, 8, 0, nI 63), none, some (5, 4, 11, 30, 0), none, none, some (26, 0, 12, 0, 0), some (8, 4, 15, 4, 0), none, none, some (0, 1, 16, 0, 0)], [some (10, 0, 17, 0, 0), some (6, 0, 20, 37, 0), none, none, some (26, 0, 21, 0, 0), some (8, 4, 24, 4, 0), none, none, some (0, 1, 25, 0, 0), some (10, 0, 26, 0, 0), some (0, 2, 27, 0, 0), some (5, 0, 30, 37, 0), none, none, some (26, 0, 31, 0, 0), some (1, 0, 32, 0, nI 0)], [some (9, 4, 35, 5, 0), none, none, some (1, 0, 36, 0, nI 0), some (13, 1, 0, 0, 0), some (26, 0, 38, 0, 0), some (8, 4, 41, 4, 0), none, none, some (0, 1, 42, 0, 0), some (0, 2, 43, 0, 0), some (11, 0, 44, 0, 0), some (1, 0, 45, 0, nI 1), some (13, 1, 0, 0, 0)]]
def tb_X4_headerRight : List (List (Option Op)) := [[some (1, 0, 3, 0, nI 1536), none, none, some (3, 1, 4, 0, 0), some (26, 0, 5, 0, 0), some (8, 4, 8, 0, 0), none, none, some (0, 1, 9, 0, 0), some (10, 0, 10, 0, 0), some (1, 0, 13, 0, nI 7001), none, none, some (5, 1, 16, 57, 0), none, none], [some (26, 0, 17, 0, 0), some (8, 4, 20, 0, 0), none, none, some (0, 1, 21, 0, 0), some (1, 0, 22, 0, nI 1), some (2, 0, 23, 0, 0), some (10, 0, 24, 0, 0), some (1, 0, 25, 0, nI 1), some (5, 1, 28, 57, 0), none, none, some (26, 0, 29, 0, 0), some (8, 4, 32, 0, 0), none, none], [some (0, 1, 33, 0, 0), some (1, 0, 34, 0, nI 2), some (2, 0, 35, 0, 0), some (10, 0, 36, 0, 0), some (1, 0, 37, 0, nI 1), some (5, 2, 40, 57, 0), none, none, some (26, 0, 41, 0, 0), some (8, 4, 44, 0, 0), none, none, some (0, 1, 45, 0, 0), some (1, 0, 46, 0, nI 2), some (2, 0, 47, 0, 0), some (10, 0, 48, 0, 0)], [some (1, 0, 50, 0, nI 64), none, some (5, 4, 53, 57, 0), none, none, some (1, 0, 54, 0, nI 1), some (7, 0, 58, 0, 0), none, none, some (1, 0, 58, 0, nI 0), some (3, 2, 59, 0, 0), some (0, 2, 60, 0, 0), some (6, 0, 63, 138, 0), none, none, some (26, 0, 64, 0, 0)], [some (8, 4, 67, 0, 0), none, none, some (0, 1, 68, 0, 0), some (1, 0, 69, 0, nI 5), some (2, 0, 70, 0, 0), some (10, 0, 71, 0, 0), some (6, 2, 74, 138, 0), none, none, some (26, 0, 75, 0, 0), some (8, 4, 78, 0, 0), none, none, some (0, 1, 79, 0, 0), some (1, 0, 80, 0, nI 5)], [some (2, 0, 81, 0, 0), some (10, 0, 82, 0, 0), some (1, 0, 83, 0, nI 4), some (5, 4, 86, 138, 0), none, none, some (26, 0, 87, 0, 0), some (8, 4, 90, 0, 0), none, none, some (0, 1, 91, 0, 0), some (1, 0, 93, 0, nI 7), none, some (2, 0, 94, 0, 0), some (10, 0, 95, 0, 0), some (6, 1, 98, 138, 0)], [none, none, some (26, 0, 99, 0, 0), some (8, 4, 102, 0, 0), none, none, some (0, 1, 103, 0, 0), some (1, 0, 104, 0, nI 5), some (2, 0, 105, 0, 0), some (10, 0, 106, 0, 0), some (6, 1, 109, 113, 0), none, none, some (1, 0, 110, 0, nI 1), some (7, 0, 114, 0, 0), none], [none, some (1, 0, 114, 0, nI 0), some (26, 0, 115, 0, 0), some (8, 4, 118, 0, 0), none, none, some (0, 1, 119, 0, 0), some (1, 0, 121, 0, nI 6), none, some (2, 0, 122, 0, 0), some (10, 0, 123, 0, 0), some (6, 1, 126, 130, 0), none, none, some (1, 0, 127, 0, nI 1), some (7, 0, 131, 0, 0)], [none, none, some (1, 0, 131, 0, nI 0), some (5, 1, 134, 138, 0), none, none, some (1, 0, 135, 0, nI 1), some (7, 0, 139, 0, 0), none, none, some (1, 0, 139, 0, nI 0), some (13, 1, 0, 0, 0)]]
def tb_X4_follow : List (List (Option Op)) := [[some (0, 1, 1, 0, 0), some (1, 0, 2, 0, nI 3), some (2, 3, 3, 0, 0), some (1, 0, 4, 0, nI 1), some (5, 5, 7, 14, 0), none, none, some (26, 0, 8, 0, 0), some (1, 0, 9, 0, nI 0), some (9, 4, 12, 5, 0), none, none, some (1, 0, 13, 0, nI 0), some (13, 1, 0, 0, 0), some (26, 0, 15, 0, 0), some (0, 1, 16, 0, 0)], [some (1, 0, 17, 0, nI 2), some (2, 4, 18, 0, 0), some (0, 2, 19, 0, 0), some (14, 125, 22, 66, 0), none, none, some (13, 1, 0, 0, 0)]]
def tb_X4_walkTable : List (List (Option Op)) := [[some (26, 0, 1, 0, 0), some (1, 0, 2, 0, nI 3), some (14, 89, 5, 65, 0), none, none, some (3, 2, 6, 0, 0), some (1, 0, 7, 0, nI 0), some (3, 3, 8, 0, 0), some (0, 3, 9, 0, 0), some (1, 0, 11, 0, nI 8), none, some (5, 3, 14, 175, 0), none, none, some (26, 0, 15, 0, 0), some (8, 4, 18, 0, 0)], [none, none, some (1, 0, 19, 0, nI 3), some (0, 1, 20, 0, 0), some (15, 88, 23, 66, 0), none, none, some (0, 3, 24, 0, 0), some (2, 0, 25, 0, 0), some (10, 0, 26, 0, 0), some (3, 4, 28, 0, 0), none, some (0, 4, 30, 0, 0), none, some (6, 0, 33, 169, 0), none], [none, some (26, 0, 34, 0, 0), some (26, 0, 35, 0, 0), some (8, 4, 38, 5, 0), none, none, some (6, 0, 41, 53, 0), none, none, some (1, 0, 43, 0, nI 8), none, some (0, 3, 44, 0, 0), some (2, 2, 45, 0, 0), some (0, 2, 46, 0, 0), some (5, 3, 49, 53, 0), none], [none, some (1, 0, 50, 0, nI 1), some (7, 0, 54, 0, 0), none, none, some (1, 0, 54, 0, nI 0), some (9, 4, 57, 5, 0), none, none, some (26, 0, 58, 0, 0), some (0, 4, 60, 0, 0), none, some (1, 0, 62, 0, nI 100), none, some (0, 3, 63, 0, 0), some (2, 0, 64, 0, 0)], [some (14, 127, 67, 66, 0), none, none, some (3, 5, 69, 0, 0), none, some (1, 0, 70, 0, nI 0), some (3, 6, 72, 0, 0), none, some (0, 6, 74, 0, 0), none, some (1, 0, 76, 0, nI 8), none, some (5, 3, 79, 169, 0), none, none, some (0, 5, 81, 0, 0)], [none, some (6, 0, 84, 169, 0), none, none, some (26, 0, 85, 0, 0), some (8, 4, 88, 0, 0), none, none, some (1, 0, 89, 0, nI 3), some (0, 4, 91, 0, 0), none, some (1, 0, 92, 0, nI 2), some (2, 4, 93, 0, 0), some (15, 88, 96, 66, 0), none, none], [some (0, 6, 98, 0, 0), none, some (2, 0, 99, 0, 0), some (10, 0, 100, 0, 0), some (3, 7, 102, 0, 0), none, some (26, 0, 103, 0, 0), some (26, 0, 104, 0, 0), some (8, 4, 107, 5, 0), none, none, some (6, 0, 110, 130, 0), none, none, some (0, 7, 112, 0, 0), none], [some (6, 0, 115, 126, 0), none, none, some (1, 0, 117, 0, nI 8), none, some (0, 3, 118, 0, 0), some (2, 2, 119, 0, 0), some (0, 6, 121, 0, 0), none, some (2, 0, 122, 0, 0), some (0, 2, 123, 0, 0), some (5, 3, 126, 130, 0), none, none, some (1, 0, 127, 0, nI 1), some (7, 0, 131, 0, 0)], [none, none, some (1, 0, 131, 0, nI 0), some (9, 4, 134, 5, 0), none, none, some (0, 7, 136, 0, 0), none, some (6, 0, 139, 163, 0), none, none, some (0, 7, 141, 0, 0), none, some (1, 0, 142, 0, nI 2), some (5, 0, 145, 163, 0), none], [none, some (26, 0, 146, 0, 0), some (0, 7, 148, 0, 0), none, some (1, 0, 151, 0, nI 200), none, none, some (1, 0, 153, 0, nI 8), none, some (0, 3, 154, 0, 0), some (2, 2, 155, 0, 0), some (2, 0, 156, 0, 0), some (0, 6, 158, 0, 0), none, some (2, 0, 159, 0, 0), some (14, 127, 162, 66, 0)], [none, none, some (20, 0, 163, 0, 0), some (4, 6, 166, 0, nI 1), none, none, some (7, 0, 72, 0, 0), none, none, some (4, 3, 172, 0, nI 1), none, none, some (7, 0, 8, 0, 0), none, none, some (17, 0, 0, 0, 0)]]
def tb_X4_usesRight : List (List (Option Op)) := [[some (26, 0, 1, 0, 0), some (1, 0, 2, 0, nI 1), some (9, 4, 5, 5, 0), none, none, some (1, 0, 6, 0, nI 0), some (3, 1, 7, 0, 0), some (0, 1, 8, 0, 0), some (1, 0, 10, 0, nI 64), none, some (5, 3, 13, 26, 0), none, none, some (26, 0, 14, 0, 0), some (8, 4, 17, 4, 0), none], [none, some (0, 1, 18, 0, 0), some (1, 0, 19, 0, nI 0), some (11, 0, 20, 0, 0), some (4, 1, 23, 0, nI 1), none, none, some (7, 0, 7, 0, 0), none, none, some (26, 0, 27, 0, 0), some (26, 0, 28, 0, 0), some (8, 4, 31, 0, 0), none, none, some (1, 0, 34, 0, nI 1539)], [none, none, some (10, 0, 35, 0, 0), some (1, 0, 36, 0, nI 1), some (14, 125, 39, 66, 0), none, none, some (3, 1, 40, 0, 0), some (26, 0, 41, 0, 0), some (26, 0, 42, 0, 0), some (8, 4, 45, 0, 0), none, none, some (1, 0, 48, 0, nI 1540), none, none], [some (10, 0, 49, 0, 0), some (1, 0, 50, 0, nI 2), some (14, 125, 53, 66, 0), none, none, some (3, 2, 54, 0, 0), some (1, 0, 55, 0, nI 0), some (3, 3, 56, 0, 0), some (0, 3, 57, 0, 0), some (1, 0, 59, 0, nI 8), none, some (5, 3, 62, 109, 0), none, none, some (0, 2, 63, 0, 0), some (6, 0, 66, 109, 0)], [none, none, some (26, 0, 67, 0, 0), some (8, 4, 70, 0, 0), none, none, some (1, 0, 71, 0, nI 3), some (26, 0, 72, 0, 0), some (8, 4, 75, 0, 0), none, none, some (1, 0, 78, 0, nI 1540), none, none, some (10, 0, 79, 0, 0), some (15, 88, 82, 66, 0)], [none, none, some (0, 3, 83, 0, 0), some (2, 0, 84, 0, 0), some (10, 0, 85, 0, 0), some (3, 4, 87, 0, 0), none, some (0, 4, 89, 0, 0), none, some (6, 0, 92, 103, 0), none, none, some (26, 0, 93, 0, 0), some (0, 4, 95, 0, 0), none, some (1, 0, 97, 0, nI 10)], [none, some (0, 3, 98, 0, 0), some (2, 0, 99, 0, 0), some (14, 125, 102, 66, 0), none, none, some (20, 0, 103, 0, 0), some (4, 3, 106, 0, nI 1), none, none, some (7, 0, 56, 0, 0), none, none, some (26, 0, 110, 0, 0), some (8, 4, 113, 0, 0), none], [none, some (1, 0, 116, 0, nI 1542), none, none, some (10, 0, 117, 0, 0), some (6, 0, 120, 140, 0), none, none, some (26, 0, 121, 0, 0), some (26, 0, 122, 0, 0), some (8, 4, 125, 0, 0), none, none, some (1, 0, 128, 0, nI 1542), none, none], [some (10, 0, 129, 0, 0), some (1, 0, 130, 0, nI 3), some (14, 125, 133, 66, 0), none, none, some (6, 0, 136, 140, 0), none, none, some (1, 0, 137, 0, nI 1), some (7, 0, 141, 0, 0), none, none, some (1, 0, 141, 0, nI 0), some (3, 3, 142, 0, 0), some (1, 0, 143, 0, nI 0), some (3, 4, 145, 0, 0)], [none, some (0, 4, 147, 0, 0), none, some (26, 0, 148, 0, 0), some (1, 0, 149, 0, nI 3), some (14, 90, 152, 65, 0), none, none, some (5, 3, 155, 213, 0), none, none, some (0, 3, 156, 0, 0), some (6, 0, 159, 213, 0), none, none, some (26, 0, 160, 0, 0)], [some (8, 4, 163, 0, 0), none, none, some (1, 0, 164, 0, nI 3), some (26, 0, 165, 0, 0), some (8, 4, 168, 0, 0), none, none, some (1, 0, 171, 0, nI 1542), none, none, some (10, 0, 172, 0, 0), some (15, 88, 175, 66, 0), none, none, some (1, 0, 176, 0, nI 2)], [some (0, 4, 178, 0, 0), none, some (2, 2, 179, 0, 0), some (2, 0, 180, 0, 0), some (10, 0, 181, 0, 0), some (3, 5, 183, 0, 0), none, some (26, 0, 184, 0, 0), some (0, 5, 186, 0, 0), none, some (1, 0, 188, 0, nI 20), none, some (0, 4, 190, 0, 0), none, some (2, 0, 191, 0, 0), some (14, 125, 194, 66, 0)], [none, none, some (3, 6, 196, 0, 0), none, some (0, 6, 198, 0, 0), none, some (6, 0, 201, 207, 0), none, none, some (26, 0, 202, 0, 0), some (0, 5, 204, 0, 0), none, some (14, 128, 207, 65, 0), none, none, some (4, 4, 210, 0, nI 1)], [none, none, some (7, 0, 145, 0, 0), none, none, some (0, 1, 214, 0, 0), some (6, 0, 217, 229, 0), none, none, some (26, 0, 218, 0, 0), some (26, 0, 219, 0, 0), some (8, 4, 222, 0, 0), none, none, some (1, 0, 225, 0, nI 1539), none], [none, some (10, 0, 226, 0, 0), some (14, 128, 229, 65, 0), none, none, some (26, 0, 230, 0, 0), some (8, 4, 233, 5, 0), none, none, some (13, 1, 0, 0, 0)]]
def tb_X4_listRight : List (List (Option Op)) := [[some (26, 0, 1, 0, 0), some (1, 0, 2, 0, nI 3), some (14, 90, 5, 65, 0), none, none, some (3, 1, 6, 0, 0), some (0, 1, 7, 0, 0), some (6, 1, 10, 12, 0), none, none, some (1, 0, 11, 0, nI 1), some (13, 1, 0, 0, 0), some (1, 0, 13, 0, nI 3), some (26, 0, 14, 0, 0), some (8, 4, 17, 0, 0), none], [none, some (1, 0, 20, 0, nI 1542), none, none, some (10, 0, 21, 0, 0), some (15, 88, 24, 66, 0), none, none, some (3, 2, 25, 0, 0), some (1, 0, 26, 0, nI 1), some (3, 3, 27, 0, 0), some (1, 0, 28, 0, nI 2), some (0, 1, 29, 0, 0), some (2, 2, 30, 0, 0), some (3, 4, 32, 0, 0), none], [some (0, 4, 34, 0, 0), none, some (1, 0, 36, 0, nI 8), none, some (5, 3, 39, 67, 0), none, none, some (0, 3, 40, 0, 0), some (6, 0, 43, 59, 0), none, none, some (26, 0, 44, 0, 0), some (8, 4, 47, 0, 0), none, none, some (0, 2, 48, 0, 0)], [some (0, 4, 50, 0, 0), none, some (2, 0, 51, 0, 0), some (10, 0, 52, 0, 0), some (6, 1, 55, 59, 0), none, none, some (1, 0, 56, 0, nI 1), some (7, 0, 60, 0, 0), none, none, some (1, 0, 60, 0, nI 0), some (3, 3, 61, 0, 0), some (4, 4, 64, 0, nI 1), none, none], [some (7, 0, 32, 0, 0), none, none, some (1, 0, 68, 0, nI 0), some (3, 4, 70, 0, 0), none, some (0, 4, 72, 0, 0), none, some (0, 1, 73, 0, 0), some (5, 3, 76, 137, 0), none, none, some (1, 0, 77, 0, nI 0), some (3, 5, 79, 0, 0), none, some (0, 5, 81, 0, 0)], [none, some (0, 4, 83, 0, 0), none, some (5, 3, 86, 131, 0), none, none, some (0, 3, 87, 0, 0), some (6, 0, 90, 123, 0), none, none, some (26, 0, 91, 0, 0), some (8, 4, 94, 0, 0), none, none, some (0, 2, 95, 0, 0), some (1, 0, 96, 0, nI 2)], [some (0, 5, 98, 0, 0), none, some (2, 2, 99, 0, 0), some (2, 0, 100, 0, 0), some (1, 0, 101, 0, nI 1), some (2, 0, 102, 0, 0), some (10, 0, 103, 0, 0), some (26, 0, 104, 0, 0), some (8, 4, 107, 0, 0), none, none, some (0, 2, 108, 0, 0), some (1, 0, 109, 0, nI 2), some (0, 4, 111, 0, 0), none, some (2, 2, 112, 0, 0)], [some (2, 0, 113, 0, 0), some (1, 0, 114, 0, nI 1), some (2, 0, 115, 0, 0), some (10, 0, 116, 0, 0), some (5, 0, 119, 123, 0), none, none, some (1, 0, 120, 0, nI 1), some (7, 0, 124, 0, 0), none, none, some (1, 0, 124, 0, nI 0), some (3, 3, 125, 0, 0), some (4, 5, 128, 0, nI 1), none, none], [some (7, 0, 79, 0, 0), none, none, some (4, 4, 134, 0, nI 1), none, none, some (7, 0, 70, 0, 0), none, none, some (0, 3, 138, 0, 0), some (13, 1, 0, 0, 0)]]
def tb_X4_countsRight : List (List (Option Op)) := [[some (26, 0, 1, 0, 0), some (1, 0, 2, 0, nI 3), some (14, 92, 5, 65, 0), none, none, some (1, 0, 6, 0, nI 3), some (26, 0, 7, 0, 0), some (8, 4, 10, 0, 0), none, none, some (1, 0, 13, 0, nI 1540), none, none, some (10, 0, 14, 0, 0), some (15, 88, 17, 66, 0), none], [none, some (3, 1, 18, 0, 0), some (1, 0, 19, 0, nI 1), some (3, 2, 20, 0, 0), some (1, 0, 21, 0, nI 0), some (3, 3, 22, 0, 0), some (0, 3, 23, 0, 0), some (1, 0, 25, 0, nI 64), none, some (5, 3, 28, 95, 0), none, none, some (26, 0, 29, 0, 0), some (8, 4, 32, 0, 0), none, none], [some (0, 1, 33, 0, 0), some (0, 3, 34, 0, 0), some (1, 0, 36, 0, nI 8), none, some (2, 5, 37, 0, 0), some (2, 0, 38, 0, 0), some (10, 0, 39, 0, 0), some (3, 4, 41, 0, 0), none, some (0, 4, 43, 0, 0), none, some (6, 1, 46, 50, 0), none, none, some (1, 0, 47, 0, nI 0), some (7, 0, 66, 0, 0)], [none, none, some (26, 0, 51, 0, 0), some (8, 4, 54, 0, 0), none, none, some (1, 0, 55, 0, nI 3), some (0, 4, 57, 0, 0), none, some (15, 88, 60, 66, 0), none, none, some (0, 3, 61, 0, 0), some (1, 0, 63, 0, nI 8), none, some (2, 6, 64, 0, 0)], [some (2, 0, 65, 0, 0), some (10, 0, 66, 0, 0), some (3, 5, 68, 0, 0), none, some (0, 2, 69, 0, 0), some (6, 0, 72, 87, 0), none, none, some (0, 5, 74, 0, 0), none, some (26, 0, 75, 0, 0), some (8, 4, 78, 3, 0), none, none, some (0, 3, 79, 0, 0), some (10, 0, 80, 0, 0)], [some (5, 1, 83, 87, 0), none, none, some (1, 0, 84, 0, nI 1), some (7, 0, 88, 0, 0), none, none, some (1, 0, 88, 0, nI 0), some (3, 2, 89, 0, 0), some (4, 3, 92, 0, nI 1), none, none, some (7, 0, 22, 0, 0), none, none, some (0, 2, 96, 0, 0)], [some (13, 1, 0, 0, 0)]]
def tb_X4_marksRight : List (List (Option Op)) := [[some (1, 0, 1, 0, nI 1), some (3, 1, 2, 0, 0), some (1, 0, 3, 0, -1), some (3, 2, 4, 0, 0), some (0, 2, 5, 0, 0), some (26, 0, 6, 0, 0), some (1, 0, 7, 0, nI 3), some (14, 90, 10, 65, 0), none, none, some (5, 3, 13, 134, 0), none, none, some (26, 0, 14, 0, 0), some (1, 0, 15, 0, nI 3), some (0, 2, 16, 0, 0)], [some (14, 91, 19, 66, 0), none, none, some (3, 3, 20, 0, 0), some (1, 0, 21, 0, nI 0), some (3, 4, 23, 0, 0), none, some (0, 4, 25, 0, 0), none, some (1, 0, 27, 0, nI 8), none, some (5, 3, 30, 128, 0), none, none, some (26, 0, 31, 0, 0), some (8, 4, 34, 0, 0)], [none, none, some (0, 3, 35, 0, 0), some (0, 4, 37, 0, 0), none, some (2, 0, 38, 0, 0), some (10, 0, 39, 0, 0), some (3, 5, 41, 0, 0), none, some (0, 1, 42, 0, 0), some (6, 0, 45, 60, 0), none, none, some (0, 5, 47, 0, 0), none, some (26, 0, 48, 0, 0)], [some (0, 5, 50, 0, 0), none, some (14, 94, 53, 65, 0), none, none, some (5, 1, 56, 60, 0), none, none, some (1, 0, 57, 0, nI 1), some (7, 0, 61, 0, 0), none, none, some (1, 0, 61, 0, nI 0), some (3, 1, 62, 0, 0), some (1, 0, 63, 0, nI 0), some (3, 6, 65, 0, 0)], [none, some (0, 6, 67, 0, 0), none, some (1, 0, 69, 0, nI 8), none, some (5, 3, 72, 122, 0), none, none, some (0, 5, 74, 0, 0), none, some (6, 0, 77, 122, 0), none, none, some (26, 0, 78, 0, 0), some (8, 4, 81, 0, 0), none], [none, some (1, 0, 82, 0, nI 3), some (0, 5, 84, 0, 0), none, some (1, 0, 85, 0, nI 4), some (2, 5, 86, 0, 0), some (15, 88, 89, 66, 0), none, none, some (0, 6, 91, 0, 0), none, some (2, 0, 92, 0, 0), some (10, 0, 93, 0, 0), some (3, 7, 95, 0, 0), none, some (0, 1, 96, 0, 0)], [some (6, 0, 99, 114, 0), none, none, some (0, 7, 101, 0, 0), none, some (26, 0, 102, 0, 0), some (0, 7, 104, 0, 0), none, some (14, 94, 107, 65, 0), none, none, some (5, 1, 110, 114, 0), none, none, some (1, 0, 111, 0, nI 1), some (7, 0, 115, 0, 0)], [none, none, some (1, 0, 115, 0, nI 0), some (3, 1, 116, 0, 0), some (4, 6, 119, 0, nI 1), none, none, some (7, 0, 65, 0, 0), none, none, some (4, 4, 125, 0, nI 1), none, none, some (7, 0, 23, 0, 0), none, none], [some (4, 2, 131, 0, nI 1), none, none, some (7, 0, 4, 0, 0), none, none, some (0, 1, 135, 0, 0), some (13, 1, 0, 0, 0)]]
def tb_X4_restRight : List (List (Option Op)) := [[some (1, 0, 1, 0, nI 1), some (3, 1, 2, 0, 0), some (1, 0, 4, 0, nI 8), none, some (3, 2, 5, 0, 0), some (0, 2, 6, 0, 0), some (1, 0, 9, 0, nI 512), none, none, some (5, 3, 12, 53, 0), none, none, some (0, 1, 13, 0, 0), some (6, 0, 16, 45, 0), none, none], [some (26, 0, 17, 0, 0), some (8, 4, 20, 4, 0), none, none, some (0, 2, 21, 0, 0), some (1, 0, 23, 0, nI 8), none, some (2, 5, 24, 0, 0), some (10, 0, 25, 0, 0), some (6, 1, 28, 41, 0), none, none, some (26, 0, 29, 0, 0), some (8, 4, 32, 0, 0), none, none], [some (1, 0, 35, 0, nI 1536), none, none, some (0, 2, 36, 0, 0), some (2, 0, 37, 0, 0), some (10, 0, 38, 0, 0), some (6, 1, 41, 45, 0), none, none, some (1, 0, 42, 0, nI 1), some (7, 0, 46, 0, 0), none, none, some (1, 0, 46, 0, nI 0), some (3, 1, 47, 0, 0), some (4, 2, 50, 0, nI 1)], [none, none, some (7, 0, 5, 0, 0), none, none, some (0, 1, 54, 0, 0), some (13, 1, 0, 0, 0)]]
def tb_X4_load : List (List (Option Op)) := [[some (1, 0, 1, 0, nI 0), some (3, 1, 2, 0, 0), some (0, 1, 3, 0, 0), some (1, 0, 6, 0, nI 512), none, none, some (5, 3, 9, 31, 0), none, none, some (26, 0, 10, 0, 0), some (8, 4, 13, 0, 0), none, none, some (1, 0, 16, 0, nI 1536), none, none], [some (0, 1, 17, 0, 0), some (2, 0, 18, 0, 0), some (26, 0, 19, 0, 0), some (8, 4, 22, 1, 0), none, none, some (0, 1, 23, 0, 0), some (10, 0, 24, 0, 0), some (11, 0, 25, 0, 0), some (4, 1, 28, 0, nI 1), none, none, some (7, 0, 2, 0, 0), none, none, some (26, 0, 32, 0, 0)], [some (14, 126, 35, 64, 0), none, none, some (6, 1, 38, 40, 0), none, none, some (1, 0, 39, 0, nI 1), some (13, 0, 0, 0, 0), some (26, 0, 41, 0, 0), some (14, 129, 44, 64, 0), none, none, some (6, 1, 47, 49, 0), none, none, some (1, 0, 48, 0, nI 2)], [some (13, 0, 0, 0, 0), some (26, 0, 50, 0, 0), some (14, 130, 53, 64, 0), none, none, some (6, 1, 56, 58, 0), none, none, some (1, 0, 57, 0, nI 3), some (13, 0, 0, 0, 0), some (26, 0, 59, 0, 0), some (14, 131, 62, 64, 0), none, none, some (6, 1, 65, 67, 0), none], [none, some (1, 0, 66, 0, nI 4), some (13, 0, 0, 0, 0), some (26, 0, 68, 0, 0), some (14, 132, 71, 64, 0), none, none, some (6, 1, 74, 76, 0), none, none, some (1, 0, 75, 0, nI 5), some (13, 0, 0, 0, 0), some (26, 0, 77, 0, 0), some (14, 133, 80, 64, 0), none, none], [some (6, 1, 83, 86, 0), none, none, some (1, 0, 85, 0, nI 6), none, some (13, 0, 0, 0, 0), some (26, 0, 87, 0, 0), some (1, 0, 88, 0, nI 3), some (1, 0, 89, 0, nI 0), some (14, 117, 92, 66, 0), none, none, some (26, 0, 93, 0, 0), some (1, 0, 94, 0, nI 1), some (9, 4, 97, 2, 0), none], [none, some (1, 0, 98, 0, nI 0), some (13, 0, 0, 0, 0)]]
def tbl_0 : List (List (List (Option Op))) := [tb_X0_init, tb_X0_at, tb_X0_put, tb_X0_becomeLike, tb_X0_copyCluster, tb_X0_isBlank, tb_X0_format, tb_X0_count, tb_X0_addToCount, tb_X0_clustersInUse, tb_X0_room, tb_X0_take, tb_X0_leastFree, tb_X1_init, tb_X1_blocks, tb_X1_hasBlock]
def tbl_1 : List (List (List (Option Op))) := [tb_X1_hasAddress, tb_X1_activeTable, tb_X1_leafLead, tb_X1_blockWord, tb_X1_activeWord, tb_X1_putActiveWord, tb_X1_shown, tb_X1_putWord, tb_X1_dropBlock, tb_X1_dropChanges, tb_X1_makeZero, tb_X1_release, tb_X1_isOwn, tb_X1_leavesFor, tb_X1_clustersFor, tb_X1_giveLeaf]
def tbl_2 : List (List (List (Option Op))) := [tb_X1_giveCluster, tb_X1_tellFlags, tb_X1_tellFlagsBelow, tb_X1_tellFlagsIn, tb_X1_snapshotCount, tb_X1_snapshotList, tb_X1_snapshotTable, tb_X1_snapshotNamed, tb_X1_addSnapshot, tb_X1_returnTo, tb_X1_removeSnapshot, tb_X1_closeListGap, tb_X1_countTable, tb_X1_countLeaf, tb_X1_takeIn, tb_X1_takingsFor]
def tbl_3 : List (List (List (Option Op))) := [tb_X2_init, tb_X2_firstWrong, tb_X2_isHeaderRight, tb_X2_areLeadsRight, tb_X2_claim, tb_X2_areHeaderLeadsRight, tb_X2_areCountLeadsRight, tb_X2_areListLeadsRight, tb_X2_areTableLeadsRight, tb_X2_areLeafLeadsRight, tb_X2_clusterLedTo, tb_X2_isListRight, tb_X2_areCountsRight, tb_X2_areFlagsRight, tb_X2_hasFlags, tb_X2_areFlagsRightIn]
def tbl_4 : List (List (List (Option Op))) := [tb_X2_areOthersBlank, tb_X3_init, tb_X3_write, tb_X3_read, tb_X3_discard, tb_X3_snapshot, tb_X3_revert, tb_X3_delete, tb_X3_readOld, tb_X3_overlay, tb_X3_commit, tb_X3_grow, tb_X3_size, tb_X3_images, tb_X3_used, tb_X3_word]
def tbl_5 : List (List (List (Option Op))) := [tb_X3_stage, tb_X3_load, tb_X3_top, tb_X3_isLead, tb_X3_clusterOf, tb_X3_leadTo, tb_X4_init, tb_X4_fresh, tb_X4_at, tb_X4_sizeOf, tb_X4_snapshots, tb_X4_table, tb_X4_recount, tb_X4_countLeaf, tb_X4_marked, tb_X4_settle]
def tbl_6 : List (List (List (Option Op))) := [tb_X4_leastFree, tb_X4_take, tb_X4_room, tb_X4_slot, tb_X4_entry, tb_X4_shows, tb_X4_lacksLeaf, tb_X4_lacksCluster, tb_X4_ownLeaf, tb_X4_own, tb_X4_isAddress, tb_X4_write, tb_X4_read, tb_X4_drop, tb_X4_discard, tb_X4_named]
def tbl_7 : List (List (List (Option Op))) := [tb_X4_snapshot, tb_X4_revert, tb_X4_delete, tb_X4_readOld, tb_X4_overlay, tb_X4_copyFile, tb_X4_commit, tb_X4_grow, tb_X4_size, tb_X4_images, tb_X4_used, tb_X4_word, tb_X4_stage, tb_X4_lead, tb_X4_headerRight, tb_X4_follow]
def tbl_8 : List (List (List (Option Op))) := [tb_X4_walkTable, tb_X4_usesRight, tb_X4_listRight, tb_X4_countsRight, tb_X4_marksRight, tb_X4_restRight, tb_X4_load]
def tblT : List (List (List (List (Option Op)))) := [tbl_0, tbl_1, tbl_2, tbl_3, tbl_4, tbl_5, tbl_6, tbl_7, tbl_8]
def opAt (mi pc : Nat) : Option Op := match nth2 tblT mi with
  | none => none
  | some t => match nth2 t pc with
    | some (some o) => some o
    | _ => none
abbrev MX0_init : Nat := 0
abbrev MX0_at : Nat := 1
abbrev MX0_put : Nat := 2
abbrev MX0_becomeLike : Nat := 3
abbrev MX0_copyCluster : Nat := 4
abbrev MX0_isBlank : Nat := 5
abbrev MX0_format : Nat := 6
abbrev MX0_count : Nat := 7
abbrev MX0_addToCount : Nat := 8
abbrev MX0_clustersInUse : Nat := 9
abbrev MX0_room : Nat := 10
abbrev MX0_take : Nat := 11
abbrev MX0_leastFree : Nat := 12
abbrev MX1_init : Nat := 13
abbrev MX1_blocks : Nat := 14
abbrev MX1_hasBlock : Nat := 15
abbrev MX1_hasAddress : Nat := 16
abbrev MX1_activeTable : Nat := 17
abbrev MX1_leafLead : Nat := 18
abbrev MX1_blockWord : Nat := 19
abbrev MX1_activeWord : Nat := 20
abbrev MX1_putActiveWord : Nat := 21
abbrev MX1_shown : Nat := 22
abbrev MX1_putWord : Nat := 23
abbrev MX1_dropBlock : Nat := 24
abbrev MX1_dropChanges : Nat := 25
abbrev MX1_makeZero : Nat := 26
abbrev MX1_release : Nat := 27
abbrev MX1_isOwn : Nat := 28
abbrev MX1_leavesFor : Nat := 29
abbrev MX1_clustersFor : Nat := 30
abbrev MX1_giveLeaf : Nat := 31
abbrev MX1_giveCluster : Nat := 32
abbrev MX1_tellFlags : Nat := 33
abbrev MX1_tellFlagsBelow : Nat := 34
abbrev MX1_tellFlagsIn : Nat := 35
abbrev MX1_snapshotCount : Nat := 36
abbrev MX1_snapshotList : Nat := 37
abbrev MX1_snapshotTable : Nat := 38
abbrev MX1_snapshotNamed : Nat := 39
abbrev MX1_addSnapshot : Nat := 40
abbrev MX1_returnTo : Nat := 41
abbrev MX1_removeSnapshot : Nat := 42
abbrev MX1_closeListGap : Nat := 43
abbrev MX1_countTable : Nat := 44
abbrev MX1_countLeaf : Nat := 45
abbrev MX1_takeIn : Nat := 46
abbrev MX1_takingsFor : Nat := 47
abbrev MX2_init : Nat := 48
abbrev MX2_firstWrong : Nat := 49
abbrev MX2_isHeaderRight : Nat := 50
abbrev MX2_areLeadsRight : Nat := 51
abbrev MX2_claim : Nat := 52
abbrev MX2_areHeaderLeadsRight : Nat := 53
abbrev MX2_areCountLeadsRight : Nat := 54
abbrev MX2_areListLeadsRight : Nat := 55
abbrev MX2_areTableLeadsRight : Nat := 56
abbrev MX2_areLeafLeadsRight : Nat := 57
abbrev MX2_clusterLedTo : Nat := 58
abbrev MX2_isListRight : Nat := 59
abbrev MX2_areCountsRight : Nat := 60
abbrev MX2_areFlagsRight : Nat := 61
abbrev MX2_hasFlags : Nat := 62
abbrev MX2_areFlagsRightIn : Nat := 63
abbrev MX2_areOthersBlank : Nat := 64
abbrev MX3_init : Nat := 65
abbrev MX3_write : Nat := 66
abbrev MX3_read : Nat := 67
abbrev MX3_discard : Nat := 68
abbrev MX3_snapshot : Nat := 69
abbrev MX3_revert : Nat := 70
abbrev MX3_delete : Nat := 71
abbrev MX3_readOld : Nat := 72
abbrev MX3_overlay : Nat := 73
abbrev MX3_commit : Nat := 74
abbrev MX3_grow : Nat := 75
abbrev MX3_size : Nat := 76
abbrev MX3_images : Nat := 77
abbrev MX3_used : Nat := 78
abbrev MX3_word : Nat := 79
abbrev MX3_stage : Nat := 80
abbrev MX3_load : Nat := 81
abbrev MX3_top : Nat := 82
abbrev MX3_isLead : Nat := 83
abbrev MX3_clusterOf : Nat := 84
abbrev MX3_leadTo : Nat := 85
abbrev MX4_init : Nat := 86
abbrev MX4_fresh : Nat := 87
abbrev MX4_at : Nat := 88
abbrev MX4_sizeOf : Nat := 89
abbrev MX4_snapshots : Nat := 90
abbrev MX4_table : Nat := 91
abbrev MX4_recount : Nat := 92
abbrev MX4_countLeaf : Nat := 93
abbrev MX4_marked : Nat := 94
abbrev MX4_settle : Nat := 95
abbrev MX4_leastFree : Nat := 96
abbrev MX4_take : Nat := 97
abbrev MX4_room : Nat := 98
abbrev MX4_slot : Nat := 99
abbrev MX4_entry : Nat := 100
abbrev MX4_shows : Nat := 101
abbrev MX4_lacksLeaf : Nat := 102
abbrev MX4_lacksCluster : Nat := 103
abbrev MX4_ownLeaf : Nat := 104
abbrev MX4_own : Nat := 105
abbrev MX4_isAddress : Nat := 106
abbrev MX4_write : Nat := 107
abbrev MX4_read : Nat := 108
abbrev MX4_drop : Nat := 109
abbrev MX4_discard : Nat := 110
abbrev MX4_named : Nat := 111
abbrev MX4_snapshot : Nat := 112
abbrev MX4_revert : Nat := 113
abbrev MX4_delete : Nat := 114
abbrev MX4_readOld : Nat := 115
abbrev MX4_overlay : Nat := 116
abbrev MX4_copyFile : Nat := 117
abbrev MX4_commit : Nat := 118
abbrev MX4_grow : Nat := 119
abbrev MX4_size : Nat := 120
abbrev MX4_images : Nat := 121
abbrev MX4_used : Nat := 122
abbrev MX4_word : Nat := 123
abbrev MX4_stage : Nat := 124
abbrev MX4_lead : Nat := 125
abbrev MX4_headerRight : Nat := 126
abbrev MX4_follow : Nat := 127
abbrev MX4_walkTable : Nat := 128
abbrev MX4_usesRight : Nat := 129
abbrev MX4_listRight : Nat := 130
abbrev MX4_countsRight : Nat := 131
abbrev MX4_marksRight : Nat := 132
abbrev MX4_restRight : Nat := 133
abbrev MX4_load : Nat := 134
def vlinks : List (Nat × Nat × Nat × Nat) := [(3, 15, 13, 83), (1, 11, 0, 89), (3, 20, 0, 108), (3, 27, 48, 111), (3, 48, 6, 128), (0, 25, 2, 132), (3, 52, 82, 153), (3, 56, 16, 157), (1, 26, 14, 161), (1, 22, 1, 165), (3, 60, 23, 169), (1, 54, 29, 173), (1, 44, 18, 177), (1, 30, 17, 181), (1, 92, 28, 185), (1, 89, 7, 195), (0, 21, 1, 199), (1, 57, 30, 200), (1, 51, 20, 204), (1, 41, 19, 208), (1, 60, 10, 212), (0, 33, 9, 216), (0, 29, 7, 220), (1, 63, 31, 221), (1, 95, 11, 225), (0, 37, 12, 229), (0, 40, 8, 233), (1, 98, 4, 237), (1, 47, 2, 244), (1, 83, 27, 245), (1, 86, 8, 249), (1, 67, 32, 250), (1, 106, 22, 254), (1, 79, 21, 258), (1, 70, 33, 262), (1, 109, 34, 266), (1, 118, 35, 270), (1, 112, 36, 274), (1, 115, 38, 278), (1, 121, 37, 282), (3, 63, 17, 290), (3, 67, 22, 291), (3, 70, 15, 296), (3, 73, 24, 300), (1, 73, 25, 304), (1, 76, 26, 308), (3, 77, 40, 316), (1, 124, 39, 320), (1, 127, 44, 324), (1, 133, 45, 328), (3, 80, 39, 336), (3, 83, 41, 337), (3, 86, 42, 345), (1, 130, 43, 349), (3, 91, 38, 358), (3, 94, 14, 363), (3, 101, 36, 368), (3, 104, 46, 369), (1, 136, 47, 373), (3, 108, 2, 381), (3, 112, 9, 394), (3, 115, 1, 399), (3, 118, 49, 408), (2, 18, 50, 412), (2, 37, 1, 415), (2, 22, 51, 416), (2, 43, 53, 420), (2, 56, 52, 424), (2, 46, 54, 428), (2, 49, 55, 432), (2, 52, 56, 436), (2, 60, 58, 440), (2, 67, 57, 444), (2, 25, 59, 448), (2, 71, 5, 451), (2, 28, 60, 455), (2, 74, 7, 459), (2, 31, 61, 460), (2, 77, 62, 464), (2, 81, 63, 467), (2, 34, 64, 473), (3, 122, 3, 477), (4, 29, 87, 493), (4, 33, 95, 497), (4, 51, 92, 501), (4, 37, 88, 505), (4, 41, 90, 508), (4, 45, 91, 512), (4, 48, 93, 516), (4, 54, 94, 520), (4, 88, 106, 550), (4, 85, 89, 554), (4, 68, 102, 558), (4, 78, 103, 562), (4, 65, 100, 566), (4, 61, 99, 570), (4, 92, 98, 574), (4, 95, 105, 578), (4, 75, 104, 582), (4, 72, 97, 586), (4, 57, 96, 590), (4, 81, 101, 594), (4, 98, 109, 606), (4, 101, 111, 614), (4, 106, 117, 639), (4, 122, 126, 671), (4, 126, 129, 675), (4, 113, 125, 679), (4, 119, 128, 683), (4, 116, 127, 687), (4, 129, 130, 691), (4, 132, 131, 695), (4, 135, 132, 699), (4, 138, 133, 703)]
def nlinks : List (Nat × Nat × Nat × Nat) := [(1, 33, 83, 189), (1, 37, 84, 192), (1, 102, 85, 241), (2, 64, 84, 443), (2, 84, 83, 471), (2, 87, 85, 472)]
def flinks : List (Nat × Nat × Nat × Nat × Nat) := [(0, 9, 0, 0, 93), (1, 12, 1, 0, 98), (1, 18, 1, 1, 100), (2, 11, 2, 0, 115), (2, 15, 2, 1, 116), (3, 11, 3, 0, 136), (3, 32, 3, 1, 137), (3, 21, 3, 2, 138), (3, 28, 3, 3, 139), (4, 7, 4, 0, 524), (4, 13, 4, 1, 525), (4, 25, 4, 2, 526), (4, 16, 4, 3, 527), (4, 19, 4, 4, 528), (4, 109, 4, 5, 529), (4, 22, 4, 6, 530)]
def fnlinks : List (Nat × Nat × Nat × Nat × Nat) := [(3, 36, 1, 0, 99), (3, 97, 1, 1, 101)]
def cplace : List Nat := [91, 168, 135, 480, 240, 454, 131, 198, 236, 219, 215, 228, 232, 85, 164, 299, 160, 184, 180, 211, 207, 261, 257, 172, 303, 307, 311, 248, 188, 176, 203, 224, 253, 265, 269, 273, 277, 285, 281, 323, 319, 340, 348, 352, 327, 331, 372, 376, 113, 411, 414, 419, 427, 423, 431, 435, 439, 447, 442, 450, 458, 463, 466, 470, 476, 76, 152, 289, 295, 315, 335, 344, 356, 362, 367, 380, 385, 389, 393, 398, 403, 407, 156, 191, 194, 243, 491, 496, 507, 557, 511, 515, 504, 519, 523, 500, 593, 589, 577, 573, 569, 597, 561, 565, 585, 581, 553, 549, 601, 609, 605, 617, 613, 621, 625, 629, 634, 642, 638, 646, 650, 654, 658, 662, 666, 682, 674, 690, 686, 678, 694, 698, 702, 706, 670]
def iplace : List Nat := [90, 166, 133, 478, 238, 452, 129, 196, 234, 217, 213, 226, 231, 84, 162, 297, 158, 182, 179, 210, 206, 260, 255, 170, 301, 306, 310, 247, 187, 175, 202, 223, 252, 264, 268, 272, 275, 284, 279, 321, 317, 338, 346, 351, 326, 330, 370, 375, 112, 409, 413, 418, 426, 422, 430, 434, 438, 446, 441, 449, 457, 462, 465, 469, 475, 75, 150, 287, 293, 313, 333, 342, 354, 360, 365, 378, 383, 387, 391, 396, 401, 405, 155, 190, 193, 242, 490, 495, 506, 556, 510, 514, 503, 518, 522, 499, 592, 588, 576, 572, 568, 596, 560, 564, 584, 580, 552, 547, 599, 608, 603, 616, 611, 619, 623, 627, 632, 641, 636, 644, 648, 652, 656, 660, 664, 681, 673, 689, 685, 677, 693, 697, 701, 705, 668]
def splace : List Nat := [0, 167, 134, 479, 239, 453, 130, 197, 235, 218, 214, 227, 8, 0, 163, 298, 159, 183, 2, 6, 5, 11, 256, 171, 302, 16, 17, 9, 3, 1, 4, 7, 10, 12, 13, 14, 276, 15, 280, 322, 318, 339, 347, 20, 18, 19, 371, 21, 0, 410, 0, 22, 24, 23, 25, 26, 27, 28, 0, 0, 29, 30, 0, 31, 32, 0, 151, 288, 294, 314, 334, 343, 355, 361, 366, 379, 384, 388, 392, 397, 402, 406, 0, 0, 0, 0, 0, 33, 0, 41, 36, 37, 35, 38, 39, 34, 50, 49, 46, 45, 44, 51, 42, 43, 48, 47, 40, 548, 600, 52, 604, 53, 612, 620, 624, 628, 633, 54, 637, 645, 649, 653, 657, 661, 665, 57, 55, 59, 58, 56, 60, 61, 62, 63, 669]
def tplace : List Nat := [67, 66, 68, 65, 70]
end
section
/-! ===== a small machine over the fixed world of cells: places, values, steps, runs ===== -/
/-- a cell of the world: its kind and its number among its kind (kinds 0..4: objects of the classes X0..X4, 5: the chain's row, 10..15: rows of ints) -/
abbrev xP : Type := Nat × Nat
/-- a value: an int, a reference or null, a long -/
abbrev xV : Type := Int32 ⊕ (Option xP ⊕ Int64)
/-- the ints of all cells -/
abbrev xH : Type := xP → Nat → Int32
abbrev xL : Type := List (Option xV)
abbrev xR : Type := Option ((Nat × xL × List xV × xH) ⊕ ((Nat × Nat × List xV × List xV) ⊕ Option xV))
abbrev vI (x : Int32) : xV := .inl x
abbrev vR (p : xP) : xV := .inr (.inl (some p))
abbrev vN : xV := .inr (.inl none)
abbrev vJ (x : Int64) : xV := .inr (.inr x)
def allP : List xP := [(0,0),(0,1),(0,2),(0,3),(1,0),(1,1),(1,2),(2,0),(3,0),(4,0),(5,0),(10,0),(10,1),(10,2),(10,3),(11,0),(11,1),(12,0),(13,0),(14,0),(14,1),(15,0)]
/-- the reference fields of the cells: they never change -/
def shp (p : xP) (k : Nat) : Option (Option xP) := match p.1, k with
  | 0, 0 => some (some (10, p.2))
  | 1, 0 => some (some (0, p.2))
  | 1, 1 => some (match p.2 with
    | 0 => none
    | j + 1 => some (1, j))
  | 2, 0 => some (some (11, 0))
  | 2, 1 => some (some (11, 1))
  | 3, 0 => some (some (5, 0))
  | 3, 2 => some (some (0, 3))
  | 3, 3 => some (some (2, 0))
  | 4, 0 => some (some (12, 0))
  | 4, 1 => some (some (13, 0))
  | 4, 3 => some (some (14, 0))
  | 4, 4 => some (some (14, 1))
  | 4, 6 => some (some (15, 0))
  | _, _ => none
/-- how many fields an object has, and how long a row of ints is -/
def nfld (c : Nat) : Nat := match c with
  | 0 => 1
  | 1 => 2
  | 2 => 2
  | 3 => 4
  | 4 => 7
  | _ => 0
def alen (c : Nat) : Nat := match c with
  | 10 => 512
  | 11 => 64
  | 12 => 2048
  | 13 => 512
  | 14 => 64
  | 15 => 8
  | _ => 0
def hup (h : xH) (p : xP) (f : Nat → Int32) : xH := fun q => if q = p then f else h q
def hpt (h : xH) (p : xP) (i : Nat) (x : Int32) : xH := hup h p (upd (h p) i x)
def inb (i : Int32) (n : Nat) : Bool := decide (¬ (i < 0 ∨ n ≤ i.toNatClampNeg))
def okP (q : xP) : Bool := decide (q ∈ allP)
def lsetK {α : Type} : xL → Nat → xV → (xL → Option α) → Option α
  | [], _, _, _ => none
  | _ :: l, 0, v, k => k (some v :: l)
  | o :: l, n + 1, v, k => lsetK l n v (fun l' => k (o :: l'))
/-- takes n values off a stack, the deepest one first -/
def takeK {α : Type} : Nat → List xV → List xV → (List xV → List xV → Option α) → Option α
  | 0, st, acc, k => k acc st
  | _ + 1, [], _, _ => none
  | _ + 1, .inr (.inr _) :: _, _, _ => none
  | n + 1, .inl x :: st, acc, k => takeK n st (.inl x :: acc) k
  | n + 1, .inr (.inl q) :: st, acc, k => takeK n st (.inr (.inl q) :: acc) k
def catL : List xV → Nat
  | [] => 0
  | .inr (.inr _) :: l => catL l + 2
  | _ :: l => catL l + 1
def binK {α : Type} (a : Nat) (x y : Int32) (k : Int32 → Option α) : Option α := match a with
  | 0 => k (x + y)
  | 1 => k (x - y)
  | 2 => k (x * y)
  | 3 => k (x &&& y)
  | 4 => k (x >>> (y &&& 31))
  | 5 => if y = 0 then none else k (x / y)
  | 6 => if y = 0 then none else k (x - x / y * y)
  | _ => none
def cmpN (a : Nat) (x y : Int32) (tg nx : Nat) : Nat := match a with
  | 0 => if x = y then tg else nx
  | 1 => if x = y then nx else tg
  | 2 => if x < y then tg else nx
  | 3 => if x < y then nx else tg
  | 4 => if y < x then tg else nx
  | _ => if y < x then nx else tg
def exV (a nx tg : Nat) (stk : List xV) : xR :=
  takeK (tg % 16) stk [] fun as st => match st with
    | .inr (.inl (some p)) :: r => bif Nat.beq p.1 (tg / 16) && Nat.ble (catL r) 8 then some (.inr (.inl (a, nx, vR p :: as, r))) else none
    | _ => none
def exS (a nx tg : Nat) (stk : List xV) : xR :=
  takeK (tg % 16) stk [] fun as r => bif Nat.ble (catL r) 8 then some (.inr (.inl (a, nx, as, r))) else none
def ex (k a nx tg : Nat) (c : Int32) (loc : xL) (stk : List xV) (h : xH) : xR := match k with
  | 0 => match nth loc a with
    | some (some (.inl x)) => some (.inl (nx, loc, vI x :: stk, h))
    | _ => none
  | 1 => some (.inl (nx, loc, vI c :: stk, h))
  | 2 => match stk with
    | .inl y :: .inl x :: r => binK a x y fun z => some (.inl (nx, loc, vI z :: r, h))
    | _ => none
  | 3 => match stk with
    | .inl x :: r => lsetK loc a (vI x) fun l => some (.inl (nx, l, r, h))
    | _ => none
  | 4 => match nth loc a with
    | some (some (.inl x)) => lsetK loc a (vI (x + c)) fun l => some (.inl (nx, l, stk, h))
    | _ => none
  | 5 => match stk with
    | .inl y :: .inl x :: r => some (.inl (cmpN a x y tg nx, loc, r, h))
    | _ => none
  | 6 => match stk with
    | .inl x :: r => some (.inl (cmpN a x 0 tg nx, loc, r, h))
    | _ => none
  | 7 => some (.inl (nx, loc, stk, h))
  | 8 => match stk with
    | .inr (.inl (some p)) :: r => bif Nat.beq p.1 a then (match shp p tg with
      | some q => some (.inl (nx, loc, .inr (.inl q) :: r, h))
      | none => some (.inl (nx, loc, vI (h p tg) :: r, h))) else none
    | _ => none
  | 9 => match stk with
    | .inl x :: .inr (.inl (some p)) :: r => bif Nat.beq p.1 a then (match shp p tg with
      | some _ => none
      | none => bif Nat.beq a 4 && Nat.beq tg 5 then (if x &&& 1 = x then some (.inl (nx, loc, r, hpt h p tg x)) else none) else some (.inl (nx, loc, r, hpt h p tg x))) else none
    | _ => none
  | 10 => match stk with
    | .inl i :: .inr (.inl (some p)) :: r => bif Nat.ble 10 p.1 then (if inb i (alen p.1) = true then some (.inl (nx, loc, vI (h p i.toNatClampNeg) :: r, h)) else none) else none
    | _ => none
  | 11 => match stk with
    | .inl x :: .inl i :: .inr (.inl (some p)) :: r => bif Nat.ble 10 p.1 then (if inb i (alen p.1) = true then some (.inl (nx, loc, r, hpt h p i.toNatClampNeg x)) else none) else none
    | _ => none
  | 12 => match stk with
    | .inl i :: .inr (.inl (some p)) :: r => bif Nat.beq p.1 5 then (if inb i 3 = true then some (.inl (nx, loc, vR (1, i.toNatClampNeg) :: r, h)) else none) else none
    | _ => none
  | 13 => match a with
    | 0 => match stk with
      | [.inl x] => some (.inr (.inr (some (vI x))))
      | _ => none
    | 1 => match stk with
      | [.inl x] => if x &&& 1 = x then some (.inr (.inr (some (vI x)))) else none
      | _ => none
    | 2 => match stk with
      | [.inr (.inl (some q))] => if okP q = true then some (.inr (.inr (some (.inr (.inl (some q)))))) else none
      | _ => none
    | 3 => match stk with
      | [.inr (.inr x)] => some (.inr (.inr (some (vJ x))))
      | _ => none
    | _ => none
  | 14 => exV a nx tg stk
  | 15 => exS a nx tg stk
  | 16 => exS a nx tg stk
  | 17 => match stk with
    | [] => some (.inr (.inr none))
    | _ => none
  | 18 => match stk with
    | .inr (.inr _) :: _ => none
    | v :: r => some (.inl (nx, loc, v :: v :: r, h))
    | _ => none
  | 19 => match stk with
    | .inr (.inr _) :: _ => none
    | _ :: .inr (.inr _) :: _ => none
    | v :: w :: r => some (.inl (nx, loc, v :: w :: v :: w :: r, h))
    | _ => none
  | 20 => match stk with
    | .inr (.inr _) :: _ => none
    | _ :: r => some (.inl (nx, loc, r, h))
    | _ => none
  | 21 => match stk with
    | .inr (.inl none) :: r => some (.inl (tg, loc, r, h))
    | .inr (.inl (some _)) :: r => some (.inl (nx, loc, r, h))
    | _ => none
  | 22 => match stk with
    | .inr (.inl none) :: r => some (.inl (nx, loc, r, h))
    | .inr (.inl (some _)) :: r => some (.inl (tg, loc, r, h))
    | _ => none
  | 23 => match stk with
    | .inl x :: r => some (.inl (nx, loc, vJ x.toInt64 :: r, h))
    | _ => none
  | 24 => some (.inl (nx, loc, vJ 4294967296 :: stk, h))
  | 26 => match nth loc a with
    | some (some (.inr (.inl q))) => some (.inl (nx, loc, .inr (.inl q) :: stk, h))
    | _ => none
  | 27 => match stk with
    | .inr (.inl q) :: r => lsetK loc a (.inr (.inl q)) fun l => some (.inl (nx, l, r, h))
    | _ => none
  | 25 => match stk with
    | .inl n :: .inl dp :: .inr (.inl (some q)) :: .inl sp :: .inr (.inl (some p)) :: r =>
      bif Nat.beq p.1 10 && Nat.beq q.1 10 && Nat.ble (catL r) 8 then (if n = 512 ∧ dp = 0 ∧ sp = 0 then some (.inl (nx, loc, r, hup h q (va_cpy (h p) (h q) 0 0 512))) else none) else none
    | _ => none
  | _ => none
def stp (mi pc : Nat) (loc : xL) (stk : List xV) (h : xH) : xR := match opAt mi pc with
  | none => none
  | some (k, a, nx, tg, c) => ex k a nx tg c loc stk h
def ent0 (mj : Nat) (as : List xV) : xL := as.map some ++ List.replicate (mL mj - as.length) none
def pshO (r : Option xV) (st : List xV) : List xV := match r with
  | none => st
  | some v => v :: st
def run : Nat → Nat → Nat → Nat → xL → List xV → xH → Option (Option xV × xH)
  | 0, _, _, _, _, _, _ => none
  | n + 1, d, mi, pc, loc, stk, h => match stp mi pc loc stk h with
    | none => none
    | some (.inl (pc', loc', stk', h')) => run n d mi pc' loc' stk' h'
    | some (.inr (.inl (mj, nx, as, rest))) => match d with
      | 0 => none
      | d' + 1 => match run n d' mj 0 (ent0 mj as) [] h with
        | none => none
        | some (r, h') => run n (d' + 1) mi nx loc (pshO r rest) h'
    | some (.inr (.inr r)) => some (r, h)
theorem run_mono : ∀ (n d mi pc : Nat) (loc : xL) (stk : List xV) (h : xH) (x : Option xV × xH), run n d mi pc loc stk h = some x → run (n + 1) d mi pc loc stk h = some x := by
  intro n
  induction n with
  | zero => intro d mi pc loc stk h x hx; simp [run] at hx
  | succ n ih =>
    intro d mi pc loc stk h x hx
    rw [run] at hx ⊢
    split at hx
    · cases hx
    · next e => exact ih _ _ _ _ _ _ _ hx
    · next e =>
      cases d with
      | zero => simp at hx
      | succ d' =>
        simp only at hx ⊢
        split at hx
        · cases hx
        · next r h' er =>
          rw [ih _ _ _ _ _ _ _ er]
          exact ih _ _ _ _ _ _ _ hx
    · next e => exact hx
theorem run_add {n d mi pc : Nat} {loc : xL} {stk : List xV} {h : xH} {x : Option xV × xH} (k : Nat) (hx : run n d mi pc loc stk h = some x) : run (n + k) d mi pc loc stk h = some x := by
  induction k with
  | zero => exact hx
  | succ k ih => exact run_mono _ _ _ _ _ _ _ _ ih
/-- from this state the method comes to its end with r, the ints are h' then -/
def Rn (d mi pc : Nat) (loc : xL) (stk : List xV) (h : xH) (r : Option xV) (h' : xH) : Prop := ∃ n, run n d mi pc loc stk h = some (r, h')
def Cl (d mi : Nat) (as : List xV) (h : xH) (r : Option xV) (h' : xH) : Prop := Rn d mi 0 (ent0 mi as) [] h r h'
def stpN : Nat → Nat → Nat → xL → List xV → xH → Option (Nat × xL × List xV × xH)
  | 0, _, pc, loc, stk, h => some (pc, loc, stk, h)
  | n + 1, mi, pc, loc, stk, h => match stp mi pc loc stk h with
    | some (.inl (pc', loc', stk', h')) => stpN n mi pc' loc' stk' h'
    | _ => none
section RN
variable {d mi pc pc' nx t f : Nat} {loc loc' : xL} {stk stk' rest : List xV} {h h' h1 hf : xH} {r r1 : Option xV} {as : List xV} {mj : Nat}
theorem rn1 (hs : stp mi pc loc stk h = some (.inl (pc', loc', stk', h'))) (k : Rn d mi pc' loc' stk' h' r hf) : Rn d mi pc loc stk h r hf := by
  obtain ⟨n, hn⟩ := k
  exact ⟨n + 1, by rw [run, hs]; exact hn⟩
theorem rnN (n : Nat) (hs : stpN n mi pc loc stk h = some (pc', loc', stk', h')) (k : Rn d mi pc' loc' stk' h' r hf) : Rn d mi pc loc stk h r hf := by
  induction n generalizing pc loc stk h with
  | zero => simp only [stpN, Option.some.injEq, Prod.mk.injEq] at hs; obtain ⟨rfl, rfl, rfl, rfl⟩ := hs; exact k
  | succ n ih =>
    rw [stpN] at hs
    split at hs
    · next e => exact rn1 e (ih hs)
    · cases hs
/-- a step behind a test that must hold -/
theorem rnC {c : Prop} [Decidable c] (hc : c) (hs : stp mi pc loc stk h = if c then some (.inl (pc', loc', stk', h')) else none) (k : Rn d mi pc' loc' stk' h' r hf) : Rn d mi pc loc stk h r hf :=
  rn1 (by rw [hs, if_pos hc]) k
/-- a branch -/
theorem rnB {c : Prop} [Decidable c] (hs : stp mi pc loc stk h = some (.inl (if c then t else f, loc', stk', h'))) (kt : c → Rn d mi t loc' stk' h' r hf) (kf : ¬ c → Rn d mi f loc' stk' h' r hf) : Rn d mi pc loc stk h r hf := by
  by_cases hc : c
  · exact rn1 (by rw [hs, if_pos hc]) (kt hc)
  · exact rn1 (by rw [hs, if_neg hc]) (kf hc)
theorem rnT {c : Prop} [Decidable c] (hc : c) (hs : stp mi pc loc stk h = some (.inl (if c then t else f, loc', stk', h'))) (kt : Rn d mi t loc' stk' h' r hf) : Rn d mi pc loc stk h r hf := rn1 (by rw [hs, if_pos hc]) kt
theorem rnF {c : Prop} [Decidable c] (hc : ¬ c) (hs : stp mi pc loc stk h = some (.inl (if c then t else f, loc', stk', h'))) (kf : Rn d mi f loc' stk' h' r hf) : Rn d mi pc loc stk h r hf := rn1 (by rw [hs, if_neg hc]) kf
/-- a call -/
theorem rnK (hs : stp mi pc loc stk h = some (.inr (.inl (mj, nx, as, rest)))) (hc : Cl d mj as h r1 h1) (k : Rn (d + 1) mi nx loc (pshO r1 rest) h1 r hf) : Rn (d + 1) mi pc loc stk h r hf := by
  obtain ⟨n, hn⟩ := hc
  obtain ⟨n2, hn2⟩ := k
  refine ⟨(n + n2) + 1, ?_⟩
  rw [run, hs]
  simp only
  rw [run_add n2 hn]
  simp only
  rw [Nat.add_comm n n2]
  exact run_add n hn2
theorem rnR (hs : stp mi pc loc stk h = some (.inr (.inr r))) : Rn d mi pc loc stk h r h := ⟨1, by rw [run, hs]⟩
theorem rnRC {c : Prop} [Decidable c] (hc : c) (hs : stp mi pc loc stk h = if c then some (.inr (.inr r)) else none) : Rn d mi pc loc stk h r h := ⟨1, by rw [run, hs, if_pos hc]⟩
theorem Rn.deep (k : Rn d mi pc loc stk h r hf) : Rn (d + 1) mi pc loc stk h r hf := by
  obtain ⟨n, hn⟩ := k
  refine ⟨n, ?_⟩
  induction n generalizing d mi pc loc stk h r hf with
  | zero => simp [run] at hn
  | succ n ih =>
    rw [run] at hn ⊢
    split at hn
    · cases hn
    · next e => exact ih hn
    · next e =>
      cases d with
      | zero => simp at hn
      | succ d' =>
        simp only at hn ⊢
        split at hn
        · cases hn
        · next r1 h1 er =>
          rw [ih er]
          exact ih hn
    · next e => exact hn
theorem Cl.deep {d mi : Nat} {as : List xV} {h h' : xH} {r : Option xV} (k : Cl d mi as h r h') : Cl (d + 1) mi as h r h' := Rn.deep k
/-- a loop with a counter -/
theorem rnL {α : Type} (n : Nat) (W : Nat → Prop) (hs : ∀ i, i < n → W (i + 1) → W i) (he : W n) : W 0 := by
  induction n with
  | zero => exact he
  | succ n ih => exact ih (fun i hi => hs i (Nat.lt_succ_of_lt hi)) (hs n (Nat.lt_succ_self n) he)
end RN
end
section
/-! ===== the tables of steps are the methods' bytecode: resolved by program, checked by the kernel ===== -/
def vl (own idx : Nat) : Option Nat := (vlinks.find? fun q => Nat.beq q.1 own && Nat.beq q.2.1 idx).map (fun q => q.2.2.1)
def nl (own idx : Nat) : Option Nat := (nlinks.find? fun q => Nat.beq q.1 own && Nat.beq q.2.1 idx).map (fun q => q.2.2.1)
def fl (own idx : Nat) : Option (Nat × Nat) := (flinks.find? fun q => Nat.beq q.1 own && Nat.beq q.2.1 idx).map (fun q => (q.2.2.1, q.2.2.2.1))
def fnl (own idx : Nat) : Option (Nat × Nat) := (fnlinks.find? fun q => Nat.beq q.1 own && Nat.beq q.2.1 idx).map (fun q => (q.2.2.1, q.2.2.2.1))
def cnum (c : Jvm.ClassFile.Cond) : Nat := match c with
  | .eq => 0
  | .ne => 1
  | .lt => 2
  | .ge => 3
  | .gt => 4
  | .le => 5
/-- an instruction as a step -/
def ab (mi pc : Nat) (ins : Instr) (len : Nat) : Option Op := match ins with
  | .iload_n k => if len = 1 then some (0, k.val, pc + 1, 0, 0) else none
  | .iload i => if len = 2 then some (0, i, pc + 2, 0, 0) else none
  | .aload_n k => if len = 1 then some (26, k.val, pc + 1, 0, 0) else none
  | .aload i => if len = 2 then some (26, i, pc + 2, 0, 0) else none
  | .iconst n => if len = 1 then some (1, 0, pc + 1, 0, Int32.ofInt n) else none
  | .bipush n => if len = 2 then some (1, 0, pc + 2, 0, (Int8.ofInt n).toInt32) else none
  | .sipush n => if len = 3 then some (1, 0, pc + 3, 0, (Int16.ofInt n).toInt32) else none
  | .iadd => if len = 1 then some (2, 0, pc + 1, 0, 0) else none
  | .isub => if len = 1 then some (2, 1, pc + 1, 0, 0) else none
  | .imul => if len = 1 then some (2, 2, pc + 1, 0, 0) else none
  | .iand => if len = 1 then some (2, 3, pc + 1, 0, 0) else none
  | .ishr => if len = 1 then some (2, 4, pc + 1, 0, 0) else none
  | .idiv => if len = 1 then some (2, 5, pc + 1, 0, 0) else none
  | .irem => if len = 1 then some (2, 6, pc + 1, 0, 0) else none
  | .istore_n k => if len = 1 ∧ k.val < mL mi then some (3, k.val, pc + 1, 0, 0) else none
  | .istore i => if len = 2 ∧ i < mL mi then some (3, i, pc + 2, 0, 0) else none
  | .astore_n k => if len = 1 ∧ k.val < mL mi then some (27, k.val, pc + 1, 0, 0) else none
  | .astore i => if len = 2 ∧ i < mL mi then some (27, i, pc + 2, 0, 0) else none
  | .iinc i n => if len = 3 ∧ i < mL mi then some (4, i, pc + 3, 0, Int32.ofInt n) else none
  | .if_icmp c off => if len = 3 ∧ 0 ≤ (pc : Int) + off then some (5, cnum c, pc + 3, ((pc : Int) + off).toNat, 0) else none
  | .ifCond c off => if len = 3 ∧ 0 ≤ (pc : Int) + off then some (6, cnum c, pc + 3, ((pc : Int) + off).toNat, 0) else none
  | .goto off => if len = 3 ∧ 0 ≤ (pc : Int) + off then some (7, 0, ((pc : Int) + off).toNat, 0, 0) else none
  | .ifnull off => if len = 3 ∧ 0 ≤ (pc : Int) + off then some (21, 0, pc + 3, ((pc : Int) + off).toNat, 0) else none
  | .ifnonnull off => if len = 3 ∧ 0 ≤ (pc : Int) + off then some (22, 0, pc + 3, ((pc : Int) + off).toNat, 0) else none
  | .getfield idx => if len = 3 then (match fl (mOwn mi) idx with
    | some (c, k) => some (8, c, pc + 3, k, 0)
    | none => match fnl (mOwn mi) idx with
      | some (c, k) => some (8, c, pc + 3, k, 1)
      | none => none) else none
  | .putfield idx => if len = 3 then (match fl (mOwn mi) idx with
    | some (c, k) => if (c, k) = (3, 1) ∨ (c, k) = (4, 2) ∨ (c, k) = (4, 5) then some (9, c, pc + 3, k, 0) else none
    | none => none) else none
  | .iaload => if len = 1 then some (10, 0, pc + 1, 0, 0) else none
  | .iastore => if len = 1 then some (11, 0, pc + 1, 0, 0) else none
  | .aaload => if len = 1 then some (12, 0, pc + 1, 0, 0) else none
  | .dup => if len = 1 then some (18, 0, pc + 1, 0, 0) else none
  | .dup2 => if len = 1 then some (19, 0, pc + 1, 0, 0) else none
  | .pop => if len = 1 then some (20, 0, pc + 1, 0, 0) else none
  | .i2l => if len = 1 then some (23, 0, pc + 1, 0, 0) else none
  | .ldc2_w idx => if len = 3 ∧ ((mOwn mi, idx) = (3, 89) ∨ (mOwn mi, idx) = (4, 104)) then some (24, 0, pc + 3, 0, 0) else none
  | .invokevirtual idx => if len = 3 then (match vl (mOwn mi) idx with
    | some mj => if mS mj = false ∧ (mY mj).name ≠ "<init>" then some (14, mj, pc + 3, 16 * mOwn mj + mN mj, 0) else none
    | none => none) else none
  | .invokestatic idx => if len = 3 then (match vl (mOwn mi) idx with
    | some mj => if mS mj = true ∧ mOwn mj = mOwn mi then some (15, mj, pc + 3, 16 * mOwn mj + mN mj, 0) else none
    | none => match nl (mOwn mi) idx with
      | some mj => if mS mj = true then some (16, mj, pc + 3, 16 * mOwn mj + mN mj, 0) else none
      | none => if mOwn mi = 0 ∧ idx = 15 then some (25, 0, pc + 3, 0, 0) else none) else none
  | .ireturn => if len = 1 then (if mR mi = some .int then some (13, 0, 0, 0, 0) else if mR mi = some .boolean then some (13, 1, 0, 0, 0) else none) else none
  | .areturn => if len = 1 ∧ mR mi = some (.object "LayeredImage$Image") then some (13, 2, 0, 0, 0) else none
  | .lreturn => if len = 1 ∧ mR mi = some .long then some (13, 3, 0, 0, 0) else none
  | .return_ => if len = 1 ∧ mR mi = none then some (17, 0, 0, 0, 0) else none
  | _ => none
def chk1 (mi pc : Nat) (o : Op) : Bool := match decode (mC mi) pc with
  | .ok (ins, len) => decide (ab mi pc ins len = some o)
  | _ => false
def tk (mi : Nat) : Bool := match nth2 tblT mi with
  | none => true
  | some t => (List.range (16 * t.length)).all fun pc => match nth2 t pc with
    | some (some o) => chk1 mi pc o
    | _ => true
theorem nth_lt {α : Type} {l : List α} {n : Nat} {a : α} (h : nth l n = some a) : n < l.length := by
  induction l generalizing n with
  | nil => simp [nth] at h
  | cons b l ih =>
    cases n with
    | zero => simp
    | succ n => simp only [nth] at h; have := ih h; simp; omega
end
section
/-! ===== each table of steps is its method's bytecode (printed by wip/gen/gen2.py) ===== -/
theorem tk_0 : tk 0 = true := by decide +kernel
theorem tk_1 : tk 1 = true := by decide +kernel
theorem tk_2 : tk 2 = true := by decide +kernel
theorem tk_3 : tk 3 = true := by decide +kernel
theorem tk_4 : tk 4 = true := by decide +kernel
theorem tk_5 : tk 5 = true := by decide +kernel
theorem tk_6 : tk 6 = true := by decide +kernel
theorem tk_7 : tk 7 = true := by decide +kernel
theorem tk_8 : tk 8 = true := by decide +kernel
theorem tk_9 : tk 9 = true := by decide +kernel
theorem tk_10 : tk 10 = true := by decide +kernel
theorem tk_11 : tk 11 = true := by decide +kernel
theorem tk_12 : tk 12 = true := by decide +kernel
theorem tk_13 : tk 13 = true := by decide +kernel
theorem tk_14 : tk 14 = true := by decide +kernel
theorem tk_15 : tk 15 = true := by decide +kernel
theorem tk_16 : tk 16 = true := by decide +kernel
theorem tk_17 : tk 17 = true := by decide +kernel
theorem tk_18 : tk 18 = true := by decide +kernel
theorem tk_19 : tk 19 = true := by decide +kernel
theorem tk_20 : tk 20 = true := by decide +kernel
theorem tk_21 : tk 21 = true := by decide +kernel
theorem tk_22 : tk 22 = true := by decide +kernel
theorem tk_23 : tk 23 = true := by decide +kernel
theorem tk_24 : tk 24 = true := by decide +kernel
theorem tk_25 : tk 25 = true := by decide +kernel
theorem tk_26 : tk 26 = true := by decide +kernel
theorem tk_27 : tk 27 = true := by decide +kernel
theorem tk_28 : tk 28 = true := by decide +kernel
theorem tk_29 : tk 29 = true := by decide +kernel
theorem tk_30 : tk 30 = true := by decide +kernel
theorem tk_31 : tk 31 = true := by decide +kernel
theorem tk_32 : tk 32 = true := by decide +kernel
theorem tk_33 : tk 33 = true := by decide +kernel
theorem tk_34 : tk 34 = true := by decide +kernel
theorem tk_35 : tk 35 = true := by decide +kernel
theorem tk_36 : tk 36 = true := by decide +kernel
theorem tk_37 : tk 37 = true := by decide +kernel
theorem tk_38 : tk 38 = true := by decide +kernel
theorem tk_39 : tk 39 = true := by decide +kernel
theorem tk_40 : tk 40 = true := by decide +kernel
theorem tk_41 : tk 41 = true := by decide +kernel
theorem tk_42 : tk 42 = true := by decide +kernel
theorem tk_43 : tk 43 = true := by decide +kernel
theorem tk_44 : tk 44 = true := by decide +kernel
theorem tk_45 : tk 45 = true := by decide +kernel
theorem tk_46 : tk 46 = true := by decide +kernel
theorem tk_47 : tk 47 = true := by decide +kernel
theorem tk_48 : tk 48 = true := by decide +kernel
theorem tk_49 : tk 49 = true := by decide +kernel
theorem tk_50 : tk 50 = true := by decide +kernel
theorem tk_51 : tk 51 = true := by decide +kernel
theorem tk_52 : tk 52 = true := by decide +kernel
theorem tk_53 : tk 53 = true := by decide +kernel
theorem tk_54 : tk 54 = true := by decide +kernel
theorem tk_55 : tk 55 = true := by decide +kernel
theorem tk_56 : tk 56 = true := by decide +kernel
theorem tk_57 : tk 57 = true := by decide +kernel
theorem tk_58 : tk 58 = true := by decide +kernel
theorem tk_59 : tk 59 = true := by decide +kernel
theorem tk_60 : tk 60 = true := by decide +kernel
theorem tk_61 : tk 61 = true := by decide +kernel
theorem tk_62 : tk 62 = true := by decide +kernel
theorem tk_63 : tk 63 = true := by decide +kernel
theorem tk_64 : tk 64 = true := by decide +kernel
theorem tk_65 : tk 65 = true := by decide +kernel
theorem tk_66 : tk 66 = true := by decide +kernel
theorem tk_67 : tk 67 = true := by decide +kernel
theorem tk_68 : tk 68 = true := by decide +kernel
theorem tk_69 : tk 69 = true := by decide +kernel
theorem tk_70 : tk 70 = true := by decide +kernel
theorem tk_71 : tk 71 = true := by decide +kernel
theorem tk_72 : tk 72 = true := by decide +kernel
theorem tk_73 : tk 73 = true := by decide +kernel
theorem tk_74 : tk 74 = true := by decide +kernel
theorem tk_75 : tk 75 = true := by decide +kernel
theorem tk_76 : tk 76 = true := by decide +kernel
theorem tk_77 : tk 77 = true := by decide +kernel
theorem tk_78 : tk 78 = true := by decide +kernel
theorem tk_79 : tk 79 = true := by decide +kernel
theorem tk_80 : tk 80 = true := by decide +kernel
theorem tk_81 : tk 81 = true := by decide +kernel
theorem tk_82 : tk 82 = true := by decide +kernel
theorem tk_83 : tk 83 = true := by decide +kernel
theorem tk_84 : tk 84 = true := by decide +kernel
theorem tk_85 : tk 85 = true := by decide +kernel
theorem tk_86 : tk 86 = true := by decide +kernel
theorem tk_87 : tk 87 = true := by decide +kernel
theorem tk_88 : tk 88 = true := by decide +kernel
theorem tk_89 : tk 89 = true := by decide +kernel
theorem tk_90 : tk 90 = true := by decide +kernel
theorem tk_91 : tk 91 = true := by decide +kernel
theorem tk_92 : tk 92 = true := by decide +kernel
theorem tk_93 : tk 93 = true := by decide +kernel
theorem tk_94 : tk 94 = true := by decide +kernel
theorem tk_95 : tk 95 = true := by decide +kernel
theorem tk_96 : tk 96 = true := by decide +kernel
theorem tk_97 : tk 97 = true := by decide +kernel
theorem tk_98 : tk 98 = true := by decide +kernel
theorem tk_99 : tk 99 = true := by decide +kernel
theorem tk_100 : tk 100 = true := by decide +kernel
theorem tk_101 : tk 101 = true := by decide +kernel
theorem tk_102 : tk 102 = true := by decide +kernel
theorem tk_103 : tk 103 = true := by decide +kernel
theorem tk_104 : tk 104 = true := by decide +kernel
theorem tk_105 : tk 105 = true := by decide +kernel
theorem tk_106 : tk 106 = true := by decide +kernel
theorem tk_107 : tk 107 = true := by decide +kernel
theorem tk_108 : tk 108 = true := by decide +kernel
theorem tk_109 : tk 109 = true := by decide +kernel
theorem tk_110 : tk 110 = true := by decide +kernel
theorem tk_111 : tk 111 = true := by decide +kernel
theorem tk_112 : tk 112 = true := by decide +kernel
theorem tk_113 : tk 113 = true := by decide +kernel
theorem tk_114 : tk 114 = true := by decide +kernel
theorem tk_115 : tk 115 = true := by decide +kernel
theorem tk_116 : tk 116 = true := by decide +kernel
theorem tk_117 : tk 117 = true := by decide +kernel
theorem tk_118 : tk 118 = true := by decide +kernel
theorem tk_119 : tk 119 = true := by decide +kernel
theorem tk_120 : tk 120 = true := by decide +kernel
theorem tk_121 : tk 121 = true := by decide +kernel
theorem tk_122 : tk 122 = true := by decide +kernel
theorem tk_123 : tk 123 = true := by decide +kernel
theorem tk_124 : tk 124 = true := by decide +kernel
theorem tk_125 : tk 125 = true := by decide +kernel
theorem tk_126 : tk 126 = true := by decide +kernel
theorem tk_127 : tk 127 = true := by decide +kernel
theorem tk_128 : tk 128 = true := by decide +kernel
theorem tk_129 : tk 129 = true := by decide +kernel
theorem tk_130 : tk 130 = true := by decide +kernel
theorem tk_131 : tk 131 = true := by decide +kernel
theorem tk_132 : tk 132 = true := by decide +kernel
theorem tk_133 : tk 133 = true := by decide +kernel
theorem tk_134 : tk 134 = true := by decide +kernel
set_option maxRecDepth 20000 in
theorem tk_all : ∀ mi, mi < 135 → tk mi = true := (lt_s (lt_s (lt_s (lt_s (lt_s (lt_s (lt_s (lt_s (lt_s (lt_s (lt_s (lt_s (lt_s (lt_s (lt_s (lt_s (lt_s (lt_s (lt_s (lt_s (lt_s (lt_s (lt_s (lt_s (lt_s (lt_s (lt_s (lt_s (lt_s (lt_s (lt_s (lt_s (lt_s (lt_s (lt_s (lt_s (lt_s (lt_s (lt_s (lt_s (lt_s (lt_s (lt_s (lt_s (lt_s (lt_s (lt_s (lt_s (lt_s (lt_s (lt_s (lt_s (lt_s (lt_s (lt_s (lt_s (lt_s (lt_s (lt_s (lt_s (lt_s (lt_s (lt_s (lt_s (lt_s (lt_s (lt_s (lt_s (lt_s (lt_s (lt_s (lt_s (lt_s (lt_s (lt_s (lt_s (lt_s (lt_s (lt_s (lt_s (lt_s (lt_s (lt_s (lt_s (lt_s (lt_s (lt_s (lt_s (lt_s (lt_s (lt_s (lt_s (lt_s (lt_s (lt_s (lt_s (lt_s (lt_s (lt_s (lt_s (lt_s (lt_s (lt_s (lt_s (lt_s (lt_s (lt_s (lt_s (lt_s (lt_s (lt_s (lt_s (lt_s (lt_s (lt_s (lt_s (lt_s (lt_s (lt_s (lt_s (lt_s (lt_s (lt_s (lt_s (lt_s (lt_s (lt_s (lt_s (lt_s (lt_s (lt_s (lt_s (lt_s (lt_s (lt_s lt_0 tk_0) tk_1) tk_2) tk_3) tk_4) tk_5) tk_6) tk_7) tk_8) tk_9) tk_10) tk_11) tk_12) tk_13) tk_14) tk_15) tk_16) tk_17) tk_18) tk_19) tk_20) tk_21) tk_22) tk_23) tk_24) tk_25) tk_26) tk_27) tk_28) tk_29) tk_30) tk_31) tk_32) tk_33) tk_34) tk_35) tk_36) tk_37) tk_38) tk_39) tk_40) tk_41) tk_42) tk_43) tk_44) tk_45) tk_46) tk_47) tk_48) tk_49) tk_50) tk_51) tk_52) tk_53) tk_54) tk_55) tk_56) tk_57) tk_58) tk_59) tk_60) tk_61) tk_62) tk_63) tk_64) tk_65) tk_66) tk_67) tk_68) tk_69) tk_70) tk_71) tk_72) tk_73) tk_74) tk_75) tk_76) tk_77) tk_78) tk_79) tk_80) tk_81) tk_82) tk_83) tk_84) tk_85) tk_86) tk_87) tk_88) tk_89) tk_90) tk_91) tk_92) tk_93) tk_94) tk_95) tk_96) tk_97) tk_98) tk_99) tk_100) tk_101) tk_102) tk_103) tk_104) tk_105) tk_106) tk_107) tk_108) tk_109) tk_110) tk_111) tk_112) tk_113) tk_114) tk_115) tk_116) tk_117) tk_118) tk_119) tk_120) tk_121) tk_122) tk_123) tk_124) tk_125) tk_126) tk_127) tk_128) tk_129) tk_130) tk_131) tk_132) tk_133) tk_134)
def PCd (mi : Nat) : Prop := Cond.code (mY mi) (mC mi) (mL mi) (mR mi) ∈ GW
theorem inT1 {w : Cond} (i : Nat) (h : tables_1_1[i]? = some w) (hg : goodWord w = true) : w ∈ GW := List.mem_filter.mpr ⟨List.mem_append_right _ (List.mem_append_left _ (List.mem_of_getElem? h)), hg⟩
theorem inT2 {w : Cond} (i : Nat) (h : tables_1_2[i]? = some w) (hg : goodWord w = true) : w ∈ GW := List.mem_filter.mpr ⟨List.mem_append_right _ (List.mem_append_right _ (List.mem_append_left _ (List.mem_of_getElem? h))), hg⟩
theorem inT3 {w : Cond} (i : Nat) (h : tables_1_3[i]? = some w) (hg : goodWord w = true) : w ∈ GW := List.mem_filter.mpr ⟨List.mem_append_right _ (List.mem_append_right _ (List.mem_append_right _ (List.mem_of_getElem? h))), hg⟩
theorem cw_0 : PCd 0 := inT1 27 rfl rfl
theorem cw_1 : PCd 1 := inT1 104 rfl rfl
theorem cw_2 : PCd 2 := inT1 71 rfl rfl
theorem cw_3 : PCd 3 := inT2 176 rfl rfl
theorem cw_4 : PCd 4 := inT1 176 rfl rfl
theorem cw_5 : PCd 5 := inT2 150 rfl rfl
theorem cw_6 : PCd 6 := inT1 67 rfl rfl
theorem cw_7 : PCd 7 := inT1 134 rfl rfl
theorem cw_8 : PCd 8 := inT1 172 rfl rfl
theorem cw_9 : PCd 9 := inT1 155 rfl rfl
theorem cw_10 : PCd 10 := inT1 151 rfl rfl
theorem cw_11 : PCd 11 := inT1 164 rfl rfl
theorem cw_12 : PCd 12 := inT1 168 rfl rfl
theorem cw_13 : PCd 13 := inT1 21 rfl rfl
theorem cw_14 : PCd 14 := inT1 100 rfl rfl
theorem cw_15 : PCd 15 := inT1 235 rfl rfl
theorem cw_16 : PCd 16 := inT1 96 rfl rfl
theorem cw_17 : PCd 17 := inT1 120 rfl rfl
theorem cw_18 : PCd 18 := inT1 116 rfl rfl
theorem cw_19 : PCd 19 := inT1 147 rfl rfl
theorem cw_20 : PCd 20 := inT1 143 rfl rfl
theorem cw_21 : PCd 21 := inT1 197 rfl rfl
theorem cw_22 : PCd 22 := inT1 193 rfl rfl
theorem cw_23 : PCd 23 := inT1 108 rfl rfl
theorem cw_24 : PCd 24 := inT1 239 rfl rfl
theorem cw_25 : PCd 25 := inT2 3 rfl rfl
theorem cw_26 : PCd 26 := inT2 7 rfl rfl
theorem cw_27 : PCd 27 := inT1 184 rfl rfl
theorem cw_28 : PCd 28 := inT1 124 rfl rfl
theorem cw_29 : PCd 29 := inT1 112 rfl rfl
theorem cw_30 : PCd 30 := inT1 139 rfl rfl
theorem cw_31 : PCd 31 := inT1 160 rfl rfl
theorem cw_32 : PCd 32 := inT1 189 rfl rfl
theorem cw_33 : PCd 33 := inT1 201 rfl rfl
theorem cw_34 : PCd 34 := inT1 205 rfl rfl
theorem cw_35 : PCd 35 := inT1 209 rfl rfl
theorem cw_36 : PCd 36 := inT1 213 rfl rfl
theorem cw_37 : PCd 37 := inT1 221 rfl rfl
theorem cw_38 : PCd 38 := inT1 217 rfl rfl
theorem cw_39 : PCd 39 := inT2 19 rfl rfl
theorem cw_40 : PCd 40 := inT2 15 rfl rfl
theorem cw_41 : PCd 41 := inT2 36 rfl rfl
theorem cw_42 : PCd 42 := inT2 44 rfl rfl
theorem cw_43 : PCd 43 := inT2 48 rfl rfl
theorem cw_44 : PCd 44 := inT2 23 rfl rfl
theorem cw_45 : PCd 45 := inT2 27 rfl rfl
theorem cw_46 : PCd 46 := inT2 68 rfl rfl
theorem cw_47 : PCd 47 := inT2 72 rfl rfl
theorem cw_48 : PCd 48 := inT1 49 rfl rfl
theorem cw_49 : PCd 49 := inT2 107 rfl rfl
theorem cw_50 : PCd 50 := inT2 110 rfl rfl
theorem cw_51 : PCd 51 := inT2 115 rfl rfl
theorem cw_52 : PCd 52 := inT2 123 rfl rfl
theorem cw_53 : PCd 53 := inT2 119 rfl rfl
theorem cw_54 : PCd 54 := inT2 127 rfl rfl
theorem cw_55 : PCd 55 := inT2 131 rfl rfl
theorem cw_56 : PCd 56 := inT2 135 rfl rfl
theorem cw_57 : PCd 57 := inT2 143 rfl rfl
theorem cw_58 : PCd 58 := inT2 138 rfl rfl
theorem cw_59 : PCd 59 := inT2 146 rfl rfl
theorem cw_60 : PCd 60 := inT2 154 rfl rfl
theorem cw_61 : PCd 61 := inT2 159 rfl rfl
theorem cw_62 : PCd 62 := inT2 162 rfl rfl
theorem cw_63 : PCd 63 := inT2 166 rfl rfl
theorem cw_64 : PCd 64 := inT2 172 rfl rfl
theorem cw_65 : PCd 65 := inT1 12 rfl rfl
theorem cw_66 : PCd 66 := inT1 88 rfl rfl
theorem cw_67 : PCd 67 := inT1 225 rfl rfl
theorem cw_68 : PCd 68 := inT1 231 rfl rfl
theorem cw_69 : PCd 69 := inT2 11 rfl rfl
theorem cw_70 : PCd 70 := inT2 31 rfl rfl
theorem cw_71 : PCd 71 := inT2 40 rfl rfl
theorem cw_72 : PCd 72 := inT2 52 rfl rfl
theorem cw_73 : PCd 73 := inT2 58 rfl rfl
theorem cw_74 : PCd 74 := inT2 63 rfl rfl
theorem cw_75 : PCd 75 := inT2 76 rfl rfl
theorem cw_76 : PCd 76 := inT2 81 rfl rfl
theorem cw_77 : PCd 77 := inT2 85 rfl rfl
theorem cw_78 : PCd 78 := inT2 89 rfl rfl
theorem cw_79 : PCd 79 := inT2 94 rfl rfl
theorem cw_80 : PCd 80 := inT2 99 rfl rfl
theorem cw_81 : PCd 81 := inT2 103 rfl rfl
theorem cw_82 : PCd 82 := inT1 92 rfl rfl
theorem cw_83 : PCd 83 := inT1 127 rfl rfl
theorem cw_84 : PCd 84 := inT1 130 rfl rfl
theorem cw_85 : PCd 85 := inT1 179 rfl rfl
theorem cw_86 : PCd 86 := inT2 187 rfl rfl
theorem cw_87 : PCd 87 := inT2 192 rfl rfl
theorem cw_88 : PCd 88 := inT2 203 rfl rfl
theorem cw_89 : PCd 89 := inT3 13 rfl rfl
theorem cw_90 : PCd 90 := inT2 207 rfl rfl
theorem cw_91 : PCd 91 := inT2 211 rfl rfl
theorem cw_92 : PCd 92 := inT2 200 rfl rfl
theorem cw_93 : PCd 93 := inT2 215 rfl rfl
theorem cw_94 : PCd 94 := inT2 219 rfl rfl
theorem cw_95 : PCd 95 := inT2 196 rfl rfl
theorem cw_96 : PCd 96 := inT3 49 rfl rfl
theorem cw_97 : PCd 97 := inT3 45 rfl rfl
theorem cw_98 : PCd 98 := inT3 33 rfl rfl
theorem cw_99 : PCd 99 := inT3 29 rfl rfl
theorem cw_100 : PCd 100 := inT3 25 rfl rfl
theorem cw_101 : PCd 101 := inT3 53 rfl rfl
theorem cw_102 : PCd 102 := inT3 17 rfl rfl
theorem cw_103 : PCd 103 := inT3 21 rfl rfl
theorem cw_104 : PCd 104 := inT3 41 rfl rfl
theorem cw_105 : PCd 105 := inT3 37 rfl rfl
theorem cw_106 : PCd 106 := inT3 9 rfl rfl
theorem cw_107 : PCd 107 := inT3 5 rfl rfl
theorem cw_108 : PCd 108 := inT3 57 rfl rfl
theorem cw_109 : PCd 109 := inT3 65 rfl rfl
theorem cw_110 : PCd 110 := inT3 61 rfl rfl
theorem cw_111 : PCd 111 := inT3 73 rfl rfl
theorem cw_112 : PCd 112 := inT3 69 rfl rfl
theorem cw_113 : PCd 113 := inT3 77 rfl rfl
theorem cw_114 : PCd 114 := inT3 81 rfl rfl
theorem cw_115 : PCd 115 := inT3 85 rfl rfl
theorem cw_116 : PCd 116 := inT3 90 rfl rfl
theorem cw_117 : PCd 117 := inT3 98 rfl rfl
theorem cw_118 : PCd 118 := inT3 94 rfl rfl
theorem cw_119 : PCd 119 := inT3 102 rfl rfl
theorem cw_120 : PCd 120 := inT3 106 rfl rfl
theorem cw_121 : PCd 121 := inT3 110 rfl rfl
theorem cw_122 : PCd 122 := inT3 114 rfl rfl
theorem cw_123 : PCd 123 := inT3 118 rfl rfl
theorem cw_124 : PCd 124 := inT3 122 rfl rfl
theorem cw_125 : PCd 125 := inT3 138 rfl rfl
theorem cw_126 : PCd 126 := inT3 130 rfl rfl
theorem cw_127 : PCd 127 := inT3 146 rfl rfl
theorem cw_128 : PCd 128 := inT3 142 rfl rfl
theorem cw_129 : PCd 129 := inT3 134 rfl rfl
theorem cw_130 : PCd 130 := inT3 150 rfl rfl
theorem cw_131 : PCd 131 := inT3 154 rfl rfl
theorem cw_132 : PCd 132 := inT3 158 rfl rfl
theorem cw_133 : PCd 133 := inT3 162 rfl rfl
theorem cw_134 : PCd 134 := inT3 126 rfl rfl
set_option maxRecDepth 20000 in
theorem cw_all : ∀ mi, mi < 135 → PCd mi := (lt_s (lt_s (lt_s (lt_s (lt_s (lt_s (lt_s (lt_s (lt_s (lt_s (lt_s (lt_s (lt_s (lt_s (lt_s (lt_s (lt_s (lt_s (lt_s (lt_s (lt_s (lt_s (lt_s (lt_s (lt_s (lt_s (lt_s (lt_s (lt_s (lt_s (lt_s (lt_s (lt_s (lt_s (lt_s (lt_s (lt_s (lt_s (lt_s (lt_s (lt_s (lt_s (lt_s (lt_s (lt_s (lt_s (lt_s (lt_s (lt_s (lt_s (lt_s (lt_s (lt_s (lt_s (lt_s (lt_s (lt_s (lt_s (lt_s (lt_s (lt_s (lt_s (lt_s (lt_s (lt_s (lt_s (lt_s (lt_s (lt_s (lt_s (lt_s (lt_s (lt_s (lt_s (lt_s (lt_s (lt_s (lt_s (lt_s (lt_s (lt_s (lt_s (lt_s (lt_s (lt_s (lt_s (lt_s (lt_s (lt_s (lt_s (lt_s (lt_s (lt_s (lt_s (lt_s (lt_s (lt_s (lt_s (lt_s (lt_s (lt_s (lt_s (lt_s (lt_s (lt_s (lt_s (lt_s (lt_s (lt_s (lt_s (lt_s (lt_s (lt_s (lt_s (lt_s (lt_s (lt_s (lt_s (lt_s (lt_s (lt_s (lt_s (lt_s (lt_s (lt_s (lt_s (lt_s (lt_s (lt_s (lt_s (lt_s (lt_s (lt_s (lt_s (lt_s lt_0 cw_0) cw_1) cw_2) cw_3) cw_4) cw_5) cw_6) cw_7) cw_8) cw_9) cw_10) cw_11) cw_12) cw_13) cw_14) cw_15) cw_16) cw_17) cw_18) cw_19) cw_20) cw_21) cw_22) cw_23) cw_24) cw_25) cw_26) cw_27) cw_28) cw_29) cw_30) cw_31) cw_32) cw_33) cw_34) cw_35) cw_36) cw_37) cw_38) cw_39) cw_40) cw_41) cw_42) cw_43) cw_44) cw_45) cw_46) cw_47) cw_48) cw_49) cw_50) cw_51) cw_52) cw_53) cw_54) cw_55) cw_56) cw_57) cw_58) cw_59) cw_60) cw_61) cw_62) cw_63) cw_64) cw_65) cw_66) cw_67) cw_68) cw_69) cw_70) cw_71) cw_72) cw_73) cw_74) cw_75) cw_76) cw_77) cw_78) cw_79) cw_80) cw_81) cw_82) cw_83) cw_84) cw_85) cw_86) cw_87) cw_88) cw_89) cw_90) cw_91) cw_92) cw_93) cw_94) cw_95) cw_96) cw_97) cw_98) cw_99) cw_100) cw_101) cw_102) cw_103) cw_104) cw_105) cw_106) cw_107) cw_108) cw_109) cw_110) cw_111) cw_112) cw_113) cw_114) cw_115) cw_116) cw_117) cw_118) cw_119) cw_120) cw_121) cw_122) cw_123) cw_124) cw_125) cw_126) cw_127) cw_128) cw_129) cw_130) cw_131) cw_132) cw_133) cw_134)
end
section
theorem opAt_lt0 : (List.range 9).all (fun k => decide ((nth2 tblT (k + 135)).isNone)) = true := by decide +kernel
theorem opAt_lt {mi : Nat} {t : List (List (Option Op))} (ht : nth2 tblT mi = some t) (h : mi < 144) : mi < 135 := by
  rcases Nat.lt_or_ge mi 135 with h1 | h1
  · exact h1
  · have h2 := List.all_eq_true.mp opAt_lt0 (mi - 135) (List.mem_range.mpr (by omega))
    rw [Nat.sub_add_cancel h1, ht] at h2
    simp at h2
theorem opAt_dec {mi pc : Nat} {o : Op} (h : opAt mi pc = some o) : ∃ ins len, decode (mC mi) pc = .ok (ins, len) ∧ ab mi pc ins len = some o := by
  unfold opAt at h
  cases ht : nth2 tblT mi with
  | none => rw [ht] at h; cases h
  | some t =>
    rw [ht] at h
    simp only at h
    cases ho : nth2 t pc with
    | none => rw [ho] at h; cases h
    | some q =>
      cases q with
      | none => rw [ho] at h; cases h
      | some o2 =>
        rw [ho] at h
        simp only [Option.some.injEq] at h
        subst h
        have hmi : mi < 144 := by
          unfold nth2 at ht
          split at ht
          · cases ht
          · next r hr =>
            have h1 := nth_lt hr
            have h2 : tblT.length = 9 := rfl
            omega
        have hpc : pc < 16 * t.length := by
          unfold nth2 at ho
          split at ho
          · cases ho
          · next r hr =>
            have h1 := nth_lt hr
            omega
        have h1 := tk_all mi (opAt_lt ht hmi)
        unfold tk at h1
        rw [ht] at h1
        have h2 := List.all_eq_true.mp h1 pc (List.mem_range.mpr hpc)
        rw [ho] at h2
        simp only [chk1] at h2
        split at h2
        · next ins len hd => exact ⟨ins, len, hd, of_decide_eq_true h2⟩
        · cases h2
/-! ===== the words of the tables ===== -/
def cT (c : Nat) : u_T := match c with
  | 0 => TX0
  | 1 => TX1
  | 2 => TX2
  | 3 => TX3
  | _ => TX4
def cTy (c : Nat) : Nat → FieldType := match c with
  | 0 => tyX0
  | 1 => tyX1
  | 2 => tyX2
  | 3 => tyX3
  | _ => tyX4
theorem lt5 {c : Nat} (h : c < 5) : c = 0 ∨ c = 1 ∨ c = 2 ∨ c = 3 ∨ c = 4 := by omega
theorem vw_at {c : Nat} (h : c < 5) : vwCl[c]? = some (cn c, cT c, nfld c) := by
  rcases lt5 h with rfl | rfl | rfl | rfl | rfl <;> rfl
theorem cTy_ok {c : Nat} (h : c < 5) : ∀ k, k < nfld c → parseFieldDescriptor (cT c k).2.2.1 = some (cTy c k) := by
  rcases lt5 h with rfl | rfl | rfl | rfl | rfl
  · exact tyX0_ok
  · exact tyX1_ok
  · exact tyX2_ok
  · exact tyX3_ok
  · exact tyX4_ok
theorem cNm {c : Nat} (h : c < 5) : ∀ a, a < nfld c → ∀ b, b < nfld c → a ≠ b → (cT c a).2.1 ≠ (cT c b).2.1 := by
  rcases lt5 h with rfl | rfl | rfl | rfl | rfl
  · exact nmX0
  · exact nmX1
  · exact nmX2
  · exact nmX3
  · exact nmX4
theorem cOwn {c k : Nat} (h : c < 5) (hk : k < nfld c) : (cT c k).1 = cn c := by
  rcases lt5 h with rfl | rfl | rfl | rfl | rfl <;> (unfold nfld at hk; simp only at hk)
  · rfl
  · rcases (show k = 0 ∨ k = 1 by omega) with rfl | rfl <;> rfl
  · rcases (show k = 0 ∨ k = 1 by omega) with rfl | rfl <;> rfl
  · rcases (show k = 0 ∨ k = 1 ∨ k = 2 ∨ k = 3 by omega) with rfl | rfl | rfl | rfl <;> rfl
  · rcases (show k = 0 ∨ k = 1 ∨ k = 2 ∨ k = 3 ∨ k = 4 ∨ k = 5 ∨ k = 6 by omega) with rfl | rfl | rfl | rfl | rfl | rfl | rfl <;> rfl
def okW (w : Cond) : Bool := goodWord w && decide (w ∈ lw_tbl)
theorem okW_in {w : Cond} (h : okW w = true) : w ∈ GW := by
  simp only [okW, Bool.and_eq_true, decide_eq_true_eq] at h
  exact List.mem_filter.mpr ⟨h.2, h.1⟩
theorem lays_all : (List.range 5).all (fun c => (u_ws (cn c) (cT c) (nfld c)).all okW) = true := by decide +kernel
theorem lays_in {c : Nat} (h : c < 5) : ∀ w ∈ u_ws (cn c) (cT c) (nfld c), w ∈ GW := fun w hw =>
  okW_in (List.all_eq_true.mp (List.all_eq_true.mp lays_all c (List.mem_range.mpr h)) w hw)
/-- a word at its place -/
def atW (i : Nat) (w : Cond) : Bool := goodWord w && decide (lw_tbl[i]? = some w)
theorem atW_in {i : Nat} {w : Cond} (h : atW i w = true) : w ∈ GW := by
  simp only [atW, Bool.and_eq_true, decide_eq_true_eq] at h
  exact inGW i h.2 h.1
theorem vl_all : vlinks.all (fun q => atW q.2.2.2 (.methodLink (cn q.1) q.2.1 (mY q.2.2.1)) && decide (q.2.2.1 < 135)) = true := by decide +kernel
theorem vl_in {own idx mj : Nat} (h : vl own idx = some mj) : Cond.methodLink (cn own) idx (mY mj) ∈ GW ∧ mj < 135 := by
  unfold vl at h
  cases hf : vlinks.find? (fun q => Nat.beq q.1 own && Nat.beq q.2.1 idx) with
  | none => rw [hf] at h; cases h
  | some q =>
    rw [hf] at h
    simp only [Option.map_some, Option.some.injEq] at h
    have h1 := List.find?_some hf
    have h2 := List.all_eq_true.mp vl_all q (List.mem_of_find?_eq_some hf)
    simp only [Bool.and_eq_true, decide_eq_true_eq, Nat.beq_eq] at h1 h2
    obtain ⟨rfl, rfl⟩ := h1
    subst h
    exact ⟨atW_in h2.1, h2.2⟩
theorem fl_all : flinks.all (fun q => atW q.2.2.2.2 (.fieldLink (cn q.1) q.2.1 (cn q.2.2.1) (cT q.2.2.1 q.2.2.2.1).2.1 (cT q.2.2.1 q.2.2.2.1).2.2.1) && decide (q.2.2.1 < 5) && decide (q.2.2.2.1 < nfld q.2.2.1)) = true := by decide +kernel
theorem fl_in {own idx c k : Nat} (h : fl own idx = some (c, k)) : Cond.fieldLink (cn own) idx (cn c) (cT c k).2.1 (cT c k).2.2.1 ∈ GW ∧ c < 5 ∧ k < nfld c := by
  unfold fl at h
  cases hf : flinks.find? (fun q => Nat.beq q.1 own && Nat.beq q.2.1 idx) with
  | none => rw [hf] at h; cases h
  | some q =>
    rw [hf] at h
    simp only [Option.map_some, Option.some.injEq, Prod.mk.injEq] at h
    have h1 := List.find?_some hf
    have h2 := List.all_eq_true.mp fl_all q (List.mem_of_find?_eq_some hf)
    simp only [Bool.and_eq_true, decide_eq_true_eq, Nat.beq_eq] at h1 h2
    obtain ⟨rfl, rfl⟩ := h1
    obtain ⟨rfl, rfl⟩ := h
    exact ⟨atW_in h2.1.1, h2.1.2, h2.2⟩
/-- the words on private members of nest mates -/
def nwl : List Cond := (nlinks.map fun q => Cond.methodLinkNest (cn q.1) q.2.1 (mY q.2.2.1) RX3) ++ (fnlinks.map fun q => Cond.fieldLinkNest (cn q.1) q.2.1 (cn q.2.2.1) (cT q.2.2.1 q.2.2.2.1).2.1 (cT q.2.2.1 q.2.2.2.1).2.2.1 RX3)
theorem nwl_all : nwl.all (fun w => decide (w ∈ lw_tbl)) = true := by decide +kernel
theorem nl_in {own idx mj : Nat} (h : nl own idx = some mj) : Cond.methodLinkNest (cn own) idx (mY mj) RX3 ∈ nwl ∧ mj < 135 := by
  have hb : nlinks.all (fun q => decide (q.2.2.1 < 135)) = true := by decide +kernel
  unfold nl at h
  cases hf : nlinks.find? (fun q => Nat.beq q.1 own && Nat.beq q.2.1 idx) with
  | none => rw [hf] at h; cases h
  | some q =>
    rw [hf] at h
    simp only [Option.map_some, Option.some.injEq] at h
    have h1 := List.find?_some hf
    have hm := List.mem_of_find?_eq_some hf
    have h2 := List.all_eq_true.mp hb q hm
    simp only [Bool.and_eq_true, decide_eq_true_eq, Nat.beq_eq] at h1 h2
    obtain ⟨rfl, rfl⟩ := h1
    subst h
    exact ⟨List.mem_append_left _ (List.mem_map.mpr ⟨q, hm, rfl⟩), h2⟩
theorem fnl_in {own idx c k : Nat} (h : fnl own idx = some (c, k)) : Cond.fieldLinkNest (cn own) idx (cn c) (cT c k).2.1 (cT c k).2.2.1 RX3 ∈ nwl ∧ c < 5 ∧ k < nfld c := by
  have hb : fnlinks.all (fun q => decide (q.2.2.1 < 5) && decide (q.2.2.2.1 < nfld q.2.2.1)) = true := by decide +kernel
  unfold fnl at h
  cases hf : fnlinks.find? (fun q => Nat.beq q.1 own && Nat.beq q.2.1 idx) with
  | none => rw [hf] at h; cases h
  | some q =>
    rw [hf] at h
    simp only [Option.map_some, Option.some.injEq, Prod.mk.injEq] at h
    have h1 := List.find?_some hf
    have hm := List.mem_of_find?_eq_some hf
    have h2 := List.all_eq_true.mp hb q hm
    simp only [Bool.and_eq_true, decide_eq_true_eq, Nat.beq_eq] at h1 h2
    obtain ⟨rfl, rfl⟩ := h1
    obtain ⟨rfl, rfl⟩ := h
    exact ⟨List.mem_append_right _ (List.mem_map.mpr ⟨q, hm, rfl⟩), h2.1, h2.2⟩
/-- a method's own words: its code, that it can be called, its class; its parameters -/
def okM (mi : Nat) : Bool := atW ((nth tplace (mOwn mi)).getD 0) (.initialized (cn (mOwn mi)))
  && (match mS mi with
    | true => atW ((nth iplace mi).getD 0) (.static (mY mi))
    | false => atW ((nth iplace mi).getD 0) (.instanceMethod (mY mi)) && ((mY mi).name == "<init>" || atW ((nth splace mi).getD 0) (.selects (mY mi).cls (mY mi) (mY mi))))
  && decide ((mY mi).cls = cn (mOwn mi)) && decide (mOwn mi < 5) && plainName (mY mi).cls && decide ((mY mi).cls ≠ "java/lang/invoke/MethodHandle") && decide ((mY mi).cls ≠ "java/lang/invoke/VarHandle")
  && decide ((parseMethodDescriptor (mY mi).desc).map (fun d => d.parameters.length) = some (mN mi)) && decide (mN mi + 1 ≤ mL mi + (if mS mi = true then 1 else 0)) && decide (mL mi ≤ 21) && decide (mN mi < 16)
theorem okM_0 : (List.range 15).all (fun k => okM (k + 0)) = true := by decide +kernel
theorem okM_1 : (List.range 15).all (fun k => okM (k + 15)) = true := by decide +kernel
theorem okM_2 : (List.range 15).all (fun k => okM (k + 30)) = true := by decide +kernel
theorem okM_3 : (List.range 15).all (fun k => okM (k + 45)) = true := by decide +kernel
theorem okM_4 : (List.range 15).all (fun k => okM (k + 60)) = true := by decide +kernel
theorem okM_5 : (List.range 15).all (fun k => okM (k + 75)) = true := by decide +kernel
theorem okM_6 : (List.range 15).all (fun k => okM (k + 90)) = true := by decide +kernel
theorem okM_7 : (List.range 15).all (fun k => okM (k + 105)) = true := by decide +kernel
theorem okM_8 : (List.range 15).all (fun k => okM (k + 120)) = true := by decide +kernel
theorem okM_all {mi : Nat} (h : mi < 135) : okM mi = true := by
  have go : ∀ (b : Nat), (List.range 15).all (fun k => okM (k + b)) = true → b ≤ mi → mi < b + 15 → okM mi = true := by
    intro b hb h1 h2
    have h3 := List.all_eq_true.mp hb (mi - b) (List.mem_range.mpr (by omega))
    rwa [Nat.sub_add_cancel h1] at h3
  by_cases h0 : mi < 15
  · exact go 0 okM_0 (by omega) (by omega)
  by_cases h1 : mi < 30
  · exact go 15 okM_1 (by omega) (by omega)
  by_cases h2 : mi < 45
  · exact go 30 okM_2 (by omega) (by omega)
  by_cases h3 : mi < 60
  · exact go 45 okM_3 (by omega) (by omega)
  by_cases h4 : mi < 75
  · exact go 60 okM_4 (by omega) (by omega)
  by_cases h5 : mi < 90
  · exact go 75 okM_5 (by omega) (by omega)
  by_cases h6 : mi < 105
  · exact go 90 okM_6 (by omega) (by omega)
  by_cases h7 : mi < 120
  · exact go 105 okM_7 (by omega) (by omega)
  exact go 120 okM_8 (by omega) (by omega)
theorem cl_in : okW (.constantLong (cn 3) 89 4294967296) = true ∧ okW (.constantLong (cn 4) 104 4294967296) = true := by decide +kernel
theorem ac_in : okW (.methodLink (cn 0) 15 arraycopyName) = true ∧ okW (.native arraycopyName) = true ∧ okW (.static arraycopyName) = true ∧ okW (.initialized "java/lang/System") = true := by decide +kernel
end
section
/-! ===== the small machine's runs are the machine's ===== -/
def conc (ad : xP → Nat) (v : xV) : Value := match v with
  | .inl x => .int x
  | .inr (.inl none) => .null
  | .inr (.inl (some p)) => .ref (ad p)
  | .inr (.inr x) => .long x
def isJ (v : xV) : Bool := match v with
  | .inr (.inr _) => true
  | _ => false
theorem conc_cat (ad : xP → Nat) {v : xV} (h : isJ v = false) : (conc ad v).category = 1 := by
  match v, h with
  | .inl x, _ => rfl
  | .inr (.inl none), _ => rfl
  | .inr (.inl (some p)), _ => rfl
/-- a good value: its cell is one of the world's -/
def okV (v : xV) : Prop := match v with
  | .inr (.inl (some p)) => p ∈ allP
  | _ => True
def okS (st : List xV) : Prop := ∀ v ∈ st, okV v
def okL (l : xL) : Prop := ∀ (i : Nat) (v : xV), nth l i = some (some v) → okV v
/-! the world's cells -/
def fval (ad : xP → Nat) (h : xH) (p : xP) (k : Nat) : Value := match shp p k with
  | some r => conc ad (.inr (.inl r))
  | none => .int (h p k)
def ent (ad : xP → Nat) (cI cQ : ClassId) (h : xH) (p : xP) : va_E :=
  if p.1 < 5 then .inr (p.1, (List.range (nfld p.1)).map (fval ad h p))
  else if p.1 = 5 then .inl (cQ, 3, .inr (.inr (.inr (.inr fun j => some (ad (1, j))))))
  else .inl (cI, alen p.1, .inl (h p))
def cells (ad : xP → Nat) (cI cQ : ClassId) (h : xH) : va_W := allP.map fun p => (ad p, ent ad cI cQ h p)
def xtys (cI cQ : ClassId) : List (ClassId × FieldType) := [(cI, .int), (cQ, .object RX1)]
def AA (ad : xP → Nat) (sz : Nat) : Nat → Prop := fun q => (∃ p ∈ allP, q = ad p) ∨ sz ≤ q
def adI (ad : xP → Nat) : Prop := ∀ p ∈ allP, ∀ q ∈ allP, ad p = ad q → p = q
theorem allP_inj0 : ∀ i, i < 22 → ∀ j, j < 22 → allP[i]? = allP[j]? → i = j := by decide +kernel
theorem allP_inj {i j : Nat} {p : xP} (hi : allP[i]? = some p) (hj : allP[j]? = some p) : i = j := allP_inj0 i (List.getElem?_eq_some_iff.mp hi).1 j (List.getElem?_eq_some_iff.mp hj).1 (hi.trans hj.symm)
theorem cells_at {ad : xP → Nat} {cI cQ : ClassId} {h : xH} {p : xP} (hp : p ∈ allP) : ∃ i : Nat, allP[i]? = some p ∧ (cells ad cI cQ h)[i]? = some (ad p, ent ad cI cQ h p) := by
  obtain ⟨i, hi⟩ := List.getElem?_of_mem hp
  exact ⟨i, hi, by simp [cells, hi]⟩
theorem cells_set {ad : xP → Nat} {cI cQ : ClassId} {h h' : xH} {p : xP} {i : Nat} {e : va_E} (hi : allP[i]? = some p) (he : ent ad cI cQ h' p = e) (ho : ∀ q : xP, q ≠ p → ent ad cI cQ h' q = ent ad cI cQ h q) : (cells ad cI cQ h).set i (ad p, e) = cells ad cI cQ h' := by
  apply List.ext_getElem?
  intro j
  rw [List.getElem?_set]
  have hil : i < allP.length := (List.getElem?_eq_some_iff.mp hi).1
  by_cases hj : i = j
  · subst hj
    rw [if_pos rfl, if_pos (by simp [cells, hil])]
    simp [cells, hi, he]
  · rw [if_neg hj]
    simp only [cells, List.getElem?_map]
    cases hq : allP[j]? with
    | none => rfl
    | some q =>
      have hne : q ≠ p := by
        intro e
        subst e
        exact hj (allP_inj hi hq)
      simp [ho q hne]
theorem cells_D {ad : xP → Nat} (hI : adI ad) (cI cQ : ClassId) (h : xH) (sz : Nat) : va_D (AA ad sz) (cells ad cI cQ h) := by
  have key : ∀ (i : Nat) (x : Nat × va_E), (cells ad cI cQ h)[i]? = some x → ∃ p, allP[i]? = some p ∧ x.1 = ad p := by
    intro i x hx
    simp only [cells, List.getElem?_map] at hx
    cases hp : allP[i]? with
    | none => rw [hp] at hx; cases hx
    | some p => rw [hp] at hx; cases hx; exact ⟨p, rfl, rfl⟩
  refine ⟨fun i j x y hx hy e => ?_, fun i x hx => ?_⟩
  · obtain ⟨p, hp, e1⟩ := key i x hx
    obtain ⟨q, hq, e2⟩ := key j y hy
    have hpq : p = q := hI p (List.mem_of_getElem? hp) q (List.mem_of_getElem? hq) (by rw [← e1, ← e2]; exact e)
    subst hpq
    exact allP_inj hp hq
  · obtain ⟨p, hp, e1⟩ := key i x hx
    exact Or.inl ⟨p, List.mem_of_getElem? hp, e1⟩
theorem shp_ok : allP.all (fun p => (List.range (nfld p.1)).all fun k => match shp p k with
    | some (some q) => decide (q ∈ allP)
    | _ => true) = true := by decide +kernel
theorem shp_in {p q : xP} {k : Nat} (hp : p ∈ allP) (hk : k < nfld p.1) (h : shp p k = some (some q)) : q ∈ allP := by
  have h1 := List.all_eq_true.mp (List.all_eq_true.mp shp_ok p hp) k (List.mem_range.mpr hk)
  rw [h] at h1
  exact of_decide_eq_true h1
/-! locals -/
def LR (ad : xP → Nat) (ls : Array Slot) (n : Nat) (loc : xL) : Prop := ls.size = n ∧ lv_wf ls ∧ ∀ (i : Nat) (v : xV), nth loc i = some (some v) → ls[i]? = some (.val (conc ad v)) ∧ isJ v = false
def clv (ad : xP → Nat) : Nat → xL → List (Nat × Value)
  | _, [] => []
  | i, none :: l => clv ad (i + 1) l
  | i, some v :: l => (i, conc ad v) :: clv ad (i + 1) l
theorem mem_clv {ad : xP → Nat} {l : xL} : ∀ {i : Nat} {q : Nat × Value}, q ∈ clv ad i l ↔ ∃ k v, q.1 = i + k ∧ nth l k = some (some v) ∧ q.2 = conc ad v := by
  induction l with
  | nil => intro i q; simp [clv, nth]
  | cons o l ih =>
    intro i q
    cases o with
    | none =>
      rw [clv, ih]
      constructor
      · rintro ⟨k, v, h1, h2, h3⟩
        exact ⟨k + 1, v, by omega, h2, h3⟩
      · rintro ⟨k, v, h1, h2, h3⟩
        cases k with
        | zero => simp [nth] at h2
        | succ k => exact ⟨k, v, by omega, h2, h3⟩
    | some w =>
      rw [clv, List.mem_cons, ih]
      constructor
      · rintro (rfl | ⟨k, v, h1, h2, h3⟩)
        · exact ⟨0, w, rfl, rfl, rfl⟩
        · exact ⟨k + 1, v, by omega, h2, h3⟩
      · rintro ⟨k, v, h1, h2, h3⟩
        cases k with
        | zero =>
          simp only [nth, Option.some.injEq] at h2
          subst h2
          exact Or.inl (Prod.ext h1 h3)
        | succ k => exact Or.inr ⟨k, v, by omega, h2, h3⟩
theorem LR.has {ad : xP → Nat} {ls : Array Slot} {n : Nat} {loc : xL} (h : LR ad ls n loc) : lv_has ls n (clv ad 0 loc) := by
  refine ⟨h.1, h.2.1, fun q hq => ?_⟩
  obtain ⟨k, v, h1, h2, h3⟩ := mem_clv.mp hq
  rw [h1, h3, Nat.zero_add]
  exact (h.2.2 k v h2).1
theorem lsetK_spec {α : Type} {l : xL} : ∀ {i : Nat} {v : xV} {k : xL → Option α} {x : α}, lsetK l i v k = some x → ∃ l', k l' = some x ∧ ∀ j, nth l' j = if j = i then some (some v) else nth l j := by
  induction l with
  | nil => intro i v k x h; simp [lsetK] at h
  | cons o l ih =>
    intro i v k x h
    cases i with
    | zero =>
      refine ⟨some v :: l, h, fun j => ?_⟩
      cases j with
      | zero => rfl
      | succ j => rw [if_neg (by omega)]; rfl
    | succ i =>
      obtain ⟨l', h1, h2⟩ := ih h
      refine ⟨o :: l', h1, fun j => ?_⟩
      cases j with
      | zero => rw [if_neg (by omega)]; rfl
      | succ j =>
        show nth l' j = _
        rw [h2 j]
        by_cases hj : j = i
        · rw [if_pos hj, if_pos (by omega)]
        · rw [if_neg hj, if_neg (by omega)]; rfl
/-- what a store leaves -/
theorem LR.store {ad : xP → Nat} {ls ls' : Array Slot} {n i : Nat} {loc loc' : xL} {v : xV} (h : LR ad ls n loc) (hv : isJ v = false) (h' : lv_has ls' n ((i, conc ad v) :: (clv ad 0 loc).filter (fun q => !(q.1 == i) && !(q.1 + 1 == i && q.2.category == 2)))) (hs : ∀ j, nth loc' j = if j = i then some (some v) else nth loc j) : LR ad ls' n loc' := by
  refine ⟨h'.1, h'.2.1, fun j w hj => ?_⟩
  rw [hs j] at hj
  by_cases hji : j = i
  · subst hji
    rw [if_pos rfl] at hj
    simp only [Option.some.injEq] at hj
    subst hj
    exact ⟨h'.2.2 (j, conc ad v) List.mem_cons_self, hv⟩
  · rw [if_neg hji] at hj
    have hw := (h.2.2 j w hj).2
    refine ⟨h'.2.2 (j, conc ad w) (List.mem_cons_of_mem _ (List.mem_filter.mpr ⟨mem_clv.mpr ⟨j, w, by simp, hj, rfl⟩, ?_⟩)), hw⟩
    simp [hji, conc_cat ad hw]
theorem okL.store {i : Nat} {loc loc' : xL} {v : xV} (h : okL loc) (hv : okV v) (hs : ∀ j, nth loc' j = if j = i then some (some v) else nth loc j) : okL loc' := by
  intro j w hj
  rw [hs j] at hj
  by_cases hji : j = i
  · rw [if_pos hji] at hj
    simp only [Option.some.injEq] at hj
    subst hj
    exact hv
  · rw [if_neg hji] at hj
    exact h j w hj
theorem takeK_spec {α : Type} {n : Nat} : ∀ {st acc : List xV} {k : List xV → List xV → Option α} {x : α}, takeK n st acc k = some x → ∃ pre rest, st = pre ++ rest ∧ (pre.length = n ∧ ∀ w ∈ pre, isJ w = false) ∧ k (pre.reverse ++ acc) rest = some x := by
  induction n with
  | zero => intro st acc k x h; exact ⟨[], st, rfl, ⟨rfl, fun w hw => absurd hw List.not_mem_nil⟩, h⟩
  | succ n ih =>
    intro st acc k x h
    match st, h with
    | [], h => simp [takeK] at h
    | .inr (.inr z) :: st, h => simp [takeK] at h
    | .inl z :: st, h =>
      obtain ⟨pre, rest, h1, h2, h3⟩ := ih h
      refine ⟨.inl z :: pre, rest, by rw [h1]; rfl, ⟨by simp [h2.1], fun w hw => ?_⟩, by simpa using h3⟩
      rcases List.mem_cons.mp hw with rfl | hw
      · rfl
      · exact h2.2 w hw
    | .inr (.inl z) :: st, h =>
      obtain ⟨pre, rest, h1, h2, h3⟩ := ih h
      refine ⟨.inr (.inl z) :: pre, rest, by rw [h1]; rfl, ⟨by simp [h2.1], fun w hw => ?_⟩, by simpa using h3⟩
      rcases List.mem_cons.mp hw with rfl | hw
      · rfl
      · exact h2.2 w hw
theorem catL_eq (ad : xP → Nat) : ∀ (l : List xV), ((l.map (conc ad)).map fun v => v.category).sum = catL l := by
  intro l
  induction l with
  | nil => rfl
  | cons v l ih =>
    rw [List.map_cons, List.map_cons, List.sum_cons, ih]
    match v with
    | .inl x => simp only [catL, conc, Value.category]; omega
    | .inr (.inl none) => simp only [catL, conc, Value.category]; omega
    | .inr (.inl (some p)) => simp only [catL, conc, Value.category]; omega
    | .inr (.inr x) => simp only [catL, conc, Value.category]; omega
/-! the words on nest mates -/
def NW (U : State) : Prop := ∀ w ∈ nwl, va_Nw w U
theorem NW.warm {s U : State} (hW : s.WarmedH U.vm) (h : NW s) : NW U := by
  intro w hw
  have h1 := h w hw
  rcases List.mem_append.mp hw with h2 | h2
  · obtain ⟨q, -, rfl⟩ := List.mem_map.mp h2
    exact va_Nw.warmM hW h1
  · obtain ⟨q, -, rfl⟩ := List.mem_map.mp h2
    exact va_Nw.warmF hW h1
theorem NW.same {u U : State} (e : u.vm = U.vm) (h : NW u) : NW U := by
  intro w hw
  have h1 := h w hw
  rcases List.mem_append.mp hw with h2 | h2
  · obtain ⟨q, -, rfl⟩ := List.mem_map.mp h2
    exact va_Nw.same rfl e h1
  · obtain ⟨q, -, rfl⟩ := List.mem_map.mp h2
    exact va_Nw.same rfl e h1
def wsM (mi : Nat) : List Cond := Cond.code (mY mi) (mC mi) (mL mi) (mR mi) :: GW
def rmD (d : Nat) : Room := { frames := d + 1, cells := 0, slots := 0, locals := 40 * (d + 1) }
theorem GW_good {w : Cond} (h : w ∈ GW) : goodWord w = true := (List.mem_filter.mp h).2
theorem wsM_good {mi mj : Nat} (hj : mj < 135) : GoodIn (wsM mi) (wsM mj) := by
  intro w hw
  have hg : w ∈ GW := by
    rcases List.mem_cons.mp hw with rfl | h
    · exact cw_all mj hj
    · exact h
  exact ⟨List.mem_cons_of_mem _ hg, good_of_word (GW_good hg)⟩
end
section
/-! ===== a simple step of the small machine (printed by wip/gen/gen3.py) ===== -/
/-- what holds in a method's frame -/
def CX (ad : xP → Nat) (cI cQ : ClassId) (D : va_G) (mi sz : Nat) (p : Program) (s : State) (m : MethodId) (meth : Method) (c : Code) (args : Array Value) : Prop :=
  p.tables.exec = Jvm.exec ∧ c.code = mC mi ∧ meth.sig.returnType = mR mi ∧ c.maxLocals = mL mi ∧ s.vm.findClass (cn (mOwn mi)) = some m.cls ∧ (∀ w ∈ wsM mi, w.before args s = true) ∧ NW s ∧ va_K D vwCl (xtys cI cQ) s ∧ meth.locks = false ∧ mi < 135 ∧ adI ad ∧ s.heap.size = sz
theorem GW_in {mi : Nat} {w : Cond} (h : w ∈ GW) : w ∈ wsM mi := List.mem_cons_of_mem _ h
theorem nwl_use {s : State} {w : Cond} {args : Array Value} (hN : NW s) (h : w ∈ nwl) : w.before args s = true := by
  have h1 := hN w h
  rcases List.mem_append.mp h with h2 | h2
  · obtain ⟨q, -, rfl⟩ := List.mem_map.mp h2
    exact va_Nw.use rfl h1
  · obtain ⟨q, -, rfl⟩ := List.mem_map.mp h2
    exact va_Nw.use rfl h1
theorem okS_cons {v : xV} {st : List xV} (h1 : okV v) (h2 : okS st) : okS (v :: st) := fun w hw => by
  rcases List.mem_cons.mp hw with rfl | h
  · exact h1
  · exact h2 w h
theorem okS_tl {v : xV} {st : List xV} (h : okS (v :: st)) : okS st := fun w hw => h w (List.mem_cons_of_mem _ hw)
theorem okS_hd {v : xV} {st : List xV} (h : okS (v :: st)) : okV v := h v List.mem_cons_self
theorem x_bool {x : Int32} (h : x &&& 1 = x) : x = 0 ∨ x = 1 := by
  obtain ⟨j, hj, e⟩ := pk_andE x (m := 1) 1 (by decide)
  rw [h] at e
  rcases (show j = 0 ∨ j = 1 by omega) with rfl | rfl
  · exact Or.inl e
  · exact Or.inr e
theorem inb_vp {i : Int32} {n : Nat} (h : inb i n = true) : vp_in i n := by
  unfold inb at h
  have h1 : ¬ (i < 0 ∨ n ≤ i.toNatClampNeg) := of_decide_eq_true h
  exact h1
theorem allP_kind : allP.all (fun p => (decide (p.1 < 5) || decide (p.1 = 5) || decide (10 ≤ p.1)) && (decide (p.1 ≠ 5) || decide (p.2 = 0))) = true := by decide +kernel
theorem ent_obj {ad : xP → Nat} {cI cQ : ClassId} {h : xH} {p : xP} (hp : p.1 < 5) : ent ad cI cQ h p = .inr (p.1, (List.range (nfld p.1)).map (fval ad h p)) := by
  unfold ent
  rw [if_pos hp]
theorem ent_arr {ad : xP → Nat} {cI cQ : ClassId} {h : xH} {p : xP} (hp : 10 ≤ p.1) : ent ad cI cQ h p = .inl (cI, alen p.1, .inl (h p)) := by
  unfold ent
  rw [if_neg (by omega), if_neg (by omega)]
theorem ent_row {ad : xP → Nat} {cI cQ : ClassId} {h : xH} {p : xP} (hp : p.1 = 5) : ent ad cI cQ h p = .inl (cQ, 3, .inr (.inr (.inr (.inr fun j => some (ad (1, j)))))) := by
  unfold ent
  rw [if_neg (by omega), if_pos hp]
theorem ent_off {ad : xP → Nat} {cI cQ : ClassId} {h : xH} {p q : xP} {f : Nat → Int32} (hq : q ≠ p) : ent ad cI cQ (hup h p f) q = ent ad cI cQ h q := by
  have e : hup h p f q = h q := if_neg hq
  have e2 : fval ad (hup h p f) q = fval ad h q := by
    funext k
    unfold fval
    rw [e]
  unfold ent
  rw [e, e2]
theorem hup_at {h : xH} {p : xP} {f : Nat → Int32} : hup h p f p = f := if_pos rfl
section STEP
variable {p : Program} {l : Launch} {e : Env} {R : Room} {s : State} {m : MethodId} {args : Array Value} {below : List Frame} {meth : Method} {c : Code} {H : Heap} {locs : List Loc} {Q : State → Prop}
variable {ad : xP → Nat} {cI cQ : ClassId} {D : va_G} {mi sz pc pc' : Nat} {h h' : xH} {loc loc' : xL} {stk stk' : List xV} {ls : Array Slot}
set_option maxHeartbeats 4000000 in
theorem snd1 (C : CX ad cI cQ D mi sz p s m meth c args) (hP : va_P D vwCl (cells ad cI cQ h) H) (hS : va_S (AA ad sz) s.heap H locs) (hl : LR ad ls (mL mi) loc) (vL : okL loc) (vS : okS stk) (hr1 : 1 ≤ R.frames) (hr2 : 40 ≤ R.locals)
    (hst : stp mi pc loc stk h = some (.inl (pc', loc', stk', h')))
    (kk : ∀ (H' : Heap) (locs' : List Loc) (ls' : Array Slot), va_P D vwCl (cells ad cI cQ h') H' → va_S (AA ad sz) s.heap H' locs' → LR ad ls' (mL mi) loc' → okL loc' → okS stk' → W p l e R s m args below meth c H' locs' 0 0 Q (F0 m pc' ls' (stk'.map (conc ad)))) :
    W p l e R s m args below meth c H locs 0 0 Q (F0 m pc ls (stk.map (conc ad))) := by
  obtain ⟨hx, hb, hr, hml, hown, hts, hN, hK, hlk, hmi, hI, hsz⟩ := C
  unfold stp at hst
  cases ho : opAt mi pc with
  | none => rw [ho] at hst; cases hst
  | some o =>
    obtain ⟨k, a, nx, tg, cc⟩ := o
    obtain ⟨ins, len, hd, hab⟩ := opAt_dec ho
    rw [ho] at hst
    simp only at hst
    have hD := cells_D hI cI cQ h sz
    cases ins
    case iload_n k0 =>
      simp only [ab] at hab
      split at hab
      · next hc =>
        simp only [Option.some.injEq, Prod.mk.injEq] at hab
        obtain ⟨rfl, rfl, rfl, rfl, rfl⟩ := hab
        subst hc
        simp only [ex] at hst
        split at hst
        · next x hv =>
          simp only [Option.some.injEq, Sum.inl.injEq, Prod.mk.injEq] at hst
          obtain ⟨rfl, rfl, rfl, rfl⟩ := hst
          exact lv_iload_n hx hb hd rfl (hl.2.2 _ _ hv).1 (kk H locs ls hP hS hl vL (okS_cons trivial vS))
        · cases hst
      · cases hab
    case iload i0 =>
      simp only [ab] at hab
      split at hab
      · next hc =>
        simp only [Option.some.injEq, Prod.mk.injEq] at hab
        obtain ⟨rfl, rfl, rfl, rfl, rfl⟩ := hab
        subst hc
        simp only [ex] at hst
        split at hst
        · next x hv =>
          simp only [Option.some.injEq, Sum.inl.injEq, Prod.mk.injEq] at hst
          obtain ⟨rfl, rfl, rfl, rfl⟩ := hst
          exact lv_iload hx hb hd (hl.2.2 _ _ hv).1 (kk H locs ls hP hS hl vL (okS_cons trivial vS))
        · cases hst
      · cases hab
    case aload_n k0 =>
      simp only [ab] at hab
      split at hab
      · next hc =>
        simp only [Option.some.injEq, Prod.mk.injEq] at hab
        obtain ⟨rfl, rfl, rfl, rfl, rfl⟩ := hab
        subst hc
        simp only [ex] at hst
        split at hst
        · next q hv =>
          simp only [Option.some.injEq, Sum.inl.injEq, Prod.mk.injEq] at hst
          obtain ⟨rfl, rfl, rfl, rfl⟩ := hst
          have hq := vL _ _ hv
          cases q with
          | none => exact lv_aload_nN hx hb hd rfl (hl.2.2 _ _ hv).1 (kk H locs ls hP hS hl vL (okS_cons trivial vS))
          | some q => exact lv_aload_n hx hb hd rfl (hl.2.2 _ _ hv).1 (kk H locs ls hP hS hl vL (okS_cons hq vS))
        · cases hst
      · cases hab
    case aload i0 =>
      simp only [ab] at hab
      split at hab
      · next hc =>
        simp only [Option.some.injEq, Prod.mk.injEq] at hab
        obtain ⟨rfl, rfl, rfl, rfl, rfl⟩ := hab
        subst hc
        simp only [ex] at hst
        split at hst
        · next q hv =>
          simp only [Option.some.injEq, Sum.inl.injEq, Prod.mk.injEq] at hst
          obtain ⟨rfl, rfl, rfl, rfl⟩ := hst
          have hq := vL _ _ hv
          cases q with
          | none => exact lv_aloadN hx hb hd (hl.2.2 _ _ hv).1 (kk H locs ls hP hS hl vL (okS_cons trivial vS))
          | some q => exact lv_aload hx hb hd (hl.2.2 _ _ hv).1 (kk H locs ls hP hS hl vL (okS_cons hq vS))
        · cases hst
      · cases hab
    case iconst n0 =>
      simp only [ab] at hab
      split at hab
      · next hc =>
        simp only [Option.some.injEq, Prod.mk.injEq] at hab
        obtain ⟨rfl, rfl, rfl, rfl, rfl⟩ := hab
        subst hc
        simp only [ex] at hst
        simp only [Option.some.injEq, Sum.inl.injEq, Prod.mk.injEq] at hst
        obtain ⟨rfl, rfl, rfl, rfl⟩ := hst
        exact lv_iconst hx hb hd rfl (kk H locs ls hP hS hl vL (okS_cons trivial vS))
      · cases hab
    case bipush n0 =>
      simp only [ab] at hab
      split at hab
      · next hc =>
        simp only [Option.some.injEq, Prod.mk.injEq] at hab
        obtain ⟨rfl, rfl, rfl, rfl, rfl⟩ := hab
        subst hc
        simp only [ex] at hst
        simp only [Option.some.injEq, Sum.inl.injEq, Prod.mk.injEq] at hst
        obtain ⟨rfl, rfl, rfl, rfl⟩ := hst
        exact lv_bipush hx hb hd rfl (kk H locs ls hP hS hl vL (okS_cons trivial vS))
      · cases hab
    case sipush n0 =>
      simp only [ab] at hab
      split at hab
      · next hc =>
        simp only [Option.some.injEq, Prod.mk.injEq] at hab
        obtain ⟨rfl, rfl, rfl, rfl, rfl⟩ := hab
        subst hc
        simp only [ex] at hst
        simp only [Option.some.injEq, Sum.inl.injEq, Prod.mk.injEq] at hst
        obtain ⟨rfl, rfl, rfl, rfl⟩ := hst
        exact lv_sipush hx hb hd rfl (kk H locs ls hP hS hl vL (okS_cons trivial vS))
      · cases hab
    case iadd =>
      simp only [ab] at hab
      split at hab
      · next hc =>
        simp only [Option.some.injEq, Prod.mk.injEq] at hab
        obtain ⟨rfl, rfl, rfl, rfl, rfl⟩ := hab
        subst hc
        simp only [ex] at hst
        split at hst
        · next y x r =>
          simp only [binK] at hst
          simp only [Option.some.injEq, Sum.inl.injEq, Prod.mk.injEq] at hst
          obtain ⟨rfl, rfl, rfl, rfl⟩ := hst
          exact lv_iadd hx hb hd (kk H locs ls hP hS hl vL (okS_cons trivial (okS_tl (okS_tl vS))))
        · cases hst
      · cases hab
    case isub =>
      simp only [ab] at hab
      split at hab
      · next hc =>
        simp only [Option.some.injEq, Prod.mk.injEq] at hab
        obtain ⟨rfl, rfl, rfl, rfl, rfl⟩ := hab
        subst hc
        simp only [ex] at hst
        split at hst
        · next y x r =>
          simp only [binK] at hst
          simp only [Option.some.injEq, Sum.inl.injEq, Prod.mk.injEq] at hst
          obtain ⟨rfl, rfl, rfl, rfl⟩ := hst
          exact lv_isub hx hb hd (kk H locs ls hP hS hl vL (okS_cons trivial (okS_tl (okS_tl vS))))
        · cases hst
      · cases hab
    case imul =>
      simp only [ab] at hab
      split at hab
      · next hc =>
        simp only [Option.some.injEq, Prod.mk.injEq] at hab
        obtain ⟨rfl, rfl, rfl, rfl, rfl⟩ := hab
        subst hc
        simp only [ex] at hst
        split at hst
        · next y x r =>
          simp only [binK] at hst
          simp only [Option.some.injEq, Sum.inl.injEq, Prod.mk.injEq] at hst
          obtain ⟨rfl, rfl, rfl, rfl⟩ := hst
          exact lv_imul hx hb hd (kk H locs ls hP hS hl vL (okS_cons trivial (okS_tl (okS_tl vS))))
        · cases hst
      · cases hab
    case iand =>
      simp only [ab] at hab
      split at hab
      · next hc =>
        simp only [Option.some.injEq, Prod.mk.injEq] at hab
        obtain ⟨rfl, rfl, rfl, rfl, rfl⟩ := hab
        subst hc
        simp only [ex] at hst
        split at hst
        · next y x r =>
          simp only [binK] at hst
          simp only [Option.some.injEq, Sum.inl.injEq, Prod.mk.injEq] at hst
          obtain ⟨rfl, rfl, rfl, rfl⟩ := hst
          exact lv_iand hx hb hd (kk H locs ls hP hS hl vL (okS_cons trivial (okS_tl (okS_tl vS))))
        · cases hst
      · cases hab
    case ishr =>
      simp only [ab] at hab
      split at hab
      · next hc =>
        simp only [Option.some.injEq, Prod.mk.injEq] at hab
        obtain ⟨rfl, rfl, rfl, rfl, rfl⟩ := hab
        subst hc
        simp only [ex] at hst
        split at hst
        · next y x r =>
          simp only [binK] at hst
          simp only [Option.some.injEq, Sum.inl.injEq, Prod.mk.injEq] at hst
          obtain ⟨rfl, rfl, rfl, rfl⟩ := hst
          exact lv_ishr hx hb hd (kk H locs ls hP hS hl vL (okS_cons trivial (okS_tl (okS_tl vS))))
        · cases hst
      · cases hab
    case idiv =>
      simp only [ab] at hab
      split at hab
      · next hc =>
        simp only [Option.some.injEq, Prod.mk.injEq] at hab
        obtain ⟨rfl, rfl, rfl, rfl, rfl⟩ := hab
        subst hc
        simp only [ex] at hst
        split at hst
        · next y x r =>
          simp only [binK] at hst
          split at hst
          · cases hst
          · next hne =>
            simp only [Option.some.injEq, Sum.inl.injEq, Prod.mk.injEq] at hst
            obtain ⟨rfl, rfl, rfl, rfl⟩ := hst
            exact lv_idiv hx hb hd hne (kk H locs ls hP hS hl vL (okS_cons trivial (okS_tl (okS_tl vS))))
        · cases hst
      · cases hab
    case irem =>
      simp only [ab] at hab
      split at hab
      · next hc =>
        simp only [Option.some.injEq, Prod.mk.injEq] at hab
        obtain ⟨rfl, rfl, rfl, rfl, rfl⟩ := hab
        subst hc
        simp only [ex] at hst
        split at hst
        · next y x r =>
          simp only [binK] at hst
          split at hst
          · cases hst
          · next hne =>
            simp only [Option.some.injEq, Sum.inl.injEq, Prod.mk.injEq] at hst
            obtain ⟨rfl, rfl, rfl, rfl⟩ := hst
            exact lv_irem hx hb hd hne (kk H locs ls hP hS hl vL (okS_cons trivial (okS_tl (okS_tl vS))))
        · cases hst
      · cases hab
    case istore_n k0 =>
      simp only [ab] at hab
      split at hab
      · next hc =>
        simp only [Option.some.injEq, Prod.mk.injEq] at hab
        obtain ⟨rfl, rfl, rfl, rfl, rfl⟩ := hab
        obtain ⟨rfl, hlt⟩ := hc
        simp only [ex] at hst
        split at hst
        · next x r =>
          obtain ⟨l2, e2, hs2⟩ := lsetK_spec hst
          simp only [Option.some.injEq, Sum.inl.injEq, Prod.mk.injEq] at e2
          obtain ⟨rfl, rfl, rfl, rfl⟩ := e2
          exact lv_istore_n hx hb hd rfl hl.has hlt rfl (fun ls2 h2 => kk H locs ls2 hP hS (hl.store (v := vI x) rfl h2 hs2) (vL.store (v := vI x) trivial hs2) (okS_tl vS))
        · cases hst
      · cases hab
    case istore i0 =>
      simp only [ab] at hab
      split at hab
      · next hc =>
        simp only [Option.some.injEq, Prod.mk.injEq] at hab
        obtain ⟨rfl, rfl, rfl, rfl, rfl⟩ := hab
        obtain ⟨rfl, hlt⟩ := hc
        simp only [ex] at hst
        split at hst
        · next x r =>
          obtain ⟨l2, e2, hs2⟩ := lsetK_spec hst
          simp only [Option.some.injEq, Sum.inl.injEq, Prod.mk.injEq] at e2
          obtain ⟨rfl, rfl, rfl, rfl⟩ := e2
          exact lv_istore hx hb hd hl.has hlt rfl (fun ls2 h2 => kk H locs ls2 hP hS (hl.store (v := vI x) rfl h2 hs2) (vL.store (v := vI x) trivial hs2) (okS_tl vS))
        · cases hst
      · cases hab
    case astore_n k0 =>
      simp only [ab] at hab
      split at hab
      · next hc =>
        simp only [Option.some.injEq, Prod.mk.injEq] at hab
        obtain ⟨rfl, rfl, rfl, rfl, rfl⟩ := hab
        obtain ⟨rfl, hlt⟩ := hc
        simp only [ex] at hst
        split at hst
        · next q r =>
          obtain ⟨l2, e2, hs2⟩ := lsetK_spec hst
          simp only [Option.some.injEq, Sum.inl.injEq, Prod.mk.injEq] at e2
          obtain ⟨rfl, rfl, rfl, rfl⟩ := e2
          have hq := okS_hd vS
          cases q with
          | none => exact lv_astore_nN hx hb hd rfl hl.has hlt rfl (fun ls2 h2 => kk H locs ls2 hP hS (hl.store (v := vN) rfl h2 hs2) (vL.store (v := vN) trivial hs2) (okS_tl vS))
          | some q => exact lv_astore_n hx hb hd rfl hl.has hlt rfl (fun ls2 h2 => kk H locs ls2 hP hS (hl.store (v := vR q) rfl h2 hs2) (vL.store (v := vR q) hq hs2) (okS_tl vS))
        · cases hst
      · cases hab
    case astore i0 =>
      simp only [ab] at hab
      split at hab
      · next hc =>
        simp only [Option.some.injEq, Prod.mk.injEq] at hab
        obtain ⟨rfl, rfl, rfl, rfl, rfl⟩ := hab
        obtain ⟨rfl, hlt⟩ := hc
        simp only [ex] at hst
        split at hst
        · next q r =>
          obtain ⟨l2, e2, hs2⟩ := lsetK_spec hst
          simp only [Option.some.injEq, Sum.inl.injEq, Prod.mk.injEq] at e2
          obtain ⟨rfl, rfl, rfl, rfl⟩ := e2
          have hq := okS_hd vS
          cases q with
          | none => exact lv_astoreN hx hb hd hl.has hlt rfl (fun ls2 h2 => kk H locs ls2 hP hS (hl.store (v := vN) rfl h2 hs2) (vL.store (v := vN) trivial hs2) (okS_tl vS))
          | some q => exact lv_astore hx hb hd hl.has hlt rfl (fun ls2 h2 => kk H locs ls2 hP hS (hl.store (v := vR q) rfl h2 hs2) (vL.store (v := vR q) hq hs2) (okS_tl vS))
        · cases hst
      · cases hab
    case iinc i0 n0 =>
      simp only [ab] at hab
      split at hab
      · next hc =>
        simp only [Option.some.injEq, Prod.mk.injEq] at hab
        obtain ⟨rfl, rfl, rfl, rfl, rfl⟩ := hab
        obtain ⟨rfl, hlt⟩ := hc
        simp only [ex] at hst
        split at hst
        · next x hv =>
          obtain ⟨l2, e2, hs2⟩ := lsetK_spec hst
          simp only [Option.some.injEq, Sum.inl.injEq, Prod.mk.injEq] at e2
          obtain ⟨rfl, rfl, rfl, rfl⟩ := e2
          have hm : (i0, Value.int x) ∈ clv ad 0 loc := mem_clv.mpr ⟨i0, vI x, by simp, hv, rfl⟩
          obtain ⟨kq, hkq⟩ := List.getElem?_of_mem hm
          exact lv_iinc hx hb hd hl.has hkq rfl hlt rfl (fun ls2 h2 => kk H locs ls2 hP hS (hl.store (v := vI (x + Int32.ofInt n0)) rfl h2 hs2) (vL.store (v := vI (x + Int32.ofInt n0)) trivial hs2) vS)
        · cases hst
      · cases hab
    case if_icmp c0 off =>
      simp only [ab] at hab
      split at hab
      · next hc =>
        simp only [Option.some.injEq, Prod.mk.injEq] at hab
        obtain ⟨rfl, rfl, rfl, rfl, rfl⟩ := hab
        obtain ⟨rfl, hge⟩ := hc
        have ht : (pc : Int) + off = ((((pc : Int) + off).toNat : Nat) : Int) := (Int.toNat_of_nonneg hge).symm
        simp only [ex] at hst
        split at hst
        · next y x r =>
          simp only [Option.some.injEq, Sum.inl.injEq, Prod.mk.injEq] at hst
          obtain ⟨rfl, rfl, rfl, rfl⟩ := hst
          cases c0 with
          | eq => exact lv_icmp_eq hx hb hd ht (fun q => by have z := kk H locs ls hP hS hl vL (okS_tl (okS_tl vS)); simpa only [cmpN, cnum, if_pos q] using z) (fun q => by have z := kk H locs ls hP hS hl vL (okS_tl (okS_tl vS)); simpa only [cmpN, cnum, if_neg q] using z)
          | ne => exact lv_icmp_ne hx hb hd ht (fun q => by have z := kk H locs ls hP hS hl vL (okS_tl (okS_tl vS)); simpa only [cmpN, cnum, if_neg q] using z) (fun q => by have z := kk H locs ls hP hS hl vL (okS_tl (okS_tl vS)); simpa only [cmpN, cnum, if_pos q] using z)
          | lt => exact lv_icmp_lt hx hb hd ht (fun q => by have z := kk H locs ls hP hS hl vL (okS_tl (okS_tl vS)); simpa only [cmpN, cnum, if_pos q] using z) (fun q => by have z := kk H locs ls hP hS hl vL (okS_tl (okS_tl vS)); simpa only [cmpN, cnum, if_neg q] using z)
          | ge => exact lv_icmp_ge hx hb hd ht (fun q => by have z := kk H locs ls hP hS hl vL (okS_tl (okS_tl vS)); simpa only [cmpN, cnum, if_neg (Int32.not_lt.mpr q)] using z) (fun q => by have z := kk H locs ls hP hS hl vL (okS_tl (okS_tl vS)); simpa only [cmpN, cnum, if_pos (Int32.not_le.mp q)] using z)
          | gt => exact lv_icmp_gt hx hb hd ht (fun q => by have z := kk H locs ls hP hS hl vL (okS_tl (okS_tl vS)); simpa only [cmpN, cnum, if_pos q] using z) (fun q => by have z := kk H locs ls hP hS hl vL (okS_tl (okS_tl vS)); simpa only [cmpN, cnum, if_neg q] using z)
          | le => exact lv_icmp_le hx hb hd ht (fun q => by have z := kk H locs ls hP hS hl vL (okS_tl (okS_tl vS)); simpa only [cmpN, cnum, if_neg (Int32.not_lt.mpr q)] using z) (fun q => by have z := kk H locs ls hP hS hl vL (okS_tl (okS_tl vS)); simpa only [cmpN, cnum, if_pos (Int32.not_le.mp q)] using z)
        · cases hst
      · cases hab
    case ifCond c0 off =>
      simp only [ab] at hab
      split at hab
      · next hc =>
        simp only [Option.some.injEq, Prod.mk.injEq] at hab
        obtain ⟨rfl, rfl, rfl, rfl, rfl⟩ := hab
        obtain ⟨rfl, hge⟩ := hc
        have ht : (pc : Int) + off = ((((pc : Int) + off).toNat : Nat) : Int) := (Int.toNat_of_nonneg hge).symm
        simp only [ex] at hst
        split at hst
        · next x r =>
          simp only [Option.some.injEq, Sum.inl.injEq, Prod.mk.injEq] at hst
          obtain ⟨rfl, rfl, rfl, rfl⟩ := hst
          cases c0 with
          | eq => exact lv_if_eq hx hb hd ht (fun q => by have z := kk H locs ls hP hS hl vL (okS_tl vS); simpa only [cmpN, cnum, if_pos q] using z) (fun q => by have z := kk H locs ls hP hS hl vL (okS_tl vS); simpa only [cmpN, cnum, if_neg q] using z)
          | ne => exact lv_if_ne hx hb hd ht (fun q => by have z := kk H locs ls hP hS hl vL (okS_tl vS); simpa only [cmpN, cnum, if_neg q] using z) (fun q => by have z := kk H locs ls hP hS hl vL (okS_tl vS); simpa only [cmpN, cnum, if_pos q] using z)
          | lt => exact lv_if_lt hx hb hd ht (fun q => by have z := kk H locs ls hP hS hl vL (okS_tl vS); simpa only [cmpN, cnum, if_pos q] using z) (fun q => by have z := kk H locs ls hP hS hl vL (okS_tl vS); simpa only [cmpN, cnum, if_neg q] using z)
          | ge => exact lv_if_ge hx hb hd ht (fun q => by have z := kk H locs ls hP hS hl vL (okS_tl vS); simpa only [cmpN, cnum, if_neg (Int32.not_lt.mpr q)] using z) (fun q => by have z := kk H locs ls hP hS hl vL (okS_tl vS); simpa only [cmpN, cnum, if_pos (Int32.not_le.mp q)] using z)
          | gt => exact lv_if_gt hx hb hd ht (fun q => by have z := kk H locs ls hP hS hl vL (okS_tl vS); simpa only [cmpN, cnum, if_pos q] using z) (fun q => by have z := kk H locs ls hP hS hl vL (okS_tl vS); simpa only [cmpN, cnum, if_neg q] using z)
          | le => exact lv_if_le hx hb hd ht (fun q => by have z := kk H locs ls hP hS hl vL (okS_tl vS); simpa only [cmpN, cnum, if_neg (Int32.not_lt.mpr q)] using z) (fun q => by have z := kk H locs ls hP hS hl vL (okS_tl vS); simpa only [cmpN, cnum, if_pos (Int32.not_le.mp q)] using z)
        · cases hst
      · cases hab
    case goto off =>
      simp only [ab] at hab
      split at hab
      · next hc =>
        simp only [Option.some.injEq, Prod.mk.injEq] at hab
        obtain ⟨rfl, rfl, rfl, rfl, rfl⟩ := hab
        obtain ⟨rfl, hge⟩ := hc
        have ht : (pc : Int) + off = ((((pc : Int) + off).toNat : Nat) : Int) := (Int.toNat_of_nonneg hge).symm
        simp only [ex] at hst
        simp only [Option.some.injEq, Sum.inl.injEq, Prod.mk.injEq] at hst
        obtain ⟨rfl, rfl, rfl, rfl⟩ := hst
        exact lv_goto hx hb hd ht (kk H locs ls hP hS hl vL  vS)
      · cases hab
    case ifnull off =>
      simp only [ab] at hab
      split at hab
      · next hc =>
        simp only [Option.some.injEq, Prod.mk.injEq] at hab
        obtain ⟨rfl, rfl, rfl, rfl, rfl⟩ := hab
        obtain ⟨rfl, hge⟩ := hc
        have ht : (pc : Int) + off = ((((pc : Int) + off).toNat : Nat) : Int) := (Int.toNat_of_nonneg hge).symm
        simp only [ex] at hst
        split at hst
        · next r =>
          simp only [Option.some.injEq, Sum.inl.injEq, Prod.mk.injEq] at hst
          obtain ⟨rfl, rfl, rfl, rfl⟩ := hst
          exact lv_ifnullN hx hb hd ht (kk H locs ls hP hS hl vL  (okS_tl vS))
        · next q r =>
          simp only [Option.some.injEq, Sum.inl.injEq, Prod.mk.injEq] at hst
          obtain ⟨rfl, rfl, rfl, rfl⟩ := hst
          exact lv_ifnull hx hb hd (kk H locs ls hP hS hl vL  (okS_tl vS))
        · cases hst
      · cases hab
    case ifnonnull off =>
      simp only [ab] at hab
      split at hab
      · next hc =>
        simp only [Option.some.injEq, Prod.mk.injEq] at hab
        obtain ⟨rfl, rfl, rfl, rfl, rfl⟩ := hab
        obtain ⟨rfl, hge⟩ := hc
        have ht : (pc : Int) + off = ((((pc : Int) + off).toNat : Nat) : Int) := (Int.toNat_of_nonneg hge).symm
        simp only [ex] at hst
        split at hst
        · next r =>
          simp only [Option.some.injEq, Sum.inl.injEq, Prod.mk.injEq] at hst
          obtain ⟨rfl, rfl, rfl, rfl⟩ := hst
          exact lv_ifnonnullN hx hb hd (kk H locs ls hP hS hl vL  (okS_tl vS))
        · next q r =>
          simp only [Option.some.injEq, Sum.inl.injEq, Prod.mk.injEq] at hst
          obtain ⟨rfl, rfl, rfl, rfl⟩ := hst
          exact lv_ifnonnull hx hb hd ht (kk H locs ls hP hS hl vL  (okS_tl vS))
        · cases hst
      · cases hab
    case getfield idx =>
      simp only [ab] at hab
      split at hab
      · next hc =>
        subst hc
        have hgo : ∀ (cl0 k0 : Nat) (flag : Int32), cl0 < 5 → k0 < nfld cl0 → (k, a, nx, tg, cc) = (8, cl0, pc + 3, k0, flag) → (∀ (v : Value) (q0 : Nat) (a0 : Nat) (fs : List Value) (rest : List Value), (cells ad cI cQ h)[q0]? = some (a0, .inr (cl0, fs)) → fs[k0]? = some v → W p l e R s m args below meth c H locs 0 0 Q (F0 m (pc + 3) ls (v :: rest)) → W p l e R s m args below meth c H locs 0 0 Q (F0 m pc ls (.ref a0 :: rest))) → W p l e R s m args below meth c H locs 0 0 Q (F0 m pc ls (stk.map (conc ad))) := by
          intro cl0 k0 flag hc5 hk5 hop row
          simp only [Prod.mk.injEq] at hop
          obtain ⟨rfl, rfl, rfl, rfl, rfl⟩ := hop
          simp only [ex] at hst
          split at hst
          · next q r =>
            have hq : q ∈ allP := okS_hd vS
            cases hbq : Nat.beq q.1 a with
            | false => rw [hbq] at hst; cases hst
            | true =>
              rw [hbq] at hst
              have hqa : q.1 = a := Nat.eq_of_beq_eq_true hbq
              subst hqa
              obtain ⟨q0, hq0, hce⟩ := cells_at (ad := ad) (cI := cI) (cQ := cQ) (h := h) hq
              rw [ent_obj hc5] at hce
              have hfs : ∀ v, fval ad h q tg = v → ((List.range (nfld q.1)).map (fval ad h q))[tg]? = some v := by
                intro v hv
                rw [List.getElem?_map, List.getElem?_range hk5, Option.map_some, hv]
              cases hsh : shp q tg with
              | some z =>
                simp only [cond_true, hsh] at hst
                simp only [Option.some.injEq, Sum.inl.injEq, Prod.mk.injEq] at hst
                obtain ⟨rfl, rfl, rfl, rfl⟩ := hst
                have hz : okV (.inr (.inl z)) := by
                  cases z with
                  | none => trivial
                  | some z => exact shp_in hq hk5 hsh
                exact row _ _ _ _ _ hce (hfs _ (by unfold fval; rw [hsh])) (kk H locs ls hP hS hl vL (okS_cons hz (okS_tl vS)))
              | none =>
                simp only [cond_true, hsh] at hst
                simp only [Option.some.injEq, Sum.inl.injEq, Prod.mk.injEq] at hst
                obtain ⟨rfl, rfl, rfl, rfl⟩ := hst
                exact row _ _ _ _ _ hce (hfs _ (by unfold fval; rw [hsh]; rfl)) (kk H locs ls hP hS hl vL (okS_cons (v := vI (h q tg)) trivial (okS_tl vS)))
          · cases hst
        split at hab
        · next cl0 k0 hf =>
          obtain ⟨hlw, hc5, hk5⟩ := fl_in hf
          simp only [Option.some.injEq] at hab
          exact hgo cl0 k0 0 hc5 hk5 hab.symm (fun v q0 a0 fs rest he hv K => va_get hx hb hts (fun w hw => GW_in (lays_in hc5 w hw)) hown hK hP q0 he (vw_at hc5) k0 hk5 (hts _ (GW_in hlw)) (fun x hx2 => by rw [← cOwn hc5 hk5]; exact hx2) hv hd K)
        · split at hab
          · next cl0 k0 hf =>
            obtain ⟨hlw, hc5, hk5⟩ := fnl_in hf
            simp only [Option.some.injEq] at hab
            exact hgo cl0 k0 1 hc5 hk5 hab.symm (fun v q0 a0 fs rest he hv K => va_getN hx hb hts (fun w hw => GW_in (lays_in hc5 w hw)) hown hK hP q0 he (vw_at hc5) k0 hk5 (nwl_use hN hlw) (fun x hx2 => by rw [← cOwn hc5 hk5]; exact hx2) hv hd K)
          · cases hab
      · cases hab
    case putfield idx =>
      simp only [ab] at hab
      split at hab
      · next hc =>
        subst hc
        split at hab
        · next cl0 k0 hf =>
          obtain ⟨hlw, hc5, hk5⟩ := fl_in hf
          split at hab
          · next hwh =>
            simp only [Option.some.injEq, Prod.mk.injEq] at hab
            obtain ⟨rfl, rfl, rfl, rfl, rfl⟩ := hab
            simp only [ex] at hst
            split at hst
            · next x q r =>
              have hq : q ∈ allP := okS_hd (okS_tl vS)
              cases hbq : Nat.beq q.1 cl0 with
              | false => rw [hbq] at hst; cases hst
              | true =>
                rw [hbq] at hst
                have hqa : q.1 = cl0 := Nat.eq_of_beq_eq_true hbq
                subst hqa
                obtain ⟨q0, hq0, hce⟩ := cells_at (ad := ad) (cI := cI) (cQ := cQ) (h := h) hq
                rw [ent_obj hc5] at hce
                cases hsh : shp q k0 with
                | some z => simp only [cond_true, hsh] at hst; cases hst
                | none =>
                  simp only [cond_true, hsh] at hst
                  have hgo : (∃ ty, parseFieldDescriptor (cT q.1 k0).2.2.1 = some ty ∧ narrow ty (.int x) = .int x ∧ fits ty (.int x) = true) → (cT q.1 k0).2.2.2 = false → some (Sum.inl (pc + 3, loc, r, hpt h q k0 x)) = (some (Sum.inl (pc', loc', stk', h')) : xR) → W p l e R s m args below meth c H locs 0 0 Q (F0 m pc ls (.int x :: .ref (ad q) :: r.map (conc ad))) := by
                    intro hty hfin he
                    obtain ⟨ty, ht1, ht2, ht3⟩ := hty
                    simp only [Option.some.injEq, Sum.inl.injEq, Prod.mk.injEq] at he
                    obtain ⟨rfl, rfl, rfl, rfl⟩ := he
                    refine va_put hx hb hts (fun w hw => GW_in (lays_in hc5 w hw)) (cTy q.1) (cTy_ok hc5) (cNm hc5) hown hK hP hD hS q0 hce (vw_at hc5) k0 hk5 (hts _ (GW_in hlw)) (fun x hx2 => by rw [← cOwn hc5 hk5]; exact hx2) hfin ht1 ht2 ht3 (by rw [List.length_map, List.length_range]; exact hk5) hd (fun H1 locs1 hP1 _ hS1 => ?_)
                    have hset := cells_set (ad := ad) (cI := cI) (cQ := cQ) (h := h) (h' := hpt h q k0 x) hq0 (ent_obj hc5) (fun z hz => ent_off hz)
                    have hfs : ((List.range (nfld q.1)).map (fval ad h q)).set k0 (.int x) = (List.range (nfld q.1)).map (fval ad (hpt h q k0 x) q) := by
                      apply List.ext_getElem?
                      intro j
                      rw [List.getElem?_set]
                      by_cases hj : k0 = j
                      · subst hj
                        rw [if_pos rfl, if_pos (by simpa using hk5), List.getElem?_map, List.getElem?_range hk5, Option.map_some]
                        simp [fval, hsh, hpt, hup, upd]
                      · rw [if_neg hj, List.getElem?_map, List.getElem?_map]
                        by_cases hjn : j < nfld q.1
                        · rw [List.getElem?_range hjn, Option.map_some, Option.map_some]
                          have hkk : ¬ j = k0 := fun e => hj e.symm
                          simp [fval, hpt, hup, upd, hkk]
                        · rw [List.getElem?_eq_none (by rw [List.length_range]; omega)]
                          rfl
                    rw [hfs, hset] at hP1
                    exact kk H1 locs1 ls hP1 hS1 hl vL (okS_tl (okS_tl vS))
                  cases hb4 : (Nat.beq q.1 4 && Nat.beq k0 5) with
                  | true =>
                    rw [hb4] at hst
                    simp only [cond_true] at hst
                    split at hst
                    · next hx1 =>
                      simp only [Bool.and_eq_true, Nat.beq_eq] at hb4
                      refine hgo ⟨.boolean, by rw [hb4.1, hb4.2]; decide +kernel, by show Value.int (x &&& 1) = _; rw [hx1], by rcases x_bool hx1 with rfl | rfl <;> rfl⟩ (by rw [hb4.1, hb4.2]; rfl) hst
                    · cases hst
                  | false =>
                    rw [hb4] at hst
                    simp only [cond_false] at hst
                    refine hgo ⟨.int, ?_, rfl, rfl⟩ ?_ hst
                    · rcases hwh with e | e | e
                      · simp only [Prod.mk.injEq] at e; rw [e.1, e.2]; decide +kernel
                      · simp only [Prod.mk.injEq] at e; rw [e.1, e.2]; decide +kernel
                      · simp only [Prod.mk.injEq] at e; rw [e.1, e.2] at hb4; cases hb4
                    · rcases hwh with e | e | e
                      · simp only [Prod.mk.injEq] at e; rw [e.1, e.2]; rfl
                      · simp only [Prod.mk.injEq] at e; rw [e.1, e.2]; rfl
                      · simp only [Prod.mk.injEq] at e; rw [e.1, e.2]; rfl
            · cases hst
          · cases hab
        · cases hab
      · cases hab
    case iaload =>
      simp only [ab] at hab
      split at hab
      · next hc =>
        subst hc
        simp only [Option.some.injEq, Prod.mk.injEq] at hab
        obtain ⟨rfl, rfl, rfl, rfl, rfl⟩ := hab
        simp only [ex] at hst
        split at hst
        · next i q r =>
          have hq : q ∈ allP := okS_hd (okS_tl vS)
          cases hbq : Nat.ble 10 q.1 with
          | false => rw [hbq] at hst; cases hst
          | true =>
            rw [hbq] at hst
            have h10 : 10 ≤ q.1 := Nat.le_of_ble_eq_true hbq
            obtain ⟨q0, hq0, hce⟩ := cells_at (ad := ad) (cI := cI) (cQ := cQ) (h := h) hq
            rw [ent_arr h10] at hce
            simp only [cond_true] at hst
            split at hst
            · next hin =>
              simp only [Option.some.injEq, Sum.inl.injEq, Prod.mk.injEq] at hst
              obtain ⟨rfl, rfl, rfl, rfl⟩ := hst
              exact va_iald hx hb hK hP q0 0 hce rfl (inb_vp hin) hd (kk H locs ls hP hS hl vL (okS_cons (v := vI (h q i.toNatClampNeg)) trivial (okS_tl (okS_tl vS))))
            · cases hst
        · cases hst
      · cases hab
    case iastore =>
      simp only [ab] at hab
      split at hab
      · next hc =>
        subst hc
        simp only [Option.some.injEq, Prod.mk.injEq] at hab
        obtain ⟨rfl, rfl, rfl, rfl, rfl⟩ := hab
        simp only [ex] at hst
        split at hst
        · next x i q r =>
          have hq : q ∈ allP := okS_hd (okS_tl (okS_tl vS))
          cases hbq : Nat.ble 10 q.1 with
          | false => rw [hbq] at hst; cases hst
          | true =>
            rw [hbq] at hst
            have h10 : 10 ≤ q.1 := Nat.le_of_ble_eq_true hbq
            obtain ⟨q0, hq0, hce⟩ := cells_at (ad := ad) (cI := cI) (cQ := cQ) (h := h) hq
            rw [ent_arr h10] at hce
            simp only [cond_true] at hst
            split at hst
            · next hin =>
              simp only [Option.some.injEq, Sum.inl.injEq, Prod.mk.injEq] at hst
              obtain ⟨rfl, rfl, rfl, rfl⟩ := hst
              refine va_iast hx hb hK hP hD hS q0 0 hce rfl (inb_vp hin) hd (fun H1 locs1 hP1 _ hS1 => ?_)
              have hset := cells_set (ad := ad) (cI := cI) (cQ := cQ) (h := h) (h' := hpt h q i.toNatClampNeg x) hq0 (ent_arr h10) (fun z hz => ent_off hz)
              have hat : hpt h q i.toNatClampNeg x q = upd (h q) i.toNatClampNeg x := hup_at
              rw [hat] at hset
              rw [hset] at hP1
              exact kk H1 locs1 ls hP1 hS1 hl vL (okS_tl (okS_tl (okS_tl vS)))
            · cases hst
        · cases hst
      · cases hab
    case aaload =>
      simp only [ab] at hab
      split at hab
      · next hc =>
        subst hc
        simp only [Option.some.injEq, Prod.mk.injEq] at hab
        obtain ⟨rfl, rfl, rfl, rfl, rfl⟩ := hab
        simp only [ex] at hst
        split at hst
        · next i q r =>
          have hq : q ∈ allP := okS_hd (okS_tl vS)
          cases hbq : Nat.beq q.1 5 with
          | false => rw [hbq] at hst; cases hst
          | true =>
            rw [hbq] at hst
            have h5 : q.1 = 5 := Nat.eq_of_beq_eq_true hbq
            obtain ⟨q0, hq0, hce⟩ := cells_at (ad := ad) (cI := cI) (cQ := cQ) (h := h) hq
            rw [ent_row h5] at hce
            simp only [cond_true] at hst
            split at hst
            · next hin =>
              simp only [Option.some.injEq, Sum.inl.injEq, Prod.mk.injEq] at hst
              obtain ⟨rfl, rfl, rfl, rfl⟩ := hst
              obtain ⟨j, hj, ej⟩ := vp_in_of (inb_vp hin) (by decide)
              have hok : okV (vR (1, i.toNatClampNeg)) := by
                show (1, i.toNatClampNeg) ∈ allP
                rw [ej, nI_clamp (by omega)]
                rcases (show j = 0 ∨ j = 1 ∨ j = 2 by omega) with rfl | rfl | rfl <;> decide
              exact va_aldq hx hb hK hP q0 1 hce rfl (inb_vp hin) hd (kk H locs ls hP hS hl vL (okS_cons (v := vR (1, i.toNatClampNeg)) hok (okS_tl (okS_tl vS))))
            · cases hst
        · cases hst
      · cases hab
    case dup =>
      simp only [ab] at hab
      split at hab
      · next hc =>
        subst hc
        simp only [Option.some.injEq, Prod.mk.injEq] at hab
        obtain ⟨rfl, rfl, rfl, rfl, rfl⟩ := hab
        simp only [ex] at hst
        split at hst
        · cases hst
        · next v r hnl =>
          have hj : isJ v = false := by
            match v with
            | .inl _ => rfl
            | .inr (.inl _) => rfl
            | .inr (.inr z) => exact absurd rfl (hnl z)
          simp only [Option.some.injEq, Sum.inl.injEq, Prod.mk.injEq] at hst
          obtain ⟨rfl, rfl, rfl, rfl⟩ := hst
          exact lv_dup hx hb hd (conc_cat ad hj) (kk H locs ls hP hS hl vL (okS_cons (okS_hd vS) vS))
        · cases hst
      · cases hab
    case dup2 =>
      simp only [ab] at hab
      split at hab
      · next hc =>
        subst hc
        simp only [Option.some.injEq, Prod.mk.injEq] at hab
        obtain ⟨rfl, rfl, rfl, rfl, rfl⟩ := hab
        simp only [ex] at hst
        split at hst
        · cases hst
        · cases hst
        · next v z r hnl hnl2 =>
          have hj : isJ v = false := by
            match v with
            | .inl _ => rfl
            | .inr (.inl _) => rfl
            | .inr (.inr y) => exact absurd rfl (hnl y)
          have hj2 : isJ z = false := by
            match z with
            | .inl _ => rfl
            | .inr (.inl _) => rfl
            | .inr (.inr y) => exact absurd rfl (hnl2 y)
          simp only [Option.some.injEq, Sum.inl.injEq, Prod.mk.injEq] at hst
          obtain ⟨rfl, rfl, rfl, rfl⟩ := hst
          exact lv_dup2_11 hx hb hd (conc_cat ad hj) (conc_cat ad hj2) (kk H locs ls hP hS hl vL (okS_cons (okS_hd vS) (okS_cons (okS_hd (okS_tl vS)) vS)))
        · cases hst
      · cases hab
    case pop =>
      simp only [ab] at hab
      split at hab
      · next hc =>
        subst hc
        simp only [Option.some.injEq, Prod.mk.injEq] at hab
        obtain ⟨rfl, rfl, rfl, rfl, rfl⟩ := hab
        simp only [ex] at hst
        split at hst
        · cases hst
        · next v r hnl =>
          have hj : isJ v = false := by
            match v with
            | .inl _ => rfl
            | .inr (.inl _) => rfl
            | .inr (.inr z) => exact absurd rfl (hnl z)
          simp only [Option.some.injEq, Sum.inl.injEq, Prod.mk.injEq] at hst
          obtain ⟨rfl, rfl, rfl, rfl⟩ := hst
          exact lv_pop hx hb hd (conc_cat ad hj) (kk H locs ls hP hS hl vL (okS_tl vS))
        · cases hst
      · cases hab
    case i2l =>
      simp only [ab] at hab
      split at hab
      · next hc =>
        simp only [Option.some.injEq, Prod.mk.injEq] at hab
        obtain ⟨rfl, rfl, rfl, rfl, rfl⟩ := hab
        subst hc
        simp only [ex] at hst
        split at hst
        · next x r =>
          simp only [Option.some.injEq, Sum.inl.injEq, Prod.mk.injEq] at hst
          obtain ⟨rfl, rfl, rfl, rfl⟩ := hst
          exact lv_i2l hx hb hd rfl (kk H locs ls hP hS hl vL (okS_cons (v := vJ x.toInt64) trivial (okS_tl vS)))
        · cases hst
      · cases hab
    case ldc2_w idx =>
      simp only [ab] at hab
      split at hab
      · next hc =>
        simp only [Option.some.injEq, Prod.mk.injEq] at hab
        obtain ⟨rfl, rfl, rfl, rfl, rfl⟩ := hab
        obtain ⟨rfl, hwh⟩ := hc
        simp only [ex] at hst
        simp only [Option.some.injEq, Sum.inl.injEq, Prod.mk.injEq] at hst
        obtain ⟨rfl, rfl, rfl, rfl⟩ := hst
        have hcl : (Cond.constantLong (cn (mOwn mi)) idx 4294967296).before args s = true := by
          rcases hwh with e | e
          · simp only [Prod.mk.injEq] at e; rw [e.1, e.2]; exact hts _ (GW_in (okW_in cl_in.1))
          · simp only [Prod.mk.injEq] at e; rw [e.1, e.2]; exact hts _ (GW_in (okW_in cl_in.2))
        exact lv_ldc2 hx hb hown hcl hd (kk H locs ls hP hS hl vL (okS_cons (v := vJ 4294967296) trivial vS))
      · cases hab
    case invokestatic idx =>
      simp only [ab] at hab
      split at hab
      · next hc =>
        subst hc
        split at hab
        · next mj hv =>
          split at hab
          · simp only [Option.some.injEq, Prod.mk.injEq] at hab
            obtain ⟨rfl, rfl, rfl, rfl, rfl⟩ := hab
            simp only [ex, exS] at hst
            obtain ⟨pre, rest, -, -, h3⟩ := takeK_spec hst
            cases hbq : Nat.ble (catL rest) 8 <;> rw [hbq] at h3 <;> cases h3
          · cases hab
        · split at hab
          · next mj hv =>
            split at hab
            · simp only [Option.some.injEq, Prod.mk.injEq] at hab
              obtain ⟨rfl, rfl, rfl, rfl, rfl⟩ := hab
              simp only [ex, exS] at hst
              obtain ⟨pre, rest, -, -, h3⟩ := takeK_spec hst
              cases hbq : Nat.ble (catL rest) 8 <;> rw [hbq] at h3 <;> cases h3
            · cases hab
          · split at hab
            · next hwh =>
              simp only [Option.some.injEq, Prod.mk.injEq] at hab
              obtain ⟨rfl, rfl, rfl, rfl, rfl⟩ := hab
              obtain ⟨hown0, rfl⟩ := hwh
              simp only [ex] at hst
              split at hst
              · next n0 dp q sp pq r =>
                have hqd : q ∈ allP := okS_hd (okS_tl (okS_tl vS))
                have hqs : pq ∈ allP := okS_hd (okS_tl (okS_tl (okS_tl (okS_tl vS))))
                cases hbq : (Nat.beq pq.1 10 && Nat.beq q.1 10 && Nat.ble (catL r) 8) with
                | false => rw [hbq] at hst; cases hst
                | true =>
                  rw [hbq] at hst
                  simp only [Bool.and_eq_true, Nat.beq_eq] at hbq
                  simp only [cond_true] at hst
                  split at hst
                  · next hn =>
                    obtain ⟨rfl, rfl, rfl⟩ := hn
                    simp only [Option.some.injEq, Sum.inl.injEq, Prod.mk.injEq] at hst
                    obtain ⟨rfl, rfl, rfl, rfl⟩ := hst
                    obtain ⟨q0, hq0, hce⟩ := cells_at (ad := ad) (cI := cI) (cQ := cQ) (h := h) hqs
                    obtain ⟨q1, hq1, hce1⟩ := cells_at (ad := ad) (cI := cI) (cQ := cQ) (h := h) hqd
                    rw [ent_arr (by omega), hbq.1.1] at hce
                    rw [ent_arr (by omega), hbq.1.2] at hce1
                    have z0 : (0 : Int32).toNatClampNeg = 0 := rfl
                    have z5 : (512 : Int32).toNatClampNeg = 512 := rfl
                    rw [hown0] at hown
                    have hcat := catL_eq ad r
                    have hle : catL r ≤ 8 := Nat.le_of_ble_eq_true hbq.2
                    have hnf : nativeFrameWords "java/lang/System" "arraycopy" 5 = 7 := by decide +kernel
                    refine va_copyi hx hb (hml.trans hl.1.symm) hown (hts _ (GW_in (okW_in ac_in.1))) (hts _ (GW_in (okW_in ac_in.2.1))) (hts _ (GW_in (okW_in ac_in.2.2.1))) (hts _ (GW_in (okW_in ac_in.2.2.2))) hK hP hD hS q0 q1 0 0 hce hce1 rfl rfl rfl (by decide) (by decide) (by decide) (by rw [z0, z5]; decide) (by rw [z0, z5]; decide) (fun i _ => rfl) hr1 (by rw [hcat, hnf]; omega) hd (fun H1 locs1 hP1 _ hS1 => ?_)
                    rw [z0, z5] at hP1
                    have hset := cells_set (ad := ad) (cI := cI) (cQ := cQ) (h := h) (h' := hup h q (va_cpy (h pq) (h q) 0 0 512)) hq1 (ent_arr (by omega)) (fun z hz => ent_off hz)
                    rw [hup_at, hbq.1.2] at hset
                    rw [show alen 10 = 512 from rfl] at hset hP1
                    rw [hset] at hP1
                    exact kk H1 locs1 ls hP1 hS1 hl vL (okS_tl (okS_tl (okS_tl (okS_tl (okS_tl vS)))))
                  · cases hst
              · cases hst
            · cases hab
      · cases hab
    case invokevirtual idx =>
      simp only [ab] at hab
      split at hab
      · next hc =>
        subst hc
        split at hab
        · next mj hv =>
          split at hab
          · simp only [Option.some.injEq, Prod.mk.injEq] at hab
            obtain ⟨rfl, rfl, rfl, rfl, rfl⟩ := hab
            simp only [ex, exV] at hst
            obtain ⟨pre, rest, -, -, h3⟩ := takeK_spec hst
            split at h3
            · next q r => 
              cases hbq : (Nat.beq q.1 ((16 * mOwn mj + mN mj) / 16) && Nat.ble (catL r) 8) <;> rw [hbq] at h3 <;> cases h3
            · cases h3
          · cases hab
        · cases hab
      · cases hab
    case ireturn =>
      simp only [ab] at hab
      split at hab
      · next hc =>
        subst hc
        split at hab
        · simp only [Option.some.injEq, Prod.mk.injEq] at hab
          obtain ⟨rfl, rfl, rfl, rfl, rfl⟩ := hab
          simp only [ex] at hst
          split at hst <;> first | cases hst | (split at hst <;> cases hst)
        · split at hab
          · simp only [Option.some.injEq, Prod.mk.injEq] at hab
            obtain ⟨rfl, rfl, rfl, rfl, rfl⟩ := hab
            simp only [ex] at hst
            split at hst <;> first | cases hst | (split at hst <;> cases hst)
          · cases hab
      · cases hab
    case areturn =>
      simp only [ab] at hab
      split at hab
      · next hc =>
        simp only [Option.some.injEq, Prod.mk.injEq] at hab
        obtain ⟨rfl, rfl, rfl, rfl, rfl⟩ := hab
        simp only [ex] at hst
        split at hst <;> first | cases hst | (split at hst <;> cases hst)
      · cases hab
    case lreturn =>
      simp only [ab] at hab
      split at hab
      · next hc =>
        simp only [Option.some.injEq, Prod.mk.injEq] at hab
        obtain ⟨rfl, rfl, rfl, rfl, rfl⟩ := hab
        simp only [ex] at hst
        split at hst <;> first | cases hst | (split at hst <;> cases hst)
      · cases hab
    case return_ =>
      simp only [ab] at hab
      split at hab
      · next hc =>
        simp only [Option.some.injEq, Prod.mk.injEq] at hab
        obtain ⟨rfl, rfl, rfl, rfl, rfl⟩ := hab
        simp only [ex] at hst
        split at hst <;> first | cases hst | (split at hst <;> cases hst)
      · cases hab
    all_goals (simp only [ab] at hab; cases hab)
end STEP
end
section
/-! ===== ends, calls, runs ===== -/
theorem okM_spec {mj : Nat} (h : mj < 135) : Cond.initialized (cn (mOwn mj)) ∈ GW ∧ (mS mj = true → Cond.static (mY mj) ∈ GW) ∧ (mS mj = false → Cond.instanceMethod (mY mj) ∈ GW ∧ ((mY mj).name ≠ "<init>" → Cond.selects (mY mj).cls (mY mj) (mY mj) ∈ GW))
    ∧ (mY mj).cls = cn (mOwn mj) ∧ mOwn mj < 5 ∧ plainName (mY mj).cls = true ∧ (mY mj).cls ≠ "java/lang/invoke/MethodHandle" ∧ (mY mj).cls ≠ "java/lang/invoke/VarHandle" ∧ (parseMethodDescriptor (mY mj).desc).map (fun d => d.parameters.length) = some (mN mj) ∧ mN mj + 1 ≤ mL mj + (if mS mj = true then 1 else 0) ∧ mL mj ≤ 21 ∧ mN mj < 16 := by
  have h1 := okM_all h
  simp only [okM, Bool.and_eq_true, decide_eq_true_eq] at h1
  obtain ⟨⟨⟨⟨⟨⟨⟨⟨⟨⟨h1, h2⟩, h3⟩, h4⟩, h5⟩, h6⟩, h7⟩, h8⟩, h9⟩, h10⟩, h11⟩ := h1
  refine ⟨atW_in h1, fun hs => ?_, fun hs => ?_, h3, h4, h5, h6, h7, h8, h9, h10, h11⟩
  · rw [hs] at h2
    exact atW_in h2
  · rw [hs] at h2
    simp only [Bool.and_eq_true, Bool.or_eq_true] at h2
    refine ⟨atW_in h2.1, fun hn => ?_⟩
    rcases h2.2 with h | h
    · exact absurd (by simpa using h) hn
    · exact atW_in h
def Qx (ad : xP → Nat) (cI cQ : ClassId) (D : va_G) (sz : Nat) (r : Option xV) (h' : xH) : Array Value → State → Outcome → State → Prop := fun _ st oc t => oc = .returned (r.map (conc ad)) ∧ va_P D vwCl (cells ad cI cQ h') t.heap ∧ va_F (AA ad sz) st t
def Px (ad : xP → Nat) (cI cQ : ClassId) (D : va_G) (sz : Nat) (as : List xV) (h : xH) : Array Value → State → Prop := va_Pc (as.map (conc ad)) fun U => U.heap.size = sz ∧ va_P D vwCl (cells ad cI cQ h) U.heap ∧ va_K D vwCl (xtys cI cQ) U ∧ NW U
theorem Px_blind {ad : xP → Nat} {cI cQ : ClassId} {D : va_G} {sz : Nat} {as : List xV} {h : xH} : FrameBlind (Px ad cI cQ D sz as h) := fun a U g mk q => by
  obtain ⟨q0, q1, qP, qK, qN⟩ := q
  exact ⟨q0, q1, qP, va_K.moved (u := U) (U := U.calling g mk a) (Vm.Alike.refl U.vm) qK, NW.same (u := U) (U := U.calling g mk a) rfl qN⟩
theorem ex_kind {k a nx tg : Nat} {c : Int32} {loc : xL} {stk : List xV} {h : xH} {x : (Nat × Nat × List xV × List xV) ⊕ Option xV} (he : ex k a nx tg c loc stk h = some (.inr x)) : 13 ≤ k ∧ k ≤ 17 := by
  unfold ex at he
  simp only [binK, Bool.cond_eq_ite] at he
  split at he
  all_goals first
    | exact ⟨by decide, by decide⟩
    | (exfalso; first | cases he | (repeat' split at he) <;> first | cases he | (obtain ⟨l2, e2, -⟩ := lsetK_spec he; cases e2))
theorem ab_other {mi pc len k a nx tg : Nat} {ins : Instr} {c : Int32} (hab : ab mi pc ins len = some (k, a, nx, tg, c)) (hk : 13 ≤ k ∧ k ≤ 17) : ins = .ireturn ∨ ins = .areturn ∨ ins = .lreturn ∨ ins = .return_ ∨ (∃ i, ins = .invokevirtual i) ∨ ∃ i, ins = .invokestatic i := by
  cases ins
  case ireturn => exact Or.inl rfl
  case areturn => exact Or.inr (Or.inl rfl)
  case lreturn => exact Or.inr (Or.inr (Or.inl rfl))
  case return_ => exact Or.inr (Or.inr (Or.inr (Or.inl rfl)))
  case invokevirtual i => exact Or.inr (Or.inr (Or.inr (Or.inr (Or.inl ⟨i, rfl⟩))))
  case invokestatic i => exact Or.inr (Or.inr (Or.inr (Or.inr (Or.inr ⟨i, rfl⟩))))
  all_goals
    exfalso
    simp only [ab] at hab
    first
      | cases hab
      | ((repeat' split at hab) <;> first | (simp only [Option.some.injEq, Prod.mk.injEq] at hab; omega) | cases hab)
section ENDS
variable {p : Program} {l : Launch} {e : Env} {R : Room} {s : State} {m : MethodId} {args : Array Value} {below : List Frame} {meth : Method} {c : Code} {H : Heap} {locs : List Loc} {Q : State → Prop}
variable {ad : xP → Nat} {cI cQ : ClassId} {D : va_G} {mi sz pc : Nat} {h h1 : xH} {loc : xL} {stk : List xV} {ls : Array Slot} {r r1 : Option xV}
theorem sndR (C : CX ad cI cQ D mi sz p s m meth c args) (hP : va_P D vwCl (cells ad cI cQ h) H) (hS : va_S (AA ad sz) s.heap H locs) (hst : stp mi pc loc stk h = some (.inr (.inr r))) :
    W p l e R s m args below meth c H locs 0 0 (MQ below (Qx ad cI cQ D sz r h) args s 0 0 (AA ad sz)) (F0 m pc ls (stk.map (conc ad))) := by
  obtain ⟨hx, hb, hr, hml, hown, hts, hN, hK, hlk, hmi, hI, hsz⟩ := C
  unfold stp at hst
  cases ho : opAt mi pc with
  | none => rw [ho] at hst; cases hst
  | some o =>
    obtain ⟨k, a, nx, tg, cc⟩ := o
    obtain ⟨ins, len, hd, hab⟩ := opAt_dec ho
    rw [ho] at hst
    simp only at hst
    have hkd := ex_kind hst
    cases ins
    case ireturn =>
      simp only [ab] at hab
      split at hab
      · next hc =>
        subst hc
        split at hab
        · next hmr =>
          simp only [Option.some.injEq, Prod.mk.injEq] at hab
          obtain ⟨rfl, rfl, rfl, rfl, rfl⟩ := hab
          simp only [ex] at hst
          split at hst
          · next x =>
            simp only [Option.some.injEq, Sum.inr.injEq] at hst
            subst hst
            exact W.iret hx hb (hr.trans hmr) (fun t ht hW => ⟨rfl, by rw [ht]; exact hP, hS.F ht⟩) hS.2.2 hd hlk
          · cases hst
        · split at hab
          · next hmr =>
            simp only [Option.some.injEq, Prod.mk.injEq] at hab
            obtain ⟨rfl, rfl, rfl, rfl, rfl⟩ := hab
            simp only [ex] at hst
            split at hst
            · next x =>
              split at hst
              · next hx1 =>
                simp only [Option.some.injEq, Sum.inr.injEq] at hst
                subst hst
                exact W.zret hx hb (hr.trans hmr) (by show Value.int (x &&& 1) = _; rw [hx1]) (fun t ht hW => ⟨rfl, by rw [ht]; exact hP, hS.F ht⟩) hS.2.2 hd hlk
              · cases hst
            · cases hst
          · cases hab
      · cases hab
    case areturn =>
      simp only [ab] at hab
      split at hab
      · next hc =>
        obtain ⟨rfl, hmr⟩ := hc
        simp only [Option.some.injEq, Prod.mk.injEq] at hab
        obtain ⟨rfl, rfl, rfl, rfl, rfl⟩ := hab
        simp only [ex] at hst
        split at hst
        · next q =>
          split at hst
          · simp only [Option.some.injEq, Sum.inr.injEq] at hst
            subst hst
            exact W.aret hx hb (hr.trans hmr) (Or.inl ⟨_, rfl⟩) (Or.inr ⟨_, rfl⟩) (fun t ht hW => ⟨rfl, by rw [ht]; exact hP, hS.F ht⟩) hS.2.2 hd hlk
          · cases hst
        · cases hst
      · cases hab
    case lreturn =>
      simp only [ab] at hab
      split at hab
      · next hc =>
        obtain ⟨rfl, hmr⟩ := hc
        simp only [Option.some.injEq, Prod.mk.injEq] at hab
        obtain ⟨rfl, rfl, rfl, rfl, rfl⟩ := hab
        simp only [ex] at hst
        split at hst
        · next x =>
          simp only [Option.some.injEq, Sum.inr.injEq] at hst
          subst hst
          exact W.lret hx hb (hr.trans hmr) (fun t ht hW => ⟨rfl, by rw [ht]; exact hP, hS.F ht⟩) hS.2.2 hd hlk
        · cases hst
      · cases hab
    case return_ =>
      simp only [ab] at hab
      split at hab
      · next hc =>
        obtain ⟨rfl, hmr⟩ := hc
        simp only [Option.some.injEq, Prod.mk.injEq] at hab
        obtain ⟨rfl, rfl, rfl, rfl, rfl⟩ := hab
        simp only [ex] at hst
        split at hst
        · simp only [Option.some.injEq, Sum.inr.injEq] at hst
          subst hst
          exact W.vret hx hb (hr.trans hmr) (fun t ht hW => ⟨rfl, by rw [ht]; exact hP, hS.F ht⟩) hS.2.2 hd hlk
        · cases hst
      · cases hab
    case invokevirtual idx =>
      exfalso
      simp only [ab] at hab
      split at hab
      · split at hab
        · split at hab
          · simp only [Option.some.injEq, Prod.mk.injEq] at hab
            obtain ⟨rfl, rfl, rfl, rfl, rfl⟩ := hab
            simp only [ex, exV] at hst
            obtain ⟨pre, st2, e1, e2, h3⟩ := takeK_spec hst
            split at h3
            · simp only [Bool.cond_eq_ite] at h3
              split at h3 <;> cases h3
            · cases h3
          · cases hab
        · cases hab
      · cases hab
    case invokestatic idx =>
      exfalso
      have key : ∀ (a nx tg : Nat), exS a nx tg stk = some (.inr (.inr r)) → False := by
        intro a nx tg he
        unfold exS at he
        obtain ⟨pre, st2, e1, e2, h3⟩ := takeK_spec he
        simp only [Bool.cond_eq_ite] at h3
        split at h3 <;> cases h3
      simp only [ab] at hab
      (repeat' split at hab) <;> first
        | (simp only [Option.some.injEq, Prod.mk.injEq] at hab; obtain ⟨rfl, rfl, rfl, rfl, rfl⟩ := hab; simp only [ex] at hst; exact key _ _ _ hst)
        | (simp only [Option.some.injEq, Prod.mk.injEq] at hab; omega)
        | cases hab
    all_goals
      rcases ab_other hab hkd with h | h | h | h | ⟨i, h⟩ | ⟨i, h⟩ <;> cases h
theorem xcall {rest st0 : List Value} {a : Array Value} (hr : va_Run p l e R s m args below meth c H locs 0 0 0 0 (F0 m pc ls st0) rest (Qx ad cI cQ D H.size r1 h1 a) (AA ad H.size)) (hS : va_S (AA ad sz) s.heap H locs) (hsz : s.heap.size = sz)
    (kk : ∀ (H1 : Heap) (locs1 : List Loc), va_P D vwCl (cells ad cI cQ h1) H1 → va_S (AA ad sz) s.heap H1 locs1 → W p l e R s m args below meth c H1 locs1 0 0 Q (F0 m (pc + 3) ls ((r1.map (conc ad)).toList ++ rest))) : W p l e R s m args below meth c H locs 0 0 Q (F0 m pc ls st0) := by
  have hle : sz ≤ H.size := by rw [← hsz]; exact hS.1
  have hAA : ∀ q, AA ad H.size q → AA ad sz q := fun q hq => by
    rcases hq with h | h
    · exact Or.inl h
    · exact Or.inr (by omega)
  intro T hT X
  obtain ⟨v, st₀, t, T', L, h0, X', hL, e1, e2, ⟨hv, hp, hz, hk⟩, st⟩ := hr T hT X
  rw [h0] at hz hk
  have hv : v = r1.map (conc ad) := by cases hv; rfl
  subst hv
  obtain ⟨t2, a1, b1⟩ := kk T'.heap (locs ++ L) (by rw [e1]; exact hp)
    ⟨Nat.le_trans hS.1 (by rw [e1]; exact hz), fun q h1 h2 => by rw [e1, hk q (Nat.lt_of_lt_of_le h1 hS.1) (fun z => h2 (hAA q z))]; exact hS.2.1 q h1 h2, fun q hq => by
      rcases List.mem_append.mp hq with h | h
      · exact hS.2.2 q h
      · exact hAA _ (hL q h)⟩ T' rfl X'
  exact ⟨t2, st t2 a1, b1⟩
theorem psh_conc {r : Option xV} {rest : List xV} : (pshO r rest).map (conc ad) = (r.map (conc ad)).toList ++ rest.map (conc ad) := by
  cases r <;> rfl
set_option maxHeartbeats 1000000 in
theorem sndC {d mj nx : Nat} {as rest : List xV} (C : CX ad cI cQ D mi sz p s m meth c args) (hP : va_P D vwCl (cells ad cI cQ h) H) (hS : va_S (AA ad sz) s.heap H locs) (hl : LR ad ls (mL mi) loc) (vS : okS stk) (hR : R.frames = d + 2 ∧ R.locals = 40 * (d + 2)) (hst : stp mi pc loc stk h = some (.inr (.inl (mj, nx, as, rest))))
    (hM : mj < 135 → as.length = mN mj + (if mS mj = true then 0 else 1) → okS as → (∀ w ∈ as, isJ w = false) → ∀ sz', Met l (mY mj) (wsM mj) (rmD d) (Px ad cI cQ D sz' as h) (Qx ad cI cQ D sz' r1 h1) 0 0 (AA ad sz'))
    (kk : ∀ (H1 : Heap) (locs1 : List Loc), va_P D vwCl (cells ad cI cQ h1) H1 → va_S (AA ad sz) s.heap H1 locs1 → okS rest → W p l e R s m args below meth c H1 locs1 0 0 Q (F0 m nx ls ((pshO r1 rest).map (conc ad)))) :
    W p l e R s m args below meth c H locs 0 0 Q (F0 m pc ls (stk.map (conc ad))) := by
  obtain ⟨hx, hb, hr, hml, hown, hts, hN, hK, hlk, hmi, hI, hsz⟩ := C
  unfold stp at hst
  cases ho : opAt mi pc with
  | none => rw [ho] at hst; cases hst
  | some o =>
    obtain ⟨k, a, nx', tg, cc⟩ := o
    obtain ⟨ins, len, hd, hab⟩ := opAt_dec ho
    rw [ho] at hst
    simp only at hst
    have hroom : ∀ mj', mL mj' ≤ 21 → (rmD d).frames + 1 ≤ R.frames ∧ 8 + (mL mj' + 11) + (rmD d).locals ≤ R.locals := fun mj' hl => by
      rw [hR.1, hR.2]; simp only [rmD]; omega
    cases ins
    case invokevirtual idx =>
      simp only [ab] at hab
      split at hab
      · next hc =>
        subst hc
        split at hab
        · next mj' hv =>
          split at hab
          · next hcs =>
            simp only [Option.some.injEq, Prod.mk.injEq] at hab
            obtain ⟨rfl, rfl, rfl, rfl, rfl⟩ := hab
            simp only [ex, exV] at hst
            obtain ⟨pre, st2, e1, e2, h3⟩ := takeK_spec hst
            split at h3
            · next q r =>
              cases hbq : (Nat.beq q.1 ((16 * mOwn mj' + mN mj') / 16) && Nat.ble (catL r) 8) with
              | false => rw [hbq] at h3; cases h3
              | true =>
                rw [hbq] at h3
                simp only [cond_true, Option.some.injEq, Sum.inr.injEq, Sum.inl.injEq, Prod.mk.injEq] at h3
                obtain ⟨rfl, rfl, rfl, rfl⟩ := h3
                simp only [Bool.and_eq_true, Nat.beq_eq] at hbq
                obtain ⟨hlw, hj⟩ := vl_in hv
                obtain ⟨g1, -, g2, g3, g4, g5, g6, g7, g8, g9, g10, g11⟩ := okM_spec hj
                obtain ⟨g21, g22⟩ := g2 hcs.1
                have hq1 : q.1 = mOwn mj' := by rw [hbq.1]; omega
                have hlen : pre.length = mN mj' := by rw [e2.1]; omega
                have hq : q ∈ allP := vS (vR q) (by rw [e1]; simp)
                have hoks : okS (vR q :: (pre.reverse ++ [])) := by
                  intro v hv
                  apply vS v
                  rw [e1]
                  simp only [List.append_nil, List.mem_cons, List.mem_reverse] at hv
                  rcases hv with rfl | h
                  · simp
                  · exact List.mem_append_left _ h
                have hMM := hM hj (by simp [hlen, hcs.1]) hoks (fun w hw => by
                  simp only [List.append_nil, List.mem_cons, List.mem_reverse] at hw
                  rcases hw with rfl | h
                  · rfl
                  · exact e2.2 w h) H.size
                have hcat := catL_eq ad r
                have hle : catL r ≤ 8 := Nat.le_of_ble_eq_true hbq.2
                obtain ⟨q0, hq0, hce⟩ := cells_at (ad := ad) (cI := cI) (cQ := cQ) (h := h) hq
                rw [ent_obj (by omega), hq1] at hce
                have hgood : GoodIn (wsM mi) (wsV (cn (mOwn mi)) idx (cn (mOwn mj')) (mY mj') (wsM mj')) := by
                  intro w hw
                  rcases List.mem_append.mp hw with hw | hw
                  · simp only [List.mem_cons, List.not_mem_nil, or_false] at hw
                    rcases hw with rfl | rfl | rfl | rfl
                    · exact ⟨GW_in hlw, good_of_word (GW_good hlw)⟩
                    · exact ⟨GW_in g21, good_of_word (GW_good g21)⟩
                    · have g23 := g22 hcs.2; rw [g3] at g23; exact ⟨GW_in g23, good_of_word (GW_good g23)⟩
                    · exact ⟨GW_in g1, good_of_word (GW_good g1)⟩
                  · exact wsM_good hj w hw
                have hrun := va_runV (p := p) (l := l) (e := e) (R := R) (m := m) (below := below) (meth := meth) (locs := locs) (cells := 0) (slots := 0) (g := F0 m pc ls (stk.map (conc ad))) (As := (pre.map (conc ad)).reverse) (b := ad q) (rest := r.map (conc ad)) ⟨hx, hb, hml, hown, hts⟩ hMM
                  (cwV (mN mj') hts hgood rfl rfl rfl ⟨g3, g6, g7, g8⟩ (hroom mj' g10))
                  ⟨Px_blind, va_recv hK hP (vw_at g4) hce, fun U hU hW => ⟨by simp [conc], by rw [hU], by rw [hU]; exact hP, va_K.moved hW.alike hK, NW.warm hW hN⟩⟩
                  rfl (by simp [hlen]) hl.1 (by rw [List.reverse_reverse, e1]; simp [conc]) (lv_room (by rw [hcat]; exact hle)) hd ⟨Nat.zero_le _, Nat.zero_le _⟩
                refine xcall hrun hS hsz (fun H1 locs1 hP1 hS1 => ?_)
                have hkk := kk H1 locs1 hP1 hS1 (fun v hv => vS v (by rw [e1]; exact List.mem_append_right _ (List.mem_cons_of_mem _ hv)))
                rw [psh_conc] at hkk
                exact hkk
            · cases h3
          · cases hab
        · cases hab
      · cases hab
    case invokestatic idx =>
      simp only [ab] at hab
      split at hab
      · next hc =>
        subst hc
        have key : ∀ mj', mj' < 135 → mS mj' = true → nx' = pc + 3 → exS mj' (pc + 3) (16 * mOwn mj' + mN mj') stk = some (.inr (.inl (mj, nx, as, rest))) → (∀ (As rest0 : List Value), Met l (mY mj') (wsM mj') (rmD d) (Px ad cI cQ D H.size as h) (Qx ad cI cQ D H.size r1 h1) 0 0 (AA ad H.size) → PreS s H (Px ad cI cQ D H.size as h) As → As.length = mN mj' → stk.map (conc ad) = As.reverse ++ rest0 → (rest0.map fun v => v.category).sum ≤ 8 → va_Run p l e R s m args below meth c H locs 0 0 0 0 (F0 m pc ls (stk.map (conc ad))) rest0 (Qx ad cI cQ D H.size r1 h1 As.toArray) (AA ad H.size)) → W p l e R s m args below meth c H locs 0 0 Q (F0 m pc ls (stk.map (conc ad))) := by
          intro mj' hj hsm hnx hex row
          unfold exS at hex
          obtain ⟨pre, r, e1, e2, h3⟩ := takeK_spec hex
          cases hbq : Nat.ble (catL r) 8 with
          | false => rw [hbq] at h3; cases h3
          | true =>
            rw [hbq] at h3
            simp only [cond_true, Option.some.injEq, Sum.inr.injEq, Sum.inl.injEq, Prod.mk.injEq] at h3
            obtain ⟨rfl, rfl, rfl, rfl⟩ := h3
            obtain ⟨g1, g1s, g2, g3, g4, g5, g6, g7, g8, g9, g10, g11⟩ := okM_spec hj
            have hlen : pre.length = mN mj' := by rw [e2.1]; omega
            have hoks : okS (pre.reverse ++ []) := by
              intro v hv
              apply vS v
              rw [e1]
              simp only [List.append_nil, List.mem_reverse] at hv
              exact List.mem_append_left _ hv
            have hMM := hM hj (by simp [hlen, hsm]) hoks (fun w hw => e2.2 w (by simpa using hw)) H.size
            have hcat := catL_eq ad r
            have hle : catL r ≤ 8 := Nat.le_of_ble_eq_true hbq
            have hrun := row ((pre.map (conc ad)).reverse) (r.map (conc ad)) hMM ⟨Px_blind, fun U hU hW => ⟨by simp, by rw [hU], by rw [hU]; exact hP, va_K.moved hW.alike hK, NW.warm hW hN⟩⟩ (by simp [hlen]) (by rw [List.reverse_reverse, e1]; simp) (by rw [hcat]; exact hle)
            refine xcall hrun hS hsz (fun H1 locs1 hP1 hS1 => ?_)
            have hkk := kk H1 locs1 hP1 hS1 (fun v hv => vS v (by rw [e1]; exact List.mem_append_right _ hv))
            rw [psh_conc] at hkk
            exact hkk
        split at hab
        · next mj' hv =>
          split at hab
          · next hcs =>
            simp only [Option.some.injEq, Prod.mk.injEq] at hab
            obtain ⟨rfl, rfl, rfl, rfl, rfl⟩ := hab
            simp only [ex] at hst
            obtain ⟨hlw, hj⟩ := vl_in hv
            obtain ⟨g1, g1s, g2, g3, g4, g5, g6, g7, g8, g9, g10, g11⟩ := okM_spec hj
            refine key mj' hj hcs.1 rfl hst (fun As rest0 hMM hpre hAs hstk hcat => ?_)
            have hgood : GoodIn (wsM mi) (wsS (cn (mOwn mi)) idx (mY mj') (wsM mj')) := by
              intro w hw
              rcases List.mem_append.mp hw with hw | hw
              · simp only [List.mem_cons, List.not_mem_nil, or_false] at hw
                rcases hw with rfl | rfl | rfl
                · exact ⟨GW_in hlw, good_of_word (GW_good hlw)⟩
                · exact ⟨GW_in (g1s hcs.1), good_of_word (GW_good (g1s hcs.1))⟩
                · rw [hcs.2] at g1; exact ⟨GW_in g1, good_of_word (GW_good g1)⟩
              · exact wsM_good hj w hw
            exact va_runS (g := F0 m pc ls (stk.map (conc ad))) ⟨hx, hb, hml, hown, hts⟩ hMM (cwS (mN mj') hts hgood rfl rfl rfl ⟨by rw [g3, hcs.2], g6, g7, g8⟩ (hroom mj' g10)) hpre rfl hAs hl.1 hstk (lv_room hcat) hd ⟨Nat.zero_le _, Nat.zero_le _⟩
          · cases hab
        · split at hab
          · next mj' hv =>
            split at hab
            · next hcs =>
              simp only [Option.some.injEq, Prod.mk.injEq] at hab
              obtain ⟨rfl, rfl, rfl, rfl, rfl⟩ := hab
              simp only [ex] at hst
              obtain ⟨hlw, hj⟩ := nl_in hv
              obtain ⟨g1, g1s, g2, g3, g4, g5, g6, g7, g8, g9, g10, g11⟩ := okM_spec hj
              refine key mj' hj hcs rfl hst (fun As rest0 hMM hpre hAs hstk hcat => ?_)
              exact va_runSN (g := F0 m pc ls (stk.map (conc ad))) ⟨hx, hb, hml, hown, hts⟩ hMM ⟨va_cnB (mN mj') hts (wsM_good hj) rfl rfl rfl (hN _ hlw) (by rw [g3]; exact hts _ (GW_in g1)) ⟨g6, g7, g8⟩ (hroom mj' g10), hts _ (GW_in (g1s hcs)), trivial⟩ hpre rfl hAs hl.1 hstk (lv_room hcat) hd ⟨Nat.zero_le _, Nat.zero_le _⟩
            · cases hab
          · split at hab
            · simp only [Option.some.injEq, Prod.mk.injEq] at hab
              obtain ⟨rfl, rfl, rfl, rfl, rfl⟩ := hab
              simp only [ex] at hst
              split at hst
              · next n0 dp q sp pq r =>
                cases hbq : (Nat.beq pq.1 10 && Nat.beq q.1 10 && Nat.ble (catL r) 8) <;> rw [hbq] at hst
                · cases hst
                · simp only [cond_true] at hst
                  split at hst <;> cases hst
              · cases hst
            · cases hab
      · cases hab
    case ireturn =>
      exfalso
      simp only [ab] at hab
      (repeat' split at hab) <;> first
        | (simp only [Option.some.injEq, Prod.mk.injEq] at hab; obtain ⟨rfl, rfl, rfl, rfl, rfl⟩ := hab; simp only [ex] at hst; (repeat' split at hst) <;> cases hst)
        | cases hab
    case areturn =>
      exfalso
      simp only [ab] at hab
      (repeat' split at hab) <;> first
        | (simp only [Option.some.injEq, Prod.mk.injEq] at hab; obtain ⟨rfl, rfl, rfl, rfl, rfl⟩ := hab; simp only [ex] at hst; (repeat' split at hst) <;> cases hst)
        | cases hab
    case lreturn =>
      exfalso
      simp only [ab] at hab
      (repeat' split at hab) <;> first
        | (simp only [Option.some.injEq, Prod.mk.injEq] at hab; obtain ⟨rfl, rfl, rfl, rfl, rfl⟩ := hab; simp only [ex] at hst; (repeat' split at hst) <;> cases hst)
        | cases hab
    case return_ =>
      exfalso
      simp only [ab] at hab
      (repeat' split at hab) <;> first
        | (simp only [Option.some.injEq, Prod.mk.injEq] at hab; obtain ⟨rfl, rfl, rfl, rfl, rfl⟩ := hab; simp only [ex] at hst; (repeat' split at hst) <;> cases hst)
        | cases hab
    all_goals
      rcases ab_other hab (ex_kind hst) with h | h | h | h | ⟨i, h⟩ | ⟨i, h⟩ <;> cases h
end ENDS
/-! ===== the runs ===== -/
theorem nth_map_some {as : List xV} {k i : Nat} {v : xV} (h : nth (as.map some ++ List.replicate k none) i = some (some v)) : i < as.length ∧ as[i]? = some v := by
  induction as generalizing i with
  | nil =>
    exfalso
    simp only [List.map_nil, List.nil_append] at h
    induction k generalizing i with
    | zero => simp [nth] at h
    | succ k ih =>
      cases i with
      | zero => simp [List.replicate, nth] at h
      | succ i => exact ih h
  | cons a as ih =>
    cases i with
    | zero =>
      simp only [List.map_cons, List.cons_append, nth, Option.some.injEq] at h
      subst h
      exact ⟨by simp, rfl⟩
    | succ i =>
      obtain ⟨h1, h2⟩ := ih h
      exact ⟨by simp; omega, by simpa using h2⟩
theorem lv_args_at {ad : xP → Nat} : ∀ (as : List xV) (b i : Nat) (v : xV), (∀ w ∈ as, isJ w = false) → as[i]? = some v → (b + i, conc ad v) ∈ lv_args b (as.map (conc ad)) := by
  intro as
  induction as with
  | nil => intro b i v _ h; simp at h
  | cons a as ih =>
    intro b i v hj h
    have hc : (conc ad a).category = 1 := conc_cat ad (hj a List.mem_cons_self)
    show _ ∈ (b, conc ad a) :: lv_args (if (conc ad a).category = 2 then b + 2 else b + 1) (as.map (conc ad))
    rw [if_neg (by rw [hc]; decide)]
    cases i with
    | zero =>
      simp only [List.getElem?_cons_zero, Option.some.injEq] at h
      subst h
      exact List.mem_cons_self
    | succ i =>
      have h2 := ih (b + 1) i v (fun w hw => hj w (List.mem_cons_of_mem _ hw)) (by simpa using h)
      rw [show b + (i + 1) = b + 1 + i by omega]
      exact List.mem_cons_of_mem _ h2
theorem lg_sl_len {ad : xP → Nat} : ∀ (as : List xV), (∀ w ∈ as, isJ w = false) → (lg_sl (as.map (conc ad))).length = as.length := by
  intro as
  induction as with
  | nil => intro _; rfl
  | cons a as ih =>
    intro hj
    have h1 := ih (fun w hw => hj w (List.mem_cons_of_mem _ hw))
    have h2 := hj a List.mem_cons_self
    match a, h2 with
    | .inl x, _ => simpa [lg_sl, conc, Value.category] using h1
    | .inr (.inl none), _ => simpa [lg_sl, conc, Value.category] using h1
    | .inr (.inl (some q)), _ => simpa [lg_sl, conc, Value.category] using h1
/-- what a run says of the method, at a depth -/
theorem met_of {l : Launch} {D : va_G} {ad : xP → Nat} {cI cQ : ClassId} {d mj : Nat} {as : List xV} {h h1 : xH} {r1 : Option xV} (hI : adI ad) (hj : mj < 135) (hlen : as.length = mN mj + (if mS mj = true then 0 else 1)) (ha : okS as) (hnj : ∀ w ∈ as, isJ w = false)
    (hw : ∀ {p : Program} {e : Env} {s : State} {m : MethodId} {args : Array Value} {below : List Frame} {meth : Method} {c : Code} {H : Heap} {locs : List Loc} {ls : Array Slot} {sz : Nat}, CX ad cI cQ D mj sz p s m meth c args → va_P D vwCl (cells ad cI cQ h) H → va_S (AA ad sz) s.heap H locs → LR ad ls (mL mj) (ent0 mj as) → okL (ent0 mj as) → okS [] →
      W p l e (rmD d) s m args below meth c H locs 0 0 (MQ below (Qx ad cI cQ D sz r1 h1) args s 0 0 (AA ad sz)) (F0 m 0 ls (([] : List xV).map (conc ad)))) :
    ∀ sz', Met l (mY mj) (wsM mj) (rmD d) (Px ad cI cQ D sz' as h) (Qx ad cI cQ D sz' r1 h1) 0 0 (AA ad sz') := by
  intro sz'
  obtain ⟨g1, g1s, g2, g3, g4, g5, g6, g7, g8, g9, g10, g11⟩ := okM_spec hj
  refine Met.ofW (cc := mC mj) (maxL := mL mj) (ret := mR mj) g5 rfl ?_
  intro p e s m args below meth c s₁ B hml hv
  obtain ⟨rfl, hsz, hP, hK, hN⟩ := hv
  have hts := atoms_spec (ws := wsM mj) B.pre
  have hown : s.vm.findClass (mY mj).cls = some m.cls := findClass_of_methodNamed B.named
  rw [g3] at hown
  rw [lg_entry_eq]
  have hle : as.length ≤ mL mj := by
    rw [hlen]
    by_cases hs : mS mj = true
    · rw [if_pos hs] at g9 ⊢; omega
    · rw [if_neg hs] at g9 ⊢; omega
  have hl := lv_entry (as.map (conc ad)) (n := mL mj) (by rw [lg_sl_len as hnj]; exact hle)
  refine hw (ls := _) (sz := sz') ⟨B.exec, B.bytes, B.returns, hml, hown, hts, hN, hK, B.notSynchronized, hj, hI, hsz⟩ hP va_S.rf ⟨hl.1, hl.2.1, fun i v hv => ?_⟩ (fun i v hv => ?_) (fun v hv => absurd hv List.not_mem_nil)
  · obtain ⟨h1, h2⟩ := nth_map_some hv
    have h3 := lv_args_at (ad := ad) as 0 i v hnj h2
    rw [Nat.zero_add] at h3
    exact ⟨hl.2.2 _ h3, hnj v (List.mem_of_getElem? h2)⟩
  · obtain ⟨h1, h2⟩ := nth_map_some hv
    exact ha v (List.mem_of_getElem? h2)
theorem ex_ret {k a nx tg : Nat} {c : Int32} {loc : xL} {stk : List xV} {h : xH} {w : xV} (he : ex k a nx tg c loc stk h = some (.inr (.inr (some w)))) : okV w := by
  have hk := ex_kind he
  rcases (show k = 13 ∨ k = 14 ∨ k = 15 ∨ k = 16 ∨ k = 17 by omega) with rfl | rfl | rfl | rfl | rfl
  · simp only [ex] at he
    (repeat' split at he) <;> first
      | (next hq => simp only [Option.some.injEq, Sum.inr.injEq] at he; subst he; simp only [okP, decide_eq_true_eq] at hq; exact hq)
      | (simp only [Option.some.injEq, Sum.inr.injEq] at he; subst he; trivial)
      | cases he
  · simp only [ex, exV] at he
    obtain ⟨pre, st2, e1, e2, h3⟩ := takeK_spec he
    split at h3
    · simp only [Bool.cond_eq_ite] at h3
      split at h3 <;> cases h3
    · cases h3
  · simp only [ex, exS] at he
    obtain ⟨pre, st2, e1, e2, h3⟩ := takeK_spec he
    simp only [Bool.cond_eq_ite] at h3
    split at h3 <;> cases h3
  · simp only [ex, exS] at he
    obtain ⟨pre, st2, e1, e2, h3⟩ := takeK_spec he
    simp only [Bool.cond_eq_ite] at h3
    split at h3 <;> cases h3
  · simp only [ex] at he
    split at he <;> cases he
theorem run_ok : ∀ (n d mi pc : Nat) (loc : xL) (stk : List xV) (h : xH) (w : xV) (hf : xH), run n d mi pc loc stk h = some (some w, hf) → okV w := by
  intro n
  induction n with
  | zero => intro d mi pc loc stk h w hf hr; simp [run] at hr
  | succ n ih =>
    intro d mi pc loc stk h w hf hr
    rw [run] at hr
    split at hr
    · cases hr
    · exact ih _ _ _ _ _ _ _ _ hr
    · cases d with
      | zero => simp at hr
      | succ d =>
        simp only at hr
        split at hr
        · cases hr
        · exact ih _ _ _ _ _ _ _ _ hr
    · next hst =>
      simp only [Option.some.injEq, Prod.mk.injEq] at hr
      obtain ⟨rfl, rfl⟩ := hr
      unfold stp at hst
      split at hst
      · cases hst
      · exact ex_ret hst
theorem walk {l : Launch} {D : va_G} {ad : xP → Nat} {cI cQ : ClassId} (hI : adI ad) : ∀ (n d mi pc : Nat) (loc : xL) (stk : List xV) (h : xH) (r : Option xV) (hf : xH), run n d mi pc loc stk h = some (r, hf) →
    ∀ {p : Program} {e : Env} {s : State} {m : MethodId} {args : Array Value} {below : List Frame} {meth : Method} {c : Code} {H : Heap} {locs : List Loc} {ls : Array Slot} {sz : Nat}, CX ad cI cQ D mi sz p s m meth c args → va_P D vwCl (cells ad cI cQ h) H → va_S (AA ad sz) s.heap H locs → LR ad ls (mL mi) loc → okL loc → okS stk →
      W p l e (rmD d) s m args below meth c H locs 0 0 (MQ below (Qx ad cI cQ D sz r hf) args s 0 0 (AA ad sz)) (F0 m pc ls (stk.map (conc ad))) := by
  intro n
  induction n with
  | zero => intro d mi pc loc stk h r hf hr; simp [run] at hr
  | succ n ih =>
    intro d mi pc loc stk h r hf hr p e s m args below meth c H locs ls sz C hP hS hl vL vS
    rw [run] at hr
    split at hr
    · cases hr
    · next pc' loc' stk' h' hst =>
      exact snd1 C hP hS hl vL vS (by simp [rmD]) (by simp only [rmD]; omega) hst (fun H' locs' ls' hP' hS' hl' vL' vS' => ih _ _ _ _ _ _ _ _ hr C hP' hS' hl' vL' vS')
    · next mj nx as rest hst =>
      cases d with
      | zero => simp at hr
      | succ d =>
        simp only at hr
        split at hr
        · cases hr
        · next r1 h1 hr1 =>
          exact sndC (d := d) C hP hS hl vS ⟨rfl, rfl⟩ hst (fun hj hlen ha hnj sz' => met_of hI hj hlen ha hnj (fun C2 hP2 hS2 hl2 vL2 vS2 => ih _ _ _ _ _ _ _ _ hr1 C2 hP2 hS2 hl2 vL2 vS2) sz')
            (fun H1 locs1 hP1 hS1 vS1 => ih _ _ _ _ _ _ _ _ hr C hP1 hS1 hl vL (fun v hv => by
              cases r1 with
              | none => exact vS1 v hv
              | some w =>
                rcases List.mem_cons.mp hv with rfl | hv
                · exact run_ok _ _ _ _ _ _ _ _ _ hr1
                · exact vS1 v hv))
    · next r' hst =>
      simp only [Option.some.injEq, Prod.mk.injEq] at hr
      obtain ⟨rfl, rfl⟩ := hr
      exact sndR C hP hS hst
theorem met_cl {l : Launch} {D : va_G} {ad : xP → Nat} {cI cQ : ClassId} {d mj : Nat} {as : List xV} {h h1 : xH} {r1 : Option xV} (hI : adI ad) (hj : mj < 135) (hlen : as.length = mN mj + (if mS mj = true then 0 else 1)) (ha : okS as) (hnj : ∀ w ∈ as, isJ w = false) (hc : Cl d mj as h r1 h1) :
    ∀ sz', Met l (mY mj) (wsM mj) (rmD d) (Px ad cI cQ D sz' as h) (Qx ad cI cQ D sz' r1 h1) 0 0 (AA ad sz') := by
  obtain ⟨n, hn⟩ := hc
  exact met_of hI hj hlen ha hnj (fun C2 hP2 hS2 hl2 vL2 vS2 => walk hI n _ _ _ _ _ _ _ _ hn C2 hP2 hS2 hl2 vL2 vS2)
end
section
/-! ===== words as numbers, and the rows on them ===== -/
def E (w : Nat → Nat) : Nat → Int32 := fun i => nI (w i)
def up (w : Nat → Nat) (i x : Nat) : Nat → Nat := fun j => if j = i then x else w j
/-- the number that an int is, 0 .. 2^32 - 1 -/
def tn (x : Int32) : Nat := x.toBitVec.toNat
theorem nI_tn (x : Int32) : nI (tn x) = x := by
  apply Int32.toBitVec_inj.mp
  apply BitVec.eq_of_toNat_eq
  exact pk_tn (n := tn x) x.toBitVec.isLt
theorem tn_lt (x : Int32) : tn x < 2 ^ 32 := x.toBitVec.isLt
theorem tn_nI {n : Nat} (h : n < 2 ^ 32) : tn (nI n) = n := pk_tn h
theorem E_at (w : Nat → Nat) (i : Nat) : E w i = nI (w i) := rfl
theorem hup_hup {h : xH} {p : xP} {f g : Nat → Int32} : hup (hup h p f) p g = hup h p g := by
  funext q
  unfold hup
  by_cases hq : q = p
  · rw [if_pos hq, if_pos hq]
  · rw [if_neg hq, if_neg hq, if_neg hq]
theorem hup_self {h : xH} {p : xP} {f : Nat → Int32} (e : h p = f) : hup h p f = h := by
  funext q
  unfold hup
  by_cases hq : q = p
  · rw [if_pos hq, hq, e]
  · rw [if_neg hq]
theorem hup_ne {h : xH} {p q : xP} {f : Nat → Int32} (hq : q ≠ p) : hup h p f q = h q := if_neg hq
theorem hup_comm {h : xH} {p q : xP} {f g : Nat → Int32} (hq : q ≠ p) : hup (hup h p f) q g = hup (hup h q g) p f := by
  funext z
  unfold hup
  by_cases h1 : z = p
  · rw [if_neg (fun e => hq (e.symm.trans h1)), if_pos h1, if_pos h1]
  · by_cases h2 : z = q
    · rw [if_pos h2, if_neg h1, if_pos h2]
    · rw [if_neg h2, if_neg h1, if_neg h1, if_neg h2]
theorem up_E {w : Nat → Nat} {i x : Nat} : upd (E w) i (nI x) = E (up w i x) := by
  funext j
  unfold upd E up
  by_cases hj : j = i
  · rw [if_pos hj, if_pos hj]
  · rw [if_neg hj, if_neg hj]
theorem hpt_E {h : xH} {p : xP} {w : Nat → Nat} {i x : Nat} (e : h p = E w) : hpt h p i (nI x) = hup h p (E (up w i x)) := by
  unfold hpt
  rw [e, up_E]
theorem up_at {w : Nat → Nat} {i x : Nat} : up w i x i = x := if_pos rfl
theorem up_ne {w : Nat → Nat} {i j x : Nat} (h : j ≠ i) : up w i x j = w j := if_neg h
theorem nd8 {a : Nat} (h : a < 2147483648) : nI a / nI 8 = nI (a / 8) := pk_div h (by decide) (by decide)
theorem nd4 {a : Nat} (h : a < 2147483648) : nI a / nI 4 = nI (a / 4) := pk_div h (by decide) (by decide)
theorem nsub8 (a : Nat) : a - a / 8 * 8 = a % 8 := by omega
theorem nand63 {a : Nat} (h : a < 64) : nI a &&& nI 63 = nI a := by
  rw [pk_andN (by omega) (m := nI 63) 6 (by decide)]
  congr 1
  omega
theorem nand7 {a : Nat} (h : a < 8) : nI a &&& nI 7 = nI a := by
  rw [pk_andN (by omega) (m := nI 7) 3 (by decide)]
  congr 1
  omega
theorem nshr2 {a : Nat} (h : a < 2147483648) : nI a >>> (nI 2 &&& 31) = nI (a / 4) := by
  rw [pk_shrN h (nI 2 &&& 31) 2 (by decide)]
theorem inN {a n : Nat} (h : a < n) (hn : n < 2147483648) : inb (nI a) n = true := by
  unfold inb
  exact decide_eq_true (nI_in h hn)
theorem nlt {a b : Nat} (ha : a < 2147483648) (hb : b < 2147483648) : (nI a < nI b) ↔ a < b := nI_ltI ha hb
theorem neq {a b : Nat} (ha : a < 2147483648) (hb : b < 2147483648) : (nI a = nI b) ↔ a = b := nI_eq ha hb
theorem nlt0 {a : Nat} (ha : a < 2147483648) : ¬ nI a < 0 := nI_pos ha
theorem n0lt {a : Nat} (ha : a < 2147483648) : (0 < nI a) ↔ 0 < a := by
  rw [← nI_0]
  exact nI_ltI (by decide) ha
theorem neq0 {a : Nat} (ha : a < 2147483648) : (nI a = 0) ↔ a = 0 := by
  rw [← nI_0]
  exact nI_eq ha (by decide)
/-- the words 8 * c + j, taken apart -/
theorem ix_div {c j : Nat} (h : j < 8) : (8 * c + j) / 8 = c := by omega
theorem ix_mod {c j : Nat} (h : j < 8) : (8 * c + j) % 8 = j := by omega
theorem rnH {d mi pc : Nat} {loc : xL} {stk : List xV} {h h2 hf : xH} {r : Option xV} (e : h = h2) (k : Rn d mi pc loc stk h2 r hf) : Rn d mi pc loc stk h r hf := e ▸ k
theorem lpN (n : Nat) (W : Nat → Prop) (hs : ∀ i, i < n → W (i + 1) → W i) (he : W n) : W 0 := by
  induction n with
  | zero => exact he
  | succ n ih => exact ih (fun i hi => hs i (Nat.lt_succ_of_lt hi)) (hs n (Nat.lt_succ_self n) he)
/-- the file's cell as it is, as numbers -/
theorem hE0 {h : xH} {p : xP} {w v : Nat → Nat} (hw : h p = E w) (e : v = w) : h = hup h p (E v) := by
  rw [e]
  exact (hup_self hw).symm
theorem bool_ok {x : Int32} (h : x = 0 ∨ x = 1) : x &&& 1 = x := by
  rcases h with rfl | rfl <;> decide
end
section
/-! ===== ClusterFile ===== -/
/-- a sum of n numbers -/
def sm : Nat → (Nat → Nat) → Nat
  | 0, _ => 0
  | n + 1, f => sm n f + f n
theorem sm_succ {n : Nat} {f : Nat → Nat} : sm (n + 1) f = sm n f + f n := rfl
/-- the count of a cluster, as the file has it -/
def cnt (w : Nat → Nat) (c : Nat) : Nat := if w (8 * w 4 + c / 8) = 0 then 0 else w (8 * w (8 * w 4 + c / 8) + c % 8)
/-- the places of counts are places of the file, and the counts are small -/
def CG (w : Nat → Nat) : Prop := w 4 < 64 ∧ (∀ k, k < 8 → w (8 * w 4 + k) < 64) ∧ ∀ c, c < 64 → cnt w c < 1000
def setc (w : Nat → Nat) (c b : Nat) : Nat → Nat := up w (8 * w (8 * w 4 + c / 8) + c % 8) b
def zc (w : Nat → Nat) (c : Nat) : Nat → Nat := fun p => if p / 8 = c then 0 else w p
/-- a count becomes b -/
def adc (w : Nat → Nat) (c b : Nat) : Nat → Nat := if b = 0 then zc (setc w c b) c else setc w c b
/-- cluster b becomes a copy of cluster a of another file -/
def cpc (w v : Nat → Nat) (a b : Nat) : Nat → Nat := fun p => if p / 8 = b then v (8 * a + p % 8) else w p
def inUse (w : Nat → Nat) : Nat := sm 64 fun c => if 0 < cnt w c then 1 else 0
def noKeep (w : Nat → Nat) : Nat := sm 8 fun k => if w (8 * w 4 + k) = 0 then 1 else 0
/-- c is the least free cluster (63 when there is none) -/
def LF (w : Nat → Nat) (c : Nat) : Prop := 1 ≤ c ∧ c ≤ 63 ∧ (∀ x, 1 ≤ x → x < c → 0 < cnt w x) ∧ (c = 63 ∨ cnt w c = 0)
theorem sm_le {n : Nat} {f g : Nat → Nat} (h : ∀ i, i < n → f i ≤ g i) : sm n f ≤ sm n g := by
  induction n with
  | zero => exact Nat.le_refl _
  | succ n ih =>
    have h1 := ih (fun i hi => h i (Nat.lt_succ_of_lt hi))
    have h2 := h n (Nat.lt_succ_self n)
    simp only [sm]
    omega
theorem sm_congr {n : Nat} {f g : Nat → Nat} (h : ∀ i, i < n → f i = g i) : sm n f = sm n g := by
  induction n with
  | zero => rfl
  | succ n ih =>
    have h1 := ih (fun i hi => h i (Nat.lt_succ_of_lt hi))
    have h2 := h n (Nat.lt_succ_self n)
    simp only [sm]
    omega
theorem sm_add {n : Nat} {f g : Nat → Nat} : sm n (fun i => f i + g i) = sm n f + sm n g := by
  induction n with
  | zero => rfl
  | succ n ih => simp only [sm]; omega
theorem sm_const {n a : Nat} : sm n (fun _ => a) = n * a := by
  induction n with
  | zero => simp [sm]
  | succ n ih => simp only [sm, ih, Nat.succ_mul]
/-- a sum over 8 * n in groups of eight -/
theorem sm_grp {n : Nat} {f : Nat → Nat} : sm (8 * n) f = sm n fun k => sm 8 fun j => f (8 * k + j) := by
  induction n with
  | zero => rfl
  | succ n ih =>
    rw [show 8 * (n + 1) = 8 * n + 1 + 1 + 1 + 1 + 1 + 1 + 1 + 1 by omega]
    have e : sm (n + 1) (fun k => sm 8 fun j => f (8 * k + j)) = sm n (fun k => sm 8 fun j => f (8 * k + j)) + sm 8 fun j => f (8 * n + j) := rfl
    rw [e, ← ih]
    simp only [sm, Nat.add_zero]
    omega
theorem noKeep_le (w : Nat → Nat) : noKeep w + inUse w ≤ 64 := by
  unfold noKeep inUse
  rw [show (64 : Nat) = 8 * 8 from rfl, sm_grp, ← sm_add]
  have h := sm_le (n := 8) (f := fun i => (if w (8 * w 4 + i) = 0 then 1 else 0) + sm 8 fun j => if 0 < cnt w (8 * i + j) then 1 else 0) (g := fun _ => 8) (fun i _ => by
    by_cases hq : w (8 * w 4 + i) = 0
    · rw [if_pos hq]
      have e : (sm 8 fun j => if 0 < cnt w (8 * i + j) then 1 else 0) = sm 8 fun _ => 0 := sm_congr fun j hj => by
        have hz : cnt w (8 * i + j) = 0 := by
          unfold cnt
          rw [ix_div hj, if_pos hq]
        rw [hz]
        rfl
      rw [e, sm_const]
      omega
    · rw [if_neg hq]
      have e := sm_le (n := 8) (f := fun j => if 0 < cnt w (8 * i + j) then 1 else 0) (g := fun _ => 1) (fun j _ => by
        show (if 0 < cnt w (8 * i + j) then 1 else 0) ≤ 1
        split <;> omega)
      rw [sm_const] at e
      omega)
  rw [sm_const] at h
  exact h
section CF
variable {d k : Nat} {h : xH} {w : Nat → Nat}
theorem c_at {c j : Nat} (hw : h (10, k) = E w) (hc : c < 64) (hj : j < 8) : Cl d MX0_at [vR (0, k), vI (nI c), vI (nI j)] h (some (vI (nI (w (8 * c + j))))) h := by
  refine rnN 11 rfl ?_
  simp (disch := omega) only [nI_add, pk_mul, pk_sub, nd8, nd4, nsub8, nand63, nand7, nshr2, nI_clamp, E_at, hup_at, hup_hup]
  have e : c * 8 + j = 8 * c + j := by omega
  rw [e]
  refine rnC (inN (show 8 * c + j < 512 by omega) (by decide)) rfl ?_
  simp (disch := omega) only [nI_add, pk_mul, pk_sub, nd8, nd4, nsub8, nand63, nand7, nshr2, nI_clamp, E_at, hup_at, hup_hup, hw]
  exact rnR rfl
theorem c_hd {j : Nat} (hw : h (10, k) = E w) (hj : j < 8) : Cl d MX0_at [vR (0, k), vI (nI 0), vI (nI j)] h (some (vI (nI (w j)))) h := by
  have h1 := c_at (d := d) (c := 0) hw (by decide) hj
  rw [show 8 * 0 + j = j by omega] at h1
  exact h1
theorem c_put {c j x : Nat} (hw : h (10, k) = E w) (hc : c < 64) (hj : j < 8) : Cl d MX0_put [vR (0, k), vI (nI c), vI (nI j), vI (nI x)] h none (hup h (10, k) (E (up w (8 * c + j) x))) := by
  refine rnN 12 rfl ?_
  simp (disch := omega) only [nI_add, pk_mul, pk_sub, nd8, nd4, nsub8, nand63, nand7, nshr2, nI_clamp, E_at, hup_at, hup_hup]
  have e : c * 8 + j = 8 * c + j := by omega
  rw [e]
  refine rnC (inN (show 8 * c + j < 512 by omega) (by decide)) rfl ?_
  simp (disch := omega) only [nI_add, pk_mul, pk_sub, nd8, nd4, nsub8, nand63, nand7, nshr2, nI_clamp, E_at, hup_at, hup_hup]
  rw [hpt_E hw]
  exact rnR rfl
theorem c_becomeLike {k2 : Nat} : Cl d MX0_becomeLike [vR (0, k), vR (0, k2)] h none (hup h (10, k) (va_cpy (h (10, k2)) (h (10, k)) 0 0 512)) := by
  refine rnN 7 rfl ?_
  refine rnC (c := (nI 512 = 512 ∧ nI 0 = 0 ∧ nI 0 = 0)) ⟨rfl, rfl, rfl⟩ rfl ?_
  exact rnR rfl
theorem c_copySame {a b : Nat} (hw : h (10, k) = E w) (ha : a < 64) (hb : b < 64) (hn : a ≠ b) : Cl (d + 1) MX0_copyCluster [vR (0, k), vR (0, k), vI (nI a), vI (nI b)] h none (hup h (10, k) (E (cpc w w a b))) := by
  refine rnN 2 rfl ?_
  refine rnH (hE0 (v := fun p => if p / 8 = b ∧ p % 8 < 0 then w (8 * a + p % 8) else w p) hw (by funext p; rw [if_neg (by omega)])) ?_
  refine lpN 8 (fun i => Rn (d + 1) MX0_copyCluster 3 [some (vR (0, k)), some (vR (0, k)), some (vI (nI a)), some (vI (nI b)), some (vI (nI i))] [] (hup h (10, k) (E fun p => if p / 8 = b ∧ p % 8 < i then w (8 * a + p % 8) else w p)) none (hup h (10, k) (E (cpc w w a b)))) (fun i hi K => ?_) ?_
  · refine rnN 2 rfl ?_
    refine rnT (nI_lt hi (by decide)) rfl ?_
    refine rnN 6 rfl ?_
    refine rnK rfl (c_at hup_at ha hi) ?_
    refine rnK rfl (c_put hup_at hb hi) ?_
    refine rnN 2 rfl ?_
    simp (disch := omega) only [nI_add, pk_mul, pk_sub, nd8, nd4, nsub8, nand63, nand7, nshr2, nI_clamp, E_at, hup_at, hup_hup]
    refine rnH ?_ K
    congr 2
    funext p
    simp only [up]
    by_cases hp : p = 8 * b + i
    · subst hp
      rw [if_pos rfl, if_neg (by omega), if_pos (by omega), ix_mod hi]
    · rw [if_neg hp]
      by_cases h2 : p / 8 = b ∧ p % 8 < i
      · rw [if_pos h2, if_pos (by omega)]
      · rw [if_neg h2, if_neg (by omega)]
  · refine rnN 3 rfl ?_
    refine rnH ?_ (rnR rfl)
    congr 2
    funext p
    simp only [cpc]
    by_cases h2 : p / 8 = b
    · rw [if_pos h2, if_pos (by omega)]
    · rw [if_neg h2, if_neg (by omega)]
theorem c_copyOther {k2 a b : Nat} {v : Nat → Nat} (hw : h (10, k) = E w) (hv : h (10, k2) = E v) (ha : a < 64) (hb : b < 64) (hn : k2 ≠ k) : Cl (d + 1) MX0_copyCluster [vR (0, k), vR (0, k2), vI (nI a), vI (nI b)] h none (hup h (10, k) (E (cpc w v a b))) := by
  refine rnN 2 rfl ?_
  have hne : ((10, k2) : xP) ≠ (10, k) := fun e => hn (by injection e)
  refine rnH (hE0 (v := fun p => if p / 8 = b ∧ p % 8 < 0 then v (8 * a + p % 8) else w p) hw (by funext p; rw [if_neg (by omega)])) ?_
  refine lpN 8 (fun i => Rn (d + 1) MX0_copyCluster 3 [some (vR (0, k)), some (vR (0, k2)), some (vI (nI a)), some (vI (nI b)), some (vI (nI i))] [] (hup h (10, k) (E fun p => if p / 8 = b ∧ p % 8 < i then v (8 * a + p % 8) else w p)) none (hup h (10, k) (E (cpc w v a b)))) (fun i hi K => ?_) ?_
  · refine rnN 2 rfl ?_
    refine rnT (nI_lt hi (by decide)) rfl ?_
    refine rnN 6 rfl ?_
    refine rnK rfl (c_at ((hup_ne hne).trans hv) ha hi) ?_
    refine rnK rfl (c_put hup_at hb hi) ?_
    refine rnN 2 rfl ?_
    simp (disch := omega) only [nI_add, pk_mul, pk_sub, nd8, nd4, nsub8, nand63, nand7, nshr2, nI_clamp, E_at, hup_at, hup_hup]
    refine rnH ?_ K
    congr 2
    funext p
    simp only [up]
    by_cases hp : p = 8 * b + i
    · subst hp
      rw [if_pos rfl, if_pos (by omega), ix_mod hi]
    · rw [if_neg hp]
      by_cases h2 : p / 8 = b ∧ p % 8 < i
      · rw [if_pos h2, if_pos (by omega)]
      · rw [if_neg h2, if_neg (by omega)]
  · refine rnN 3 rfl ?_
    refine rnH ?_ (rnR rfl)
    congr 2
    funext p
    simp only [cpc]
    by_cases h2 : p / 8 = b
    · rw [if_pos h2, if_pos (by omega)]
    · rw [if_neg h2, if_neg (by omega)]
theorem c_blankT {c f : Nat} (hw : h (10, k) = E w) (hc : c < 64) (hf : f ≤ 8) (hz : ∀ j, f ≤ j → j < 8 → w (8 * c + j) = 0) : Cl (d + 1) MX0_isBlank [vR (0, k), vI (nI c), vI (nI f)] h (some (vI (nI 1))) h := by
  refine rnN 2 rfl ?_
  refine lpN (8 - f) (fun i => Rn (d + 1) MX0_isBlank 2 [some (vR (0, k)), some (vI (nI c)), some (vI (nI f)), some (vI (nI (f + i)))] [] h (some (vI (nI 1))) h) (fun i hi K => ?_) ?_
  · refine rnN 2 rfl ?_
    refine rnT (nI_lt (show f + i < 8 by omega) (by decide)) rfl ?_
    refine rnN 3 rfl ?_
    refine rnK rfl (c_at hw hc (show f + i < 8 by omega)) ?_
    rw [hz (f + i) (by omega) (by omega)]
    refine rnN 3 rfl ?_
    simp (disch := omega) only [nI_add, pk_mul, pk_sub, nd8, nd4, nsub8, nand63, nand7, nshr2, nI_clamp, E_at, hup_at, hup_hup]
    exact K
  · rw [show f + (8 - f) = 8 by omega]
    refine rnN 4 rfl ?_
    exact rnR rfl
theorem c_blankF {c f j0 : Nat} (hw : h (10, k) = E w) (hc : c < 64) (hb : ∀ j, j < 8 → w (8 * c + j) < 2 ^ 32) (h1 : f ≤ j0) (h2 : j0 < 8) (hz : w (8 * c + j0) ≠ 0) : Cl (d + 1) MX0_isBlank [vR (0, k), vI (nI c), vI (nI f)] h (some (vI (nI 0))) h := by
  refine rnN 2 rfl ?_
  have hne : ∀ j, j < 8 → w (8 * c + j) ≠ 0 → ¬ nI (w (8 * c + j)) = 0 := fun j hj hn e => hn (by
    have h3 := congrArg tn e
    rwa [tn_nI (hb j hj)] at h3)
  refine lpN (j0 - f) (fun i => Rn (d + 1) MX0_isBlank 2 [some (vR (0, k)), some (vI (nI c)), some (vI (nI f)), some (vI (nI (f + i)))] [] h (some (vI (nI 0))) h) (fun i hi K => ?_) ?_
  · refine rnN 2 rfl ?_
    refine rnT (nI_lt (show f + i < 8 by omega) (by decide)) rfl ?_
    refine rnN 3 rfl ?_
    refine rnK rfl (c_at hw hc (show f + i < 8 by omega)) ?_
    by_cases hq : w (8 * c + (f + i)) = 0
    · rw [hq]
      refine rnN 3 rfl ?_
      simp (disch := omega) only [nI_add, pk_mul, pk_sub, nd8, nd4, nsub8, nand63, nand7, nshr2, nI_clamp, E_at, hup_at, hup_hup]
      exact K
    · refine rnF (hne (f + i) (by omega) hq) rfl ?_
      refine rnN 1 rfl ?_
      exact rnR rfl
  · rw [show f + (j0 - f) = j0 by omega]
    refine rnN 2 rfl ?_
    refine rnT (nI_lt (show j0 < 8 by omega) (by decide)) rfl ?_
    refine rnN 3 rfl ?_
    refine rnK rfl (c_at hw hc h2) ?_
    refine rnF (hne j0 h2 hz) rfl ?_
    refine rnN 1 rfl ?_
    exact rnR rfl
/-- the words of a new file -/
def newF (size : Nat) : Nat → Nat := fun p => match p with
  | 0 => 7001
  | 1 => 1
  | 2 => size
  | 3 => 3
  | 4 => 1
  | 8 => 2
  | 16 => 1
  | 17 => 1
  | 18 => 1
  | 19 => 1
  | _ => 0
theorem c_count {c : Nat} (hw : h (10, k) = E w) (hc : c < 64) (h4 : w 4 < 64) (hq : w (8 * w 4 + c / 8) < 64) : Cl (d + 1) MX0_count [vR (0, k), vI (nI c)] h (some (vI (nI (cnt w c)))) h := by
  refine rnN 4 rfl ?_
  refine rnK rfl (c_hd hw (show 4 < 8 by decide)) ?_
  refine rnN 3 rfl ?_
  simp (disch := omega) only [nI_add, pk_mul, pk_sub, nd8, nd4, nsub8, nand63, nand7, nshr2, nI_clamp, E_at, hup_at, hup_hup]
  refine rnK rfl (c_at hw h4 (show c / 8 < 8 by omega)) ?_
  refine rnN 2 rfl ?_
  refine rnB rfl (fun hz => ?_) (fun hz => ?_)
  · have hz : w (8 * w 4 + c / 8) = 0 := (neq0 (by omega)).mp hz
    refine rnN 2 rfl ?_
    unfold cnt
    rw [if_pos hz]
    exact rnR rfl
  · have hz : ¬ w (8 * w 4 + c / 8) = 0 := fun e => hz ((neq0 (by omega)).mpr e)
    refine rnN 5 rfl ?_
    simp (disch := omega) only [nI_add, pk_mul, pk_sub, nd8, nd4, nsub8, nand63, nand7, nshr2, nI_clamp, E_at, hup_at, hup_hup]
    refine rnK rfl (c_at hw hq (show c % 8 < 8 by omega)) ?_
    unfold cnt
    rw [if_neg hz]
    exact rnR rfl
theorem c_addToCount {c b : Nat} {dl : Int32} (hw : h (10, k) = E w) (hc : c < 64) (h4 : w 4 < 64) (hq : w (8 * w 4 + c / 8) < 64) (hd : nI (w (8 * w (8 * w 4 + c / 8) + c % 8)) + dl = nI b) (hb : b < 1000) : Cl (d + 1) MX0_addToCount [vR (0, k), vI (nI c), vI dl] h none (hup h (10, k) (E (adc w c b))) := by
  refine rnN 4 rfl ?_
  refine rnK rfl (c_hd hw (show 4 < 8 by decide)) ?_
  refine rnN 3 rfl ?_
  simp (disch := omega) only [nI_add, pk_mul, pk_sub, nd8, nd4, nsub8, nand63, nand7, nshr2, nI_clamp, E_at, hup_at, hup_hup]
  refine rnK rfl (c_at hw h4 (show c / 8 < 8 by omega)) ?_
  refine rnN 6 rfl ?_
  simp (disch := omega) only [nI_add, pk_mul, pk_sub, nd8, nd4, nsub8, nand63, nand7, nshr2, nI_clamp, E_at, hup_at, hup_hup]
  refine rnK rfl (c_at hw hq (show c % 8 < 8 by omega)) ?_
  refine rnN 9 rfl ?_
  rw [hd]
  simp (disch := omega) only [nI_add, pk_mul, pk_sub, nd8, nd4, nsub8, nand63, nand7, nshr2, nI_clamp, E_at, hup_at, hup_hup]
  refine rnK rfl (c_put hw hq (show c % 8 < 8 by omega)) ?_
  refine rnN 1 rfl ?_
  refine rnB rfl (fun hz => ?_) (fun hz => ?_)
  · have hz : b = 0 := (neq0 (by omega)).mp hz
    have ea : adc w c b = zc (setc w c b) c := by unfold adc; rw [if_pos hz]
    rw [ea]
    refine rnN 2 rfl ?_
    refine rnH (congrArg (fun f => hup h (10, k) (E f)) (show setc w c b = fun p => if p / 8 = c ∧ p % 8 < 0 then 0 else setc w c b p by funext p; rw [if_neg (by omega)])) ?_
    refine lpN 8 (fun i => Rn (d + 1) MX0_addToCount 47 [some (vR (0, k)), some (vI (nI c)), some (vI dl), some (vI (nI (w (8 * w 4 + c / 8)))), some (vI (nI b)), some (vI (nI i))] [] (hup h (10, k) (E fun p => if p / 8 = c ∧ p % 8 < i then 0 else setc w c b p)) none (hup h (10, k) (E (zc (setc w c b) c)))) (fun i hi K => ?_) ?_
    · refine rnN 2 rfl ?_
      refine rnT (nI_lt hi (by decide)) rfl ?_
      refine rnN 4 rfl ?_
      refine rnK rfl (c_put (x := 0) hup_at hc hi) ?_
      refine rnN 2 rfl ?_
      simp (disch := omega) only [nI_add, pk_mul, pk_sub, nd8, nd4, nsub8, nand63, nand7, nshr2, nI_clamp, E_at, hup_at, hup_hup]
      refine rnH ?_ K
      congr 2
      funext p
      simp only [up]
      by_cases hp : p = 8 * c + i
      · subst hp
        rw [if_pos rfl, if_pos (by omega)]
      · rw [if_neg hp]
        by_cases h2 : p / 8 = c ∧ p % 8 < i
        · rw [if_pos h2, if_pos (by omega)]
        · rw [if_neg h2, if_neg (by omega)]
    · refine rnN 3 rfl ?_
      refine rnH ?_ (rnR rfl)
      congr 2
      funext p
      simp only [zc]
      by_cases h2 : p / 8 = c
      · rw [if_pos h2, if_pos (by omega)]
      · rw [if_neg h2, if_neg (by omega)]
  · have hz : ¬ b = 0 := fun e => hz ((neq0 (by omega)).mpr e)
    have ea : adc w c b = setc w c b := by unfold adc; rw [if_neg hz]
    rw [ea]
    exact rnR rfl
theorem c_clustersInUse (hw : h (10, k) = E w) (hg : CG w) : Cl (d + 2) MX0_clustersInUse [vR (0, k)] h (some (vI (nI (inUse w)))) h := by
  refine rnN 4 rfl ?_
  refine lpN 64 (fun i => Rn (d + 2) MX0_clustersInUse 4 [some (vR (0, k)), some (vI (nI (sm i fun c => if 0 < cnt w c then 1 else 0))), some (vI (nI i))] [] h (some (vI (nI (inUse w)))) h) (fun i hi K => ?_) ?_
  · refine rnN 2 rfl ?_
    refine rnT (nI_lt hi (by decide)) rfl ?_
    refine rnN 3 rfl ?_
    refine rnK rfl (c_count hw hi hg.1 (hg.2.1 (i / 8) (by omega))) ?_
    have hcb := hg.2.2 i hi
    refine rnB rfl (fun hz => ?_) (fun hz => ?_)
    · have hz : 0 < cnt w i := (n0lt (by omega)).mp hz
      refine rnN 2 rfl ?_
      refine rnN 4 rfl ?_
      simp (disch := omega) only [nI_add, pk_mul, pk_sub, nd8, nd4, nsub8, nand63, nand7, nshr2, nI_clamp, E_at, hup_at, hup_hup]
      rw [sm_succ, if_pos hz] at K
      exact K
    · have hz : ¬ 0 < cnt w i := fun e => hz ((n0lt (by omega)).mpr e)
      refine rnN 1 rfl ?_
      refine rnN 4 rfl ?_
      simp (disch := omega) only [nI_add, pk_mul, pk_sub, nd8, nd4, nsub8, nand63, nand7, nshr2, nI_clamp, E_at, hup_at, hup_hup]
      rw [sm_succ, if_neg hz] at K
      exact K
  · refine rnN 4 rfl ?_
    exact rnR rfl
theorem c_room (hw : h (10, k) = E w) (hg : CG w) : Cl (d + 3) MX0_room [vR (0, k)] h (some (vI (nI (64 - inUse w - noKeep w)))) h := by
  have hle := noKeep_le w
  refine rnN 2 rfl ?_
  refine rnK rfl (c_clustersInUse hw hg) ?_
  refine rnN 4 rfl ?_
  simp (disch := omega) only [nI_add, pk_mul, pk_sub, nd8, nd4, nsub8, nand63, nand7, nshr2, nI_clamp, E_at, hup_at, hup_hup]
  refine lpN 8 (fun i => Rn (d + 3) MX0_room 10 [some (vR (0, k)), some (vI (nI (64 - inUse w - sm i fun k => if w (8 * w 4 + k) = 0 then 1 else 0))), some (vI (nI i))] [] h (some (vI (nI (64 - inUse w - noKeep w)))) h) (fun i hi K => ?_) ?_
  · have hs : (sm i fun k => if w (8 * w 4 + k) = 0 then 1 else 0) + (if w (8 * w 4 + i) = 0 then 1 else 0) ≤ 64 - inUse w := by
      have h1 : ∀ n m : Nat, n ≤ m → (sm n fun k => if w (8 * w 4 + k) = 0 then 1 else 0) ≤ sm m fun k => if w (8 * w 4 + k) = 0 then 1 else 0 := by
        intro n m hnm
        induction hnm with
        | refl => exact Nat.le_refl _
        | step _ ih => exact Nat.le_trans ih (Nat.le_add_right _ _)
      have h2 := h1 (i + 1) 8 (by omega)
      rw [sm_succ] at h2
      unfold noKeep at hle
      omega
    refine rnN 2 rfl ?_
    refine rnT (nI_lt hi (by decide)) rfl ?_
    refine rnN 5 rfl ?_
    refine rnK rfl (c_hd hw (show 4 < 8 by decide)) ?_
    refine rnN 1 rfl ?_
    refine rnK rfl (c_at hw hg.1 hi) ?_
    have hqb := hg.2.1 i hi
    refine rnB rfl (fun hz => ?_) (fun hz => ?_)
    · have hz : w (8 * w 4 + i) = 0 := (neq0 (by omega)).mp hz
      rw [if_pos hz] at hs
      refine rnN 2 rfl ?_
      refine rnN 4 rfl ?_
      simp (disch := omega) only [nI_add, pk_mul, pk_sub, nd8, nd4, nsub8, nand63, nand7, nshr2, nI_clamp, E_at, hup_at, hup_hup]
      rw [sm_succ, if_pos hz, ← Nat.sub_sub] at K
      exact K
    · have hz : ¬ w (8 * w 4 + i) = 0 := fun e => hz ((neq0 (by omega)).mpr e)
      refine rnN 1 rfl ?_
      refine rnN 4 rfl ?_
      simp (disch := omega) only [nI_add, pk_mul, pk_sub, nd8, nd4, nsub8, nand63, nand7, nshr2, nI_clamp, E_at, hup_at, hup_hup]
      rw [sm_succ, if_neg hz, ← Nat.sub_sub] at K
      exact K
  · refine rnN 4 rfl ?_
    exact rnR rfl
theorem c_leastFree {c : Nat} (hw : h (10, k) = E w) (hg : CG w) (hl : LF w c) : Cl (d + 2) MX0_leastFree [vR (0, k)] h (some (vI (nI c))) h := by
  obtain ⟨h1, h2, h3, h5⟩ := hl
  refine rnN 2 rfl ?_
  refine lpN (c - 1) (fun i => Rn (d + 2) MX0_leastFree 2 [some (vR (0, k)), some (vI (nI (1 + i)))] [] h (some (vI (nI c))) h) (fun i hi K => ?_) ?_
  · refine rnN 2 rfl ?_
    refine rnT (nI_lt (show 1 + i < 63 by omega) (by decide)) rfl ?_
    refine rnN 2 rfl ?_
    refine rnK rfl (c_count hw (show 1 + i < 64 by omega) hg.1 (hg.2.1 ((1 + i) / 8) (by omega))) ?_
    have hcb := hg.2.2 (1 + i) (by omega)
    refine rnT ((n0lt (by omega)).mpr (h3 (1 + i) (by omega) (by omega))) rfl ?_
    refine rnN 2 rfl ?_
    simp (disch := omega) only [nI_add, pk_mul, pk_sub, nd8, nd4, nsub8, nand63, nand7, nshr2, nI_clamp, E_at, hup_at, hup_hup]
    exact K
  · rw [show 1 + (c - 1) = c by omega]
    refine rnN 2 rfl ?_
    by_cases hc : c = 63
    · subst hc
      refine rnN 2 rfl ?_
      exact rnR rfl
    · have hz : cnt w c = 0 := by
        rcases h5 with e | e
        · exact absurd e hc
        · exact e
      refine rnT (nI_lt (show c < 63 by omega) (by decide)) rfl ?_
      refine rnN 2 rfl ?_
      refine rnK rfl (c_count hw (show c < 64 by omega) hg.1 (hg.2.1 (c / 8) (by omega))) ?_
      rw [hz]
      refine rnN 2 rfl ?_
      exact rnR rfl
end CF
end
section
/-! ===== files: what leads where, the counts that are due, what is right ===== -/
def iv (a b : Nat) : Nat := if a = b then 1 else 0
/-- what a leaf's word counts for cluster X -/
def bc (X y : Nat) : Nat := if y / 4 = 0 then 0 else iv (y / 4) X
/-- what a table's word counts for cluster X: its leaf, and the leaf's blocks -/
def lc (w : Nat → Nat) (X x : Nat) : Nat := if x / 4 = 0 then 0 else iv (x / 4) X + sm 8 fun j => bc X (w (8 * (x / 4) + j))
def tc (w : Nat → Nat) (X t : Nat) : Nat := iv t X + sm 8 fun i => lc w X (w (8 * t + i))
def kc (w : Nat → Nat) (X : Nat) : Nat := sm 8 fun k => if w (8 * w 4 + k) = 0 then 0 else iv (w (8 * w 4 + k)) X
def tab (w : Nat → Nat) (j : Nat) : Nat := w (8 * w 6 + 2 * j)
/-- the count that is due to cluster X -/
def T (w : Nat → Nat) (X : Nat) : Nat := iv X 0 + iv (w 4) X + kc w X + (if w 6 = 0 then 0 else iv (w 6) X) + tc w X (w 3) + sm (w 5) fun j => tc w X (tab w j)
def TB (w : Nat → Nat) (t : Nat) : Prop := t = w 3 ∨ ∃ j, j < w 5 ∧ t = tab w j
def LD (x : Nat) : Prop := 4 ≤ x ∧ x < 256 ∧ x % 4 ≤ 1
def BOK (sz : Nat) (u : Nat → Nat) (i j y : Nat) : Prop := y = 0 ∨ (8 * i + j < sz ∧ (y = 2 ∨ (LD y ∧ u (y / 4) = 24 + (8 * i + j))))
def LOK (w u : Nat → Nat) (i x : Nat) : Prop := x = 0 ∨ (LD x ∧ 8 * i < w 2 ∧ u (x / 4) = 8 + i ∧ ∀ j, j < 8 → BOK (w 2) u i j (w (8 * (x / 4) + j)))
/-- the leads of a file are in order, u tells what each cluster is led to for: 1 the active table, 2 the count table, 3 the list, 4 + j a snapshot's table, 8 + i leaves, 16 + k a count cluster, 24 + b a block's -/
def Str (w u : Nat → Nat) : Prop := (1 ≤ w 2 ∧ w 2 ≤ 64) ∧ (1 ≤ w 3 ∧ w 3 < 64 ∧ u (w 3) = 1) ∧ (1 ≤ w 4 ∧ w 4 < 64 ∧ u (w 4) = 2) ∧ (w 5 ≤ 4 ∧ (w 5 ≠ 0 → w 6 ≠ 0)) ∧ (w 6 ≠ 0 → w 6 < 64 ∧ u (w 6) = 3)
  ∧ (∀ k, k < 8 → w (8 * w 4 + k) ≠ 0 → w (8 * w 4 + k) < 64 ∧ u (w (8 * w 4 + k)) = 16 + k) ∧ (∀ j, j < w 5 → 1 ≤ tab w j ∧ tab w j < 64 ∧ u (tab w j) = 4 + j) ∧ ∀ t, TB w t → ∀ i, i < 8 → LOK w u i (w (8 * t + i))
/-- the header's other words, the list's names and its other words -/
def Hd (w : Nat → Nat) : Prop := w 0 = 7001 ∧ w 1 = 1 ∧ w 7 = 0 ∧ (w 6 ≠ 0 → ∀ j, 2 * w 5 ≤ j → j < 8 → w (8 * w 6 + j) = 0) ∧ ∀ i j, i < w 5 → j < i → w (8 * w 6 + 2 * i + 1) ≠ w (8 * w 6 + 2 * j + 1)
def Inv (w u : Nat → Nat) : Prop := Str w u ∧ (∀ c, c < 64 → cnt w c = T w c) ∧ (∀ c, c < 64 → T w c = 0 → ∀ j, j < 8 → w (8 * c + j) = 0) ∧ Hd w ∧ ∀ p, w p < 4294967296
/-- a table's or leaf's word as it is to be -/
def mk (w : Nat → Nat) (x : Nat) : Nat := if x / 4 = 0 then x else 4 * (x / 4) + (if T w (x / 4) = 1 then 1 else 0)
/-- a cluster of tables and leaves -/
def TL (u : Nat → Nat) (c : Nat) : Prop := u c = 1 ∨ (4 ≤ u c ∧ u c < 16)
def Flg (w u : Nat → Nat) : Prop := ∀ c j, c < 64 → j < 8 → TL u c → mk w (w (8 * c + j)) = w (8 * c + j)
theorem iv_le (a b : Nat) : iv a b ≤ 1 := by unfold iv; split <;> omega
theorem iv_self (a : Nat) : iv a a = 1 := if_pos rfl
theorem iv_ne {a b : Nat} (h : a ≠ b) : iv a b = 0 := if_neg h
theorem iv_pos {a b : Nat} (h : iv a b ≠ 0) : a = b := by
  unfold iv at h
  split at h
  · assumption
  · exact absurd rfl h
theorem bc_le (X y : Nat) : bc X y ≤ 1 := by
  unfold bc
  split
  · omega
  · exact iv_le _ _
theorem lc_le (w : Nat → Nat) (X x : Nat) : lc w X x ≤ 9 := by
  unfold lc
  split
  · omega
  · have h1 := iv_le (x / 4) X
    have h2 := sm_le (n := 8) (f := fun j => bc X (w (8 * (x / 4) + j))) (g := fun _ => 1) (fun _ _ => bc_le _ _)
    rw [sm_const] at h2
    omega
theorem tc_le (w : Nat → Nat) (X t : Nat) : tc w X t ≤ 73 := by
  unfold tc
  have h1 := iv_le t X
  have h2 := sm_le (n := 8) (f := fun i => lc w X (w (8 * t + i))) (g := fun _ => 9) (fun _ _ => lc_le _ _ _)
  rw [sm_const] at h2
  omega
theorem T_le {w : Nat → Nat} (h : w 5 ≤ 4) (X : Nat) : T w X ≤ 376 := by
  unfold T
  have h1 := iv_le X 0
  have h2 := iv_le (w 4) X
  have h3 : kc w X ≤ 8 := by
    have := sm_le (n := 8) (f := fun k => if w (8 * w 4 + k) = 0 then 0 else iv (w (8 * w 4 + k)) X) (g := fun _ => 1) (fun k _ => by
      show (if w (8 * w 4 + k) = 0 then 0 else iv (w (8 * w 4 + k)) X) ≤ 1
      split
      · omega
      · exact iv_le _ _)
    rw [sm_const] at this
    exact this
  have h4 : (if w 6 = 0 then 0 else iv (w 6) X) ≤ 1 := by
    split
    · omega
    · exact iv_le _ _
  have h5 := tc_le w X (w 3)
  have h6 := sm_le (n := w 5) (f := fun j => tc w X (tab w j)) (g := fun _ => 73) (fun _ _ => tc_le _ _ _)
  rw [sm_const] at h6
  have h7 : w 5 * 73 ≤ 4 * 73 := Nat.mul_le_mul_right 73 h
  omega
theorem sm_ge {n i : Nat} {f : Nat → Nat} (h : i < n) : f i ≤ sm n f := by
  induction n with
  | zero => omega
  | succ n ih =>
    rw [sm_succ]
    by_cases hi : i = n
    · subst hi; omega
    · have := ih (by omega); omega
/-- two sums that differ in one place -/
theorem sm_one {n i : Nat} {f g : Nat → Nat} (hi : i < n) (h : ∀ k, k < n → k ≠ i → f k = g k) : sm n f + g i = sm n g + f i := by
  induction n with
  | zero => omega
  | succ n ih =>
    rw [sm_succ, sm_succ]
    by_cases hn : i = n
    · subst hn
      have e := sm_congr (n := i) (f := f) (g := g) (fun k hk => h k (by omega) (by omega))
      omega
    · have e1 := ih (by omega) (fun k hk hki => h k (by omega) hki)
      have e2 := h n (by omega) (fun e => hn e.symm)
      omega
theorem sm_zero {n : Nat} {f : Nat → Nat} (h : ∀ i, i < n → f i = 0) : sm n f = 0 := by
  rw [sm_congr h, sm_const, Nat.mul_zero]
/-! what is led to has a count -/
section LED
variable {w u : Nat → Nat}
theorem T_ct : 1 ≤ T w (w 4) := by
  unfold T
  have := iv_self (w 4)
  omega
theorem T_act : 1 ≤ T w (w 3) := by
  unfold T tc
  have := iv_self (w 3)
  omega
theorem T_list (h : w 6 ≠ 0) : 1 ≤ T w (w 6) := by
  unfold T
  rw [if_neg h]
  have := iv_self (w 6)
  omega
theorem T_keep {k : Nat} (hk : k < 8) (h : w (8 * w 4 + k) ≠ 0) : 1 ≤ T w (w (8 * w 4 + k)) := by
  have h1 := sm_ge (n := 8) (f := fun k2 => if w (8 * w 4 + k2) = 0 then 0 else iv (w (8 * w 4 + k2)) (w (8 * w 4 + k))) hk
  simp only [if_neg h, iv_self] at h1
  unfold T kc
  omega
theorem T_tc {t X : Nat} (ht : TB w t) : tc w X t ≤ T w X := by
  unfold T
  rcases ht with rfl | ⟨j, hj, rfl⟩
  · omega
  · have := sm_ge (f := fun j => tc w X (tab w j)) hj
    omega
theorem T_tab {t : Nat} (ht : TB w t) : 1 ≤ T w t := by
  have h1 := T_tc (X := t) ht
  unfold tc at h1
  have := iv_self t
  omega
theorem tc_lc {t i X : Nat} (hi : i < 8) : lc w X (w (8 * t + i)) ≤ tc w X t := by
  unfold tc
  have := sm_ge (f := fun i => lc w X (w (8 * t + i))) hi
  omega
theorem T_leaf {t i : Nat} (ht : TB w t) (hi : i < 8) (h : w (8 * t + i) / 4 ≠ 0) : 1 ≤ T w (w (8 * t + i) / 4) := by
  have h1 := T_tc (X := w (8 * t + i) / 4) ht
  have h2 := tc_lc (w := w) (t := t) (X := w (8 * t + i) / 4) hi
  have h3 : 1 ≤ lc w (w (8 * t + i) / 4) (w (8 * t + i)) := by
    unfold lc
    rw [if_neg h, iv_self]
    omega
  omega
theorem T_blk {t i j : Nat} (ht : TB w t) (hi : i < 8) (hj : j < 8) (h : w (8 * t + i) / 4 ≠ 0) (h2 : w (8 * (w (8 * t + i) / 4) + j) / 4 ≠ 0) : 1 ≤ T w (w (8 * (w (8 * t + i) / 4) + j) / 4) := by
  have h1 := T_tc (X := w (8 * (w (8 * t + i) / 4) + j) / 4) ht
  have h3 := tc_lc (w := w) (t := t) (X := w (8 * (w (8 * t + i) / 4) + j) / 4) hi
  have h4 : 1 ≤ lc w (w (8 * (w (8 * t + i) / 4) + j) / 4) (w (8 * t + i)) := by
    unfold lc
    rw [if_neg h]
    have h5 := sm_ge (n := 8) (f := fun j2 => bc (w (8 * (w (8 * t + i) / 4) + j) / 4) (w (8 * (w (8 * t + i) / 4) + j2))) hj
    have h6 : bc (w (8 * (w (8 * t + i) / 4) + j) / 4) (w (8 * (w (8 * t + i) / 4) + j)) = 1 := by
      unfold bc
      rw [if_neg h2, iv_self]
    simp only [h6] at h5
    omega
  omega
end LED
/-! counts that stay -/
theorem lc_congr {w v : Nat → Nat} {X x : Nat} (h : x / 4 ≠ 0 → ∀ j, j < 8 → v (8 * (x / 4) + j) / 4 = w (8 * (x / 4) + j) / 4) : lc v X x = lc w X x := by
  unfold lc
  split
  · rfl
  · next hx =>
    congr 1
    refine sm_congr fun j hj => ?_
    unfold bc
    rw [h hx j hj]
theorem lc_div {w : Nat → Nat} {X x y : Nat} (h : x / 4 = y / 4) : lc w X x = lc w X y := by
  unfold lc
  rw [h]
theorem tc_congr {w v : Nat → Nat} {X t : Nat} (h1 : ∀ i, i < 8 → v (8 * t + i) / 4 = w (8 * t + i) / 4) (h2 : ∀ i, i < 8 → w (8 * t + i) / 4 ≠ 0 → ∀ j, j < 8 → v (8 * (w (8 * t + i) / 4) + j) / 4 = w (8 * (w (8 * t + i) / 4) + j) / 4) : tc v X t = tc w X t := by
  unfold tc
  congr 1
  refine sm_congr fun i hi => ?_
  rw [lc_div (h1 i hi)]
  exact lc_congr (h2 i hi)
/-! leads -/
theorem LD.pos {x : Nat} (h : LD x) : 1 ≤ x / 4 ∧ x / 4 < 64 := by
  obtain ⟨h1, h2, h3⟩ := h
  omega
theorem LOK.lead {w u : Nat → Nat} {i x : Nat} (h : LOK w u i x) (hx : x / 4 ≠ 0) : LD x ∧ 8 * i < w 2 ∧ u (x / 4) = 8 + i ∧ ∀ j, j < 8 → BOK (w 2) u i j (w (8 * (x / 4) + j)) := by
  rcases h with rfl | h
  · exact absurd rfl hx
  · exact h
theorem LOK.zero {w u : Nat → Nat} {i x : Nat} (h : LOK w u i x) (hx : x / 4 = 0) : x = 0 := by
  rcases h with rfl | ⟨⟨h1, h2, h3⟩, -⟩
  · rfl
  · omega
theorem BOK.lead {sz : Nat} {u : Nat → Nat} {i j y : Nat} (h : BOK sz u i j y) (hy : y / 4 ≠ 0) : LD y ∧ 8 * i + j < sz ∧ u (y / 4) = 24 + (8 * i + j) := by
  rcases h with rfl | ⟨h1, rfl | h2⟩
  · exact absurd rfl hy
  · exact absurd rfl hy
  · exact ⟨h2.1, h1, h2.2⟩
theorem BOK.flat {sz : Nat} {u : Nat → Nat} {i j y : Nat} (h : BOK sz u i j y) (hy : y / 4 = 0) : y = 0 ∨ y = 2 := by
  rcases h with rfl | ⟨h1, rfl | ⟨⟨h2, h3, h4⟩, -⟩⟩
  · exact Or.inl rfl
  · exact Or.inr rfl
  · omega
/-- a word that is a lead, as the program asks it -/
theorem LOK.isLead {w u : Nat → Nat} {i x : Nat} (h : LOK w u i x) : 2 < x ↔ x / 4 ≠ 0 := by
  rcases h with rfl | ⟨⟨h1, h2, h3⟩, -⟩
  · simp
  · omega
theorem BOK.isLead {sz : Nat} {u : Nat → Nat} {i j y : Nat} (h : BOK sz u i j y) : 2 < y ↔ y / 4 ≠ 0 := by
  rcases h with rfl | ⟨h1, rfl | ⟨⟨h2, h3, h4⟩, -⟩⟩
  · simp
  · simp
  · omega
theorem BOK.lt {sz : Nat} {u : Nat → Nat} {i j y : Nat} (h : BOK sz u i j y) : y < 256 := by
  rcases h with rfl | ⟨h1, rfl | ⟨⟨h2, h3, h4⟩, -⟩⟩ <;> omega
theorem LOK.lt {w u : Nat → Nat} {i x : Nat} (h : LOK w u i x) : x < 256 := by
  rcases h with rfl | ⟨⟨h1, h2, h3⟩, -⟩ <;> omega
section STR
variable {w u : Nat → Nat}
theorem Str.sz (h : Str w u) : 1 ≤ w 2 ∧ w 2 ≤ 64 := h.1
theorem Str.act (h : Str w u) : 1 ≤ w 3 ∧ w 3 < 64 ∧ u (w 3) = 1 := h.2.1
theorem Str.ct (h : Str w u) : 1 ≤ w 4 ∧ w 4 < 64 ∧ u (w 4) = 2 := h.2.2.1
theorem Str.ns (h : Str w u) : w 5 ≤ 4 ∧ (w 5 ≠ 0 → w 6 ≠ 0) := h.2.2.2.1
theorem Str.list (h : Str w u) (h6 : w 6 ≠ 0) : w 6 < 64 ∧ u (w 6) = 3 := h.2.2.2.2.1 h6
theorem Str.keep (h : Str w u) {k : Nat} (hk : k < 8) (h0 : w (8 * w 4 + k) ≠ 0) : w (8 * w 4 + k) < 64 ∧ u (w (8 * w 4 + k)) = 16 + k := h.2.2.2.2.2.1 k hk h0
theorem Str.tab (h : Str w u) {j : Nat} (hj : j < w 5) : 1 ≤ tab w j ∧ tab w j < 64 ∧ u (tab w j) = 4 + j := h.2.2.2.2.2.2.1 j hj
theorem Str.tw (h : Str w u) {t i : Nat} (ht : TB w t) (hi : i < 8) : LOK w u i (w (8 * t + i)) := h.2.2.2.2.2.2.2 t ht i hi
theorem Str.keepLt (h : Str w u) {k : Nat} (hk : k < 8) : w (8 * w 4 + k) < 64 := by
  by_cases h0 : w (8 * w 4 + k) = 0
  · omega
  · exact (h.keep hk h0).1
theorem Str.tb (h : Str w u) {t : Nat} (ht : TB w t) : 1 ≤ t ∧ t < 64 ∧ (u t = 1 ∨ (4 ≤ u t ∧ u t < 8)) := by
  rcases ht with rfl | ⟨j, hj, rfl⟩
  · have := h.act; exact ⟨this.1, this.2.1, Or.inl this.2.2⟩
  · have h1 := h.tab hj
    have h2 := h.ns
    exact ⟨h1.1, h1.2.1, Or.inr (by omega)⟩
theorem Str.bw (h : Str w u) {t i j : Nat} (ht : TB w t) (hi : i < 8) (hj : j < 8) (hx : w (8 * t + i) / 4 ≠ 0) : BOK (w 2) u i j (w (8 * (w (8 * t + i) / 4) + j)) := ((h.tw ht hi).lead hx).2.2.2 j hj
end STR
theorem Inv.cg {w u : Nat → Nat} (h : Inv w u) : CG w := ⟨h.1.ct.2.1, fun k hk => h.1.keepLt hk, fun c hc => by rw [h.2.1 c hc]; have := T_le h.1.ns.1 c; omega⟩
end
section
/-! ===== Image: what is read ===== -/
/-- the word for a block as a table has it; 0 where there is no leaf -/
def bwd (w : Nat → Nat) (t b : Nat) : Nat := if w (8 * t + b / 8) / 4 = 0 then 0 else w (8 * (w (8 * t + b / 8) / 4) + b % 8)
def awd (w : Nat → Nat) (b : Nat) : Nat := bwd w (w 3) b
/-- whether a word leads to a cluster that is led to once -/
def ow (w : Nat → Nat) (x : Nat) : Bool := decide (x / 4 ≠ 0 ∧ T w (x / 4) = 1)
def nLeaf (w : Nat → Nat) (b : Nat) : Nat := if ow w (w (8 * w 3 + b / 8)) = true then 0 else 1
def nClus (w : Nat → Nat) (b : Nat) : Nat := if ow w (awd w b) = true then 0 else 1
/-- what a word for a block shows, with the images below -/
def sh (W : Nat → Nat → Nat) : Nat → Nat → Nat → Nat
  | 0, y, a => if y / 4 = 0 then 0 else W 0 (8 * (y / 4) + a % 8)
  | k + 1, y, a => if y / 4 = 0 then (if y = 0 then sh W k (awd (W k) (a / 8)) a else 0) else W (k + 1) (8 * (y / 4) + a % 8)
theorem Str.bok {w u : Nat → Nat} (h : Str w u) {t b : Nat} (ht : TB w t) (hb : b < 64) : BOK (w 2) u (b / 8) (b % 8) (bwd w t b) := by
  unfold bwd
  split
  · exact Or.inl rfl
  · next hx => exact h.bw ht (by omega) (by omega) hx
theorem bw_lead {w : Nat → Nat} {t b : Nat} (h : bwd w t b / 4 ≠ 0) : w (8 * t + b / 8) / 4 ≠ 0 := by
  intro e
  unfold bwd at h
  rw [if_pos e] at h
  exact h rfl
theorem T_bw {w : Nat → Nat} {t b : Nat} (ht : TB w t) (hb : b < 64) (h : bwd w t b / 4 ≠ 0) : 1 ≤ T w (bwd w t b / 4) := by
  have hx := bw_lead h
  unfold bwd at h ⊢
  rw [if_neg hx] at h ⊢
  exact T_blk ht (by omega) (by omega) hx h
theorem act_tb {w : Nat → Nat} : TB w (w 3) := Or.inl rfl
theorem tab_tb {w : Nat → Nat} {j : Nat} (h : j < w 5) : TB w (tab w j) := Or.inr ⟨j, h, rfl⟩
section IM
variable {d k : Nat} {h : xH} {w u : Nat → Nat}
theorem c_isLead {x : Nat} (hx : x < 2147483648) : Cl d MX3_isLead [vI (nI x)] h (some (vI (nI (if 2 < x then 1 else 0)))) h := by
  refine rnN 2 rfl ?_
  refine rnB rfl (fun hc => ?_) (fun hc => ?_)
  · have hc : 2 < x := (nlt (by decide) hx).mp hc
    refine rnN 2 rfl ?_
    rw [if_pos hc]
    exact rnR rfl
  · have hc : ¬ 2 < x := fun e => hc ((nlt (by decide) hx).mpr e)
    refine rnN 1 rfl ?_
    rw [if_neg hc]
    exact rnR rfl
theorem c_clusterOf {x : Nat} (hx : x < 2147483648) : Cl d MX3_clusterOf [vI (nI x)] h (some (vI (nI (x / 4)))) h := by
  refine rnN 3 rfl ?_
  simp (disch := omega) only [nI_add, pk_mul, pk_sub, nd8, nd4, nsub8, nand63, nand7, nshr2, nI_clamp, E_at, hup_at, hup_hup]
  exact rnR rfl
theorem c_leadTo {c a : Nat} (ha : a ≤ 1) : Cl d MX3_leadTo [vI (nI c), vI (nI a)] h (some (vI (nI (4 * c + a)))) h := by
  rcases (show a = 0 ∨ a = 1 by omega) with rfl | rfl
  · refine rnN 7 rfl ?_
    simp (disch := omega) only [nI_add, pk_mul, pk_sub, nd8, nd4, nsub8, nand63, nand7, nshr2, nI_clamp, E_at, hup_at, hup_hup]
    exact rnR rfl
  · refine rnN 8 rfl ?_
    simp (disch := omega) only [nI_add, pk_mul, pk_sub, nd8, nd4, nsub8, nand63, nand7, nshr2, nI_clamp, E_at, hup_at, hup_hup]
    exact rnR rfl
theorem c_blocks (hw : h (10, k) = E w) : Cl (d + 1) MX1_blocks [vR (1, k)] h (some (vI (nI (w 2)))) h := by
  refine rnN 4 rfl ?_
  refine rnK rfl (c_hd hw (show 2 < 8 by decide)) ?_
  exact rnR rfl
theorem c_hasBlockT {b : Nat} (hw : h (10, k) = E w) (h2 : w 2 ≤ 64) (hb : b < w 2) : Cl (d + 2) MX1_hasBlock [vR (1, k), vI (nI b)] h (some (vI (nI 1))) h := by
  refine rnN 1 rfl ?_
  refine rnF (nlt0 (show b < 2147483648 by omega)) rfl ?_
  refine rnN 2 rfl ?_
  refine rnK rfl (c_blocks hw) ?_
  refine rnT (nI_lt hb (by omega)) rfl ?_
  refine rnN 2 rfl ?_
  exact rnR rfl
theorem c_hasBlockF {v : Int32} (hw : h (10, k) = E w) (hb : v < 0 ∨ nI (w 2) ≤ v) : Cl (d + 2) MX1_hasBlock [vR (1, k), vI v] h (some (vI (nI 0))) h := by
  refine rnN 1 rfl ?_
  by_cases h0 : v < 0
  · refine rnT (h0) rfl ?_
    refine rnN 1 rfl ?_
    exact rnR rfl
  · refine rnF (h0) rfl ?_
    refine rnN 2 rfl ?_
    refine rnK rfl (c_blocks hw) ?_
    refine rnF (Int32.not_lt.mpr (hb.resolve_left h0)) rfl ?_
    refine rnN 1 rfl ?_
    exact rnR rfl
theorem c_hasAddrT {a : Nat} (hw : h (10, k) = E w) (h2 : w 2 ≤ 64) (hb : a < 8 * w 2) : Cl (d + 2) MX1_hasAddress [vR (1, k), vI (nI a)] h (some (vI (nI 1))) h := by
  refine rnN 1 rfl ?_
  refine rnF (nlt0 (show a < 2147483648 by omega)) rfl ?_
  refine rnN 3 rfl ?_
  refine rnK rfl (c_blocks hw) ?_
  refine rnN 1 rfl ?_
  simp (disch := omega) only [nI_add, pk_mul, pk_sub, nd8, nd4, nsub8, nand63, nand7, nshr2, nI_clamp, E_at, hup_at, hup_hup]
  refine rnT (nI_lt hb (by omega)) rfl ?_
  refine rnN 2 rfl ?_
  exact rnR rfl
theorem c_hasAddrF {v : Int32} (hw : h (10, k) = E w) (hb : v < 0 ∨ nI (8 * w 2) ≤ v) : Cl (d + 2) MX1_hasAddress [vR (1, k), vI v] h (some (vI (nI 0))) h := by
  refine rnN 1 rfl ?_
  by_cases h0 : v < 0
  · refine rnT (h0) rfl ?_
    refine rnN 1 rfl ?_
    exact rnR rfl
  · refine rnF (h0) rfl ?_
    refine rnN 3 rfl ?_
    refine rnK rfl (c_blocks hw) ?_
    refine rnN 1 rfl ?_
    simp (disch := omega) only [nI_add, pk_mul, pk_sub, nd8, nd4, nsub8, nand63, nand7, nshr2, nI_clamp, E_at, hup_at, hup_hup]
    refine rnF (Int32.not_lt.mpr (hb.resolve_left h0)) rfl ?_
    refine rnN 1 rfl ?_
    exact rnR rfl
theorem c_activeTable (hw : h (10, k) = E w) : Cl (d + 1) MX1_activeTable [vR (1, k)] h (some (vI (nI (w 3)))) h := by
  refine rnN 4 rfl ?_
  refine rnK rfl (c_hd hw (show 3 < 8 by decide)) ?_
  exact rnR rfl
theorem c_leafLead {b : Nat} (hw : h (10, k) = E w) (h3 : w 3 < 64) (hb : b < 64) : Cl (d + 2) MX1_leafLead [vR (1, k), vI (nI b)] h (some (vI (nI (w (8 * w 3 + b / 8))))) h := by
  refine rnN 3 rfl ?_
  refine rnK rfl (c_activeTable hw) ?_
  refine rnN 3 rfl ?_
  simp (disch := omega) only [nI_add, pk_mul, pk_sub, nd8, nd4, nsub8, nand63, nand7, nshr2, nI_clamp, E_at, hup_at, hup_hup]
  refine rnK rfl (c_at hw h3 (show b / 8 < 8 by omega)) ?_
  exact rnR rfl
theorem c_blockWord {t b : Nat} (hw : h (10, k) = E w) (hi : Str w u) (ht : TB w t) (hb : b < 64) : Cl (d + 1) MX1_blockWord [vR (1, k), vI (nI t), vI (nI b)] h (some (vI (nI (bwd w t b)))) h := by
  have h1 := hi.tb ht
  have h2 := hi.tw ht (show b / 8 < 8 by omega)
  have h3 := h2.lt
  refine rnN 6 rfl ?_
  simp (disch := omega) only [nI_add, pk_mul, pk_sub, nd8, nd4, nsub8, nand63, nand7, nshr2, nI_clamp, E_at, hup_at, hup_hup]
  refine rnK rfl (c_at hw h1.2.1 (show b / 8 < 8 by omega)) ?_
  refine rnN 2 rfl ?_
  refine rnK rfl (c_isLead (show w (8 * t + b / 8) < 2147483648 by omega)) ?_
  by_cases hx : 2 < w (8 * t + b / 8)
  · rw [if_pos hx]
    have hx4 := h2.isLead.mp hx
    have hl := (h2.lead hx4).1.pos
    refine rnN 4 rfl ?_
    refine rnK rfl (c_clusterOf (show w (8 * t + b / 8) < 2147483648 by omega)) ?_
    refine rnN 3 rfl ?_
    simp (disch := omega) only [nI_add, pk_mul, pk_sub, nd8, nd4, nsub8, nand63, nand7, nshr2, nI_clamp, E_at, hup_at, hup_hup]
    refine rnK rfl (c_at hw hl.2 (show b % 8 < 8 by omega)) ?_
    refine rnN 1 rfl ?_
    unfold bwd
    rw [if_neg hx4]
    exact rnR rfl
  · rw [if_neg hx]
    have hx4 : w (8 * t + b / 8) / 4 = 0 := by
      by_cases e : w (8 * t + b / 8) / 4 = 0
      · exact e
      · exact absurd (h2.isLead.mpr e) hx
    refine rnN 2 rfl ?_
    unfold bwd
    rw [if_pos hx4]
    exact rnR rfl
theorem c_activeWord {b : Nat} (hw : h (10, k) = E w) (hi : Str w u) (hb : b < 64) : Cl (d + 2) MX1_activeWord [vR (1, k), vI (nI b)] h (some (vI (nI (awd w b)))) h := by
  refine rnN 2 rfl ?_
  refine rnK rfl (c_activeTable hw) ?_
  refine rnN 1 rfl ?_
  refine rnK rfl (c_blockWord hw hi act_tb hb) ?_
  exact rnR rfl
theorem c_isOwn {x : Nat} (hw : h (10, k) = E w) (hi : Inv w u) (hx : x < 256) (hl : 2 < x ↔ x / 4 ≠ 0) : Cl (d + 2) MX1_isOwn [vR (1, k), vI (nI x)] h (some (vI (nI (if ow w x = true then 1 else 0)))) h := by
  have hg := hi.cg
  refine rnN 1 rfl ?_
  refine rnK rfl (c_isLead (show x < 2147483648 by omega)) ?_
  by_cases h2 : 2 < x
  · rw [if_pos h2]
    have h4 := hl.mp h2
    refine rnN 4 rfl ?_
    refine rnK rfl (c_clusterOf (show x < 2147483648 by omega)) ?_
    refine rnK rfl (c_count hw (show x / 4 < 64 by omega) hg.1 (hg.2.1 _ (by omega))) ?_
    have hc := hg.2.2 (x / 4) (by omega)
    rw [hi.2.1 (x / 4) (by omega)] at hc ⊢
    refine rnN 1 rfl ?_
    refine rnB rfl (fun h1 => ?_) (fun h1 => ?_)
    · have h1 : T w (x / 4) = 1 := (neq (by omega) (by decide)).mp h1
      have e : ow w x = true := decide_eq_true ⟨h4, h1⟩
      rw [if_pos e]
      refine rnN 2 rfl ?_
      exact rnR rfl
    · have h1 : ¬ T w (x / 4) = 1 := fun e => h1 ((neq (by omega) (by decide)).mpr e)
      have e : ¬ ow w x = true := fun e => h1 (of_decide_eq_true e).2
      rw [if_neg e]
      refine rnN 1 rfl ?_
      exact rnR rfl
  · rw [if_neg h2]
    have e : ¬ ow w x = true := fun e => h2 (hl.mpr (of_decide_eq_true e).1)
    rw [if_neg e]
    refine rnN 2 rfl ?_
    exact rnR rfl
theorem c_leavesFor {b : Nat} (hw : h (10, k) = E w) (hi : Inv w u) (hb : b < 64) : Cl (d + 3) MX1_leavesFor [vR (1, k), vI (nI b)] h (some (vI (nI (nLeaf w b)))) h := by
  have h2 := hi.1.tw act_tb (show b / 8 < 8 by omega)
  refine rnN 3 rfl ?_
  refine rnK rfl (c_leafLead hw hi.1.act.2.1 hb) ?_
  refine rnK rfl (c_isOwn hw hi h2.lt h2.isLead) ?_
  unfold nLeaf
  by_cases hc : ow w (w (8 * w 3 + b / 8)) = true
  · rw [if_pos hc, if_pos hc]
    refine rnN 3 rfl ?_
    exact rnR rfl
  · rw [if_neg hc, if_neg hc]
    refine rnN 2 rfl ?_
    exact rnR rfl
theorem c_clustersFor {b : Nat} (hw : h (10, k) = E w) (hi : Inv w u) (hb : b < 64) : Cl (d + 3) MX1_clustersFor [vR (1, k), vI (nI b)] h (some (vI (nI (nClus w b)))) h := by
  have h2 := hi.1.bok act_tb hb
  refine rnN 3 rfl ?_
  refine rnK rfl (c_activeWord hw hi.1 hb) ?_
  refine rnK rfl (c_isOwn hw hi h2.lt h2.isLead) ?_
  unfold nClus
  by_cases hc : ow w (awd w b) = true
  · rw [if_pos hc, if_pos hc]
    refine rnN 3 rfl ?_
    exact rnR rfl
  · rw [if_neg hc, if_neg hc]
    refine rnN 2 rfl ?_
    exact rnR rfl
/-- whether a discard changes anything -/
def dch (k y : Nat) : Bool := decide (y / 4 ≠ 0 ∨ (y = 0 ∧ k ≠ 0))
theorem c_dropChanges {b : Nat} (hw : h (10, k) = E w) (hi : Str w u) (hb : b < 64) : Cl (d + 3) MX1_dropChanges [vR (1, k), vI (nI b)] h (some (vI (nI (if dch k (awd w b) = true then 1 else 0)))) h := by
  have h2 := hi.bok act_tb hb
  have h3 := h2.lt
  refine rnN 2 rfl ?_
  refine rnK rfl (c_activeWord hw hi hb) ?_
  refine rnN 2 rfl ?_
  refine rnK rfl (c_isLead (show awd w b < 2147483648 by unfold awd; omega)) ?_
  by_cases hx : 2 < awd w b
  · rw [if_pos hx]
    have e : dch k (awd w b) = true := decide_eq_true (Or.inl (h2.isLead.mp hx))
    rw [if_pos e]
    refine rnN 3 rfl ?_
    exact rnR rfl
  · rw [if_neg hx]
    have hx4 : awd w b / 4 = 0 := by
      by_cases e : awd w b / 4 = 0
      · exact e
      · exact absurd (h2.isLead.mpr e) hx
    rcases h2.flat hx4 with hy | hy
    · have hy : awd w b = 0 := hy
      rw [hy]
      cases k with
      | zero =>
        refine rnN 5 rfl ?_
        refine rnN 2 rfl ?_
        exact rnR rfl
      | succ k =>
        refine rnN 5 rfl ?_
        refine rnN 3 rfl ?_
        exact rnR rfl
    · have hy : awd w b = 2 := hy
      rw [hy]
      have e : ¬ dch k 2 = true := fun e => by
        have := of_decide_eq_true e
        omega
      rw [if_neg e]
      refine rnN 3 rfl ?_
      refine rnN 1 rfl ?_
      exact rnR rfl
end IM
end
section
/-! ===== Image: what is shown through the chain; the snapshots' list ===== -/
section IM2
variable {d k : Nat} {h : xH} {w u : Nat → Nat} {W U : Nat → Nat → Nat}
theorem shown_go {k0 t a : Nat} : ∀ (k : Nat), (∀ j, j ≤ k → h (10, j) = E (W j) ∧ Str (W j) (U j)) → ∀ (y : Nat), (∃ i j, BOK (W k 2) (U k) i j y) → a < 512 → Rn (d + 3) MX1_shown 13 [some (vR (1, k0)), some (vI (nI t)), some (vI (nI a)), some (vI (nI y)), some (vR (1, k))] [] h (some (vI (nI (sh W k y a)))) h := by
  intro k
  induction k with
  | zero =>
    intro hh y hy ha
    obtain ⟨i, j, hy⟩ := hy
    have hW := (hh 0 (Nat.le_refl _)).1
    have hlt := hy.lt
    refine rnN 1 rfl ?_
    by_cases h0 : y = 0
    · subst h0
      refine rnN 4 rfl ?_
      refine rnN 1 rfl ?_
      refine rnK rfl (c_isLead (show 0 < 2147483648 by decide)) ?_
      refine rnN 2 rfl ?_
      exact rnR rfl
    · refine rnF (fun e => h0 ((neq0 (by omega)).mp e)) rfl ?_
      refine rnN 1 rfl ?_
      refine rnK rfl (c_isLead (show y < 2147483648 by omega)) ?_
      by_cases h2 : 2 < y
      · have h4 := hy.isLead.mp h2
        have hl := (hy.lead h4).1.pos
        rw [if_pos h2]
        refine rnN 4 rfl ?_
        refine rnK rfl (c_clusterOf (show y < 2147483648 by omega)) ?_
        refine rnN 3 rfl ?_
        simp (disch := omega) only [nI_add, pk_mul, pk_sub, nd8, nd4, nsub8, nand63, nand7, nshr2, nI_clamp, E_at, hup_at, hup_hup]
        refine rnK rfl (c_at hW hl.2 (show a % 8 < 8 by omega)) ?_
        refine rnN 1 rfl ?_
        simp only [sh, if_neg h4]
        exact rnR rfl
      · rw [if_neg h2]
        have h4 : y / 4 = 0 := by omega
        refine rnN 2 rfl ?_
        simp only [sh, if_pos h4]
        exact rnR rfl
  | succ k ih =>
    intro hh y hy ha
    obtain ⟨i, j, hy⟩ := hy
    have hW := (hh (k + 1) (Nat.le_refl _)).1
    have hW1 := hh k (Nat.le_succ k)
    have hlt := hy.lt
    refine rnN 1 rfl ?_
    by_cases h0 : y = 0
    · subst h0
      refine rnN 4 rfl ?_
      refine rnN 7 rfl ?_
      simp (disch := omega) only [nI_add, pk_mul, pk_sub, nd8, nd4, nsub8, nand63, nand7, nshr2, nI_clamp, E_at, hup_at, hup_hup]
      refine rnK rfl (c_activeWord hW1.1 hW1.2 (show a / 8 < 64 by omega)) ?_
      refine rnN 2 rfl ?_
      have h5 := ih (fun j hj => hh j (by omega)) (awd (W k) (a / 8)) ⟨_, _, hW1.2.bok act_tb (show a / 8 < 64 by omega)⟩ ha
      have e : sh W (k + 1) 0 a = sh W k (awd (W k) (a / 8)) a := by simp [sh]
      rw [e]
      exact h5
    · refine rnF (fun e => h0 ((neq0 (by omega)).mp e)) rfl ?_
      refine rnN 1 rfl ?_
      refine rnK rfl (c_isLead (show y < 2147483648 by omega)) ?_
      by_cases h2 : 2 < y
      · have h4 := hy.isLead.mp h2
        have hl := (hy.lead h4).1.pos
        rw [if_pos h2]
        refine rnN 4 rfl ?_
        refine rnK rfl (c_clusterOf (show y < 2147483648 by omega)) ?_
        refine rnN 3 rfl ?_
        simp (disch := omega) only [nI_add, pk_mul, pk_sub, nd8, nd4, nsub8, nand63, nand7, nshr2, nI_clamp, E_at, hup_at, hup_hup]
        refine rnK rfl (c_at hW hl.2 (show a % 8 < 8 by omega)) ?_
        refine rnN 1 rfl ?_
        simp only [sh, if_neg h4]
        exact rnR rfl
      · rw [if_neg h2]
        have h4 : y / 4 = 0 := by omega
        refine rnN 2 rfl ?_
        simp only [sh, if_pos h4, if_neg h0]
        exact rnR rfl
theorem c_shown {t a : Nat} (hh : ∀ j, j ≤ k → h (10, j) = E (W j) ∧ Str (W j) (U j)) (ht : TB (W k) t) (ha : a < 512) : Cl (d + 3) MX1_shown [vR (1, k), vI (nI t), vI (nI a)] h (some (vI (nI (sh W k (bwd (W k) t (a / 8)) a)))) h := by
  have hW := hh k (Nat.le_refl _)
  refine rnN 5 rfl ?_
  simp (disch := omega) only [nI_add, pk_mul, pk_sub, nd8, nd4, nsub8, nand63, nand7, nshr2, nI_clamp, E_at, hup_at, hup_hup]
  refine rnK rfl (c_blockWord hW.1 hW.2 ht (show a / 8 < 64 by omega)) ?_
  refine rnN 3 rfl ?_
  exact shown_go k hh _ ⟨_, _, hW.2.bok ht (show a / 8 < 64 by omega)⟩ ha
theorem c_snapshotCount (hw : h (10, k) = E w) : Cl (d + 1) MX1_snapshotCount [vR (1, k)] h (some (vI (nI (w 5)))) h := by
  refine rnN 4 rfl ?_
  refine rnK rfl (c_hd hw (show 5 < 8 by decide)) ?_
  exact rnR rfl
theorem c_snapshotList (hw : h (10, k) = E w) : Cl (d + 1) MX1_snapshotList [vR (1, k)] h (some (vI (nI (w 6)))) h := by
  refine rnN 4 rfl ?_
  refine rnK rfl (c_hd hw (show 6 < 8 by decide)) ?_
  exact rnR rfl
theorem c_snapshotTable {j : Nat} (hw : h (10, k) = E w) (h6 : w 6 < 64) (hj : j < 4) : Cl (d + 2) MX1_snapshotTable [vR (1, k), vI (nI j)] h (some (vI (nI (tab w j)))) h := by
  refine rnN 3 rfl ?_
  refine rnK rfl (c_snapshotList hw) ?_
  refine rnN 3 rfl ?_
  simp (disch := omega) only [nI_add, pk_mul, pk_sub, nd8, nd4, nsub8, nand63, nand7, nshr2, nI_clamp, E_at, hup_at, hup_hup]
  refine rnK rfl (c_at hw h6 (show 2 * j < 8 by omega)) ?_
  exact rnR rfl
/-- the name's place in the list; as many as there are when it is not there -/
theorem c_namedT {n j : Nat} (hw : h (10, k) = E w) (h6 : w 6 < 64) (h5 : w 5 ≤ 4) (hj : j < w 5) (hb : ∀ p, w p < 4294967296) (hn : n < 4294967296) (he : w (8 * w 6 + (2 * j + 1)) = n) (hl : ∀ i, i < j → w (8 * w 6 + (2 * i + 1)) ≠ n) : Cl (d + 2) MX1_snapshotNamed [vR (1, k), vI (nI n)] h (some (vI (nI j))) h := by
  refine rnN 2 rfl ?_
  refine lpN j (fun i => Rn (d + 2) MX1_snapshotNamed 2 [some (vR (1, k)), some (vI (nI n)), some (vI (nI i))] [] h (some (vI (nI j))) h) (fun i hi K => ?_) ?_
  · refine rnN 2 rfl ?_
    refine rnK rfl (c_snapshotCount hw) ?_
    refine rnT (nI_lt (show i < w 5 by omega) (by omega)) rfl ?_
    refine rnN 3 rfl ?_
    refine rnK rfl (c_snapshotList hw) ?_
    refine rnN 5 rfl ?_
    simp (disch := omega) only [nI_add, pk_mul, pk_sub, nd8, nd4, nsub8, nand63, nand7, nshr2, nI_clamp, E_at, hup_at, hup_hup]
    refine rnK rfl (c_at hw h6 (show 2 * i + 1 < 8 by omega)) ?_
    refine rnN 1 rfl ?_
    refine rnF (fun e => hl i hi (by have h1 := congrArg tn e; rwa [tn_nI (hb _), tn_nI hn] at h1)) rfl ?_
    refine rnN 2 rfl ?_
    simp (disch := omega) only [nI_add, pk_mul, pk_sub, nd8, nd4, nsub8, nand63, nand7, nshr2, nI_clamp, E_at, hup_at, hup_hup]
    exact K
  · refine rnN 2 rfl ?_
    refine rnK rfl (c_snapshotCount hw) ?_
    refine rnT (nI_lt hj (by omega)) rfl ?_
    refine rnN 3 rfl ?_
    refine rnK rfl (c_snapshotList hw) ?_
    refine rnN 5 rfl ?_
    simp (disch := omega) only [nI_add, pk_mul, pk_sub, nd8, nd4, nsub8, nand63, nand7, nshr2, nI_clamp, E_at, hup_at, hup_hup]
    refine rnK rfl (c_at hw h6 (show 2 * j + 1 < 8 by omega)) ?_
    refine rnN 1 rfl ?_
    rw [he]
    refine rnT (rfl) rfl ?_
    refine rnN 1 rfl ?_
    exact rnR rfl
theorem c_namedF {n : Nat} (hw : h (10, k) = E w) (h6 : w 6 < 64) (h5 : w 5 ≤ 4) (hb : ∀ p, w p < 4294967296) (hn : n < 4294967296) (hl : ∀ i, i < w 5 → w (8 * w 6 + (2 * i + 1)) ≠ n) : Cl (d + 2) MX1_snapshotNamed [vR (1, k), vI (nI n)] h (some (vI (-1))) h := by
  refine rnN 2 rfl ?_
  refine lpN (w 5) (fun i => Rn (d + 2) MX1_snapshotNamed 2 [some (vR (1, k)), some (vI (nI n)), some (vI (nI i))] [] h (some (vI (-1))) h) (fun i hi K => ?_) ?_
  · refine rnN 2 rfl ?_
    refine rnK rfl (c_snapshotCount hw) ?_
    refine rnT (nI_lt (show i < w 5 by omega) (by omega)) rfl ?_
    refine rnN 3 rfl ?_
    refine rnK rfl (c_snapshotList hw) ?_
    refine rnN 5 rfl ?_
    simp (disch := omega) only [nI_add, pk_mul, pk_sub, nd8, nd4, nsub8, nand63, nand7, nshr2, nI_clamp, E_at, hup_at, hup_hup]
    refine rnK rfl (c_at hw h6 (show 2 * i + 1 < 8 by omega)) ?_
    refine rnN 1 rfl ?_
    refine rnF (fun e => hl i hi (by have h1 := congrArg tn e; rwa [tn_nI (hb _), tn_nI hn] at h1)) rfl ?_
    refine rnN 2 rfl ?_
    simp (disch := omega) only [nI_add, pk_mul, pk_sub, nd8, nd4, nsub8, nand63, nand7, nshr2, nI_clamp, E_at, hup_at, hup_hup]
    exact K
  · refine rnN 2 rfl ?_
    refine rnK rfl (c_snapshotCount hw) ?_
    refine rnF (nI_nlt (Nat.le_refl _) (by omega)) rfl ?_
    refine rnN 1 rfl ?_
    exact rnR rfl
end IM2
end
section
/-! ===== the marks told anew ===== -/
def fS (S : Nat → Bool) (w : Nat → Nat) : Nat → Nat := fun p => if S (p / 8) = true then mk w (w p) else w p
def tlB (u : Nat → Nat) : Nat → Bool := fun c => decide (1 ≤ c ∧ c < 64 ∧ (u c = 1 ∨ (4 ≤ u c ∧ u c < 16)))
/-- all marks as they are to be -/
def flg (w u : Nat → Nat) : Nat → Nat := fS (tlB u) w
def SOK (u : Nat → Nat) (S : Nat → Bool) : Prop := ∀ c, S c = true → 1 ≤ c ∧ c < 64 ∧ (u c = 1 ∨ (4 ≤ u c ∧ u c < 16))
def Sin (S : Nat → Bool) (c : Nat) : Nat → Bool := fun x => S x || Nat.beq x c
def Sbel (w : Nat → Nat) (S : Nat → Bool) (t : Nat) : Nat → Nat → Bool
  | 0 => Sin S t
  | i + 1 => if w (8 * t + i) / 4 = 0 then Sbel w S t i else Sin (Sbel w S t i) (w (8 * t + i) / 4)
def Sall (w : Nat → Nat) : Nat → Nat → Bool
  | 0 => Sbel w (fun _ => false) (w 3) 8
  | j + 1 => Sbel w (Sall w j) (tab w j) 8
theorem Sin_iff {S : Nat → Bool} {c x : Nat} : Sin S c x = true ↔ S x = true ∨ x = c := by
  simp [Sin, Nat.beq_eq]
theorem mk_div (w : Nat → Nat) (x : Nat) : mk w x / 4 = x / 4 := by
  unfold mk
  split
  · rfl
  · split <;> omega
theorem mk_mk (w : Nat → Nat) (x : Nat) : mk w (mk w x) = mk w x := by
  have h := mk_div w x
  by_cases hx : x / 4 = 0
  · have e : mk w x = x := if_pos hx
    rw [e, e]
  · have e1 : mk w x = 4 * (x / 4) + (if T w (x / 4) = 1 then 1 else 0) := if_neg hx
    have e2 : mk w (mk w x) = 4 * (mk w x / 4) + (if T w (mk w x / 4) = 1 then 1 else 0) := if_neg (by rw [h]; exact hx)
    rw [e2, h, e1]
theorem mk_flat {w : Nat → Nat} {x : Nat} (h : x / 4 = 0) : mk w x = x := if_pos h
theorem mk_lead {w : Nat → Nat} {x : Nat} (h : x / 4 ≠ 0) : mk w x = 4 * (x / 4) + (if T w (x / 4) = 1 then 1 else 0) := if_neg h
theorem cnt_congr {w v : Nat → Nat} {X : Nat} (hX : X < 64) (h4 : v 4 = w 4) (hk : ∀ k, k < 8 → v (8 * w 4 + k) = w (8 * w 4 + k)) (hq : ∀ k, k < 8 → w (8 * w 4 + k) ≠ 0 → ∀ j, j < 8 → v (8 * w (8 * w 4 + k) + j) = w (8 * w (8 * w 4 + k) + j)) : cnt v X = cnt w X := by
  unfold cnt
  rw [h4, hk (X / 8) (by omega)]
  split
  · rfl
  · next h0 => exact hq (X / 8) (by omega) h0 (X % 8) (by omega)
/-- what has a count is led to -/
theorem T_role {w : Nat → Nat} {X : Nat} (h : T w X ≠ 0) : X = 0 ∨ X = w 4 ∨ (∃ k, k < 8 ∧ w (8 * w 4 + k) ≠ 0 ∧ X = w (8 * w 4 + k)) ∨ (w 6 ≠ 0 ∧ X = w 6) ∨ TB w X ∨ (∃ t i, TB w t ∧ i < 8 ∧ w (8 * t + i) / 4 ≠ 0 ∧ X = w (8 * t + i) / 4)
    ∨ ∃ t i j, TB w t ∧ i < 8 ∧ j < 8 ∧ w (8 * t + i) / 4 ≠ 0 ∧ w (8 * (w (8 * t + i) / 4) + j) / 4 ≠ 0 ∧ X = w (8 * (w (8 * t + i) / 4) + j) / 4 := by
  have hsm : ∀ {n : Nat} {f : Nat → Nat}, sm n f ≠ 0 → ∃ i, i < n ∧ f i ≠ 0 := by
    intro n f hf
    refine Classical.byContradiction fun hn => hf (sm_zero fun i hi => ?_)
    exact Classical.byContradiction fun h0 => hn ⟨i, hi, h0⟩
  have htc : ∀ {t : Nat}, TB w t → tc w X t ≠ 0 → TB w X ∨ (∃ t i, TB w t ∧ i < 8 ∧ w (8 * t + i) / 4 ≠ 0 ∧ X = w (8 * t + i) / 4) ∨ ∃ t i j, TB w t ∧ i < 8 ∧ j < 8 ∧ w (8 * t + i) / 4 ≠ 0 ∧ w (8 * (w (8 * t + i) / 4) + j) / 4 ≠ 0 ∧ X = w (8 * (w (8 * t + i) / 4) + j) / 4 := by
    intro t ht h1
    unfold tc at h1
    by_cases h2 : iv t X = 0
    · obtain ⟨i, hi, h3⟩ := hsm (n := 8) (f := fun i => lc w X (w (8 * t + i))) (by omega)
      simp only [lc] at h3
      split at h3
      · exact absurd rfl h3
      · next h4 =>
        by_cases h5 : iv (w (8 * t + i) / 4) X = 0
        · obtain ⟨j, hj, h6⟩ := hsm (n := 8) (f := fun j => bc X (w (8 * (w (8 * t + i) / 4) + j))) (by omega)
          simp only [bc] at h6
          split at h6
          · exact absurd rfl h6
          · next h7 => exact Or.inr (Or.inr ⟨t, i, j, ht, hi, hj, h4, h7, (iv_pos h6).symm⟩)
        · exact Or.inr (Or.inl ⟨t, i, ht, hi, h4, (iv_pos h5).symm⟩)
    · have e := iv_pos h2
      subst e
      exact Or.inl ht
  unfold T at h
  by_cases h1 : iv X 0 = 0
  · by_cases h2 : iv (w 4) X = 0
    · by_cases h3 : kc w X = 0
      · by_cases h4 : (if w 6 = 0 then 0 else iv (w 6) X) = 0
        · by_cases h5 : tc w X (w 3) = 0
          · obtain ⟨j, hj, h6⟩ := hsm (n := w 5) (f := fun j => tc w X (tab w j)) (by omega)
            exact Or.inr (Or.inr (Or.inr (Or.inr (htc (tab_tb hj) h6))))
          · exact Or.inr (Or.inr (Or.inr (Or.inr (htc act_tb h5))))
        · split at h4
          · exact absurd rfl h4
          · next h6 => exact Or.inr (Or.inr (Or.inr (Or.inl ⟨h6, (iv_pos h4).symm⟩)))
      · obtain ⟨k, hk, h4⟩ := hsm h3
        split at h4
        · exact absurd rfl h4
        · next h5 => exact Or.inr (Or.inr (Or.inl ⟨k, hk, h5, (iv_pos h4).symm⟩))
    · exact Or.inr (Or.inl (iv_pos h2).symm)
  · exact Or.inl (iv_pos h1)
/-- a cluster of tables or leaves that has a count is a table or a leaf -/
theorem TL_role {w u : Nat → Nat} (hs : Str w u) {X : Nat} (h1 : 1 ≤ X) (hu : u X = 1 ∨ (4 ≤ u X ∧ u X < 16)) (h : T w X ≠ 0) : TB w X ∨ ∃ t i, TB w t ∧ i < 8 ∧ w (8 * t + i) / 4 ≠ 0 ∧ X = w (8 * t + i) / 4 := by
  rcases T_role h with rfl | rfl | ⟨k, hk, h0, rfl⟩ | ⟨h0, rfl⟩ | h | ⟨t, i, ht, hi, h0, rfl⟩ | ⟨t, i, j, ht, hi, hj, h0, h2, rfl⟩
  · omega
  · have := hs.ct; omega
  · have := hs.keep hk h0; omega
  · have := hs.list h0; omega
  · exact Or.inl h
  · exact Or.inr ⟨t, i, ht, hi, h0, rfl⟩
  · have h3 := (hs.bw ht hi hj h0).lead h2
    omega
section FL
variable {d k : Nat} {h : xH} {w u : Nat → Nat} {S : Nat → Bool}
theorem fS_out (hS : SOK u S) {p : Nat} (h1 : p / 8 = 0 ∨ u (p / 8) = 2 ∨ u (p / 8) = 3 ∨ 16 ≤ u (p / 8)) : fS S w p = w p := by
  unfold fS
  rw [if_neg]
  intro e
  have := hS _ e
  omega
theorem fS_div (p : Nat) : fS S w p / 4 = w p / 4 ∨ S (p / 8) = false := by
  unfold fS
  by_cases e : S (p / 8) = true
  · rw [if_pos e]; exact Or.inl (mk_div _ _)
  · exact Or.inr (by simpa using e)
theorem fS_div' (p : Nat) : fS S w p / 4 = w p / 4 := by
  rcases fS_div (S := S) (w := w) p with e | e
  · exact e
  · unfold fS; rw [if_neg (by rw [e]; decide)]
theorem fS_cnt (hs : Str w u) (hS : SOK u S) {X : Nat} (hX : X < 64) : cnt (fS S w) X = cnt w X := by
  refine cnt_congr hX (fS_out hS (Or.inl rfl)) (fun k hk => fS_out hS (Or.inr (Or.inl ?_))) (fun k hk h0 j hj => fS_out hS (Or.inr (Or.inr (Or.inr ?_))))
  · rw [ix_div hk]; exact hs.ct.2.2
  · rw [ix_div hj, (hs.keep hk h0).2]; omega
theorem SOK.add (hS : SOK u S) {c : Nat} (h1 : 1 ≤ c) (h2 : c < 64) (h3 : u c = 1 ∨ (4 ≤ u c ∧ u c < 16)) : SOK u (Sin S c) := by
  intro x hx
  rcases Sin_iff.mp hx with h | rfl
  · exact hS x h
  · exact ⟨h1, h2, h3⟩
theorem c_tellFlagsIn {c : Nat} (hw : h (10, k) = E (fS S w)) (hi : Inv w u) (hS : SOK u S) (h1 : 1 ≤ c) (h2 : c < 64) (h3 : u c = 1 ∨ (4 ≤ u c ∧ u c < 16)) (hc : ∀ j, j < 8 → w (8 * c + j) < 256 ∧ (2 < w (8 * c + j) ↔ w (8 * c + j) / 4 ≠ 0)) : Cl (d + 2) MX1_tellFlagsIn [vR (1, k), vI (nI c)] h none (hup h (10, k) (E (fS (Sin S c) w))) := by
  have hg := hi.cg
  have step : ∀ i, i < 8 → (fun p => if S (p / 8) = true ∨ (p / 8 = c ∧ p % 8 < i + 1) then mk w (w p) else w p) = up (fun p => if S (p / 8) = true ∨ (p / 8 = c ∧ p % 8 < i) then mk w (w p) else w p) (8 * c + i) (mk w (w (8 * c + i))) := by
    intro i hi
    funext p
    simp only [up]
    by_cases hp : p = 8 * c + i
    · subst hp
      rw [if_pos (Or.inr (by omega)), if_pos rfl]
    · rw [if_neg hp]
      by_cases hq : S (p / 8) = true
      · rw [if_pos (Or.inl hq), if_pos (Or.inl hq)]
      · by_cases h4 : p / 8 = c ∧ p % 8 < i
        · rw [if_pos (Or.inr (by omega)), if_pos (Or.inr h4)]
        · rw [if_neg (by intro z; rcases z with z | z; exact hq z; omega), if_neg (by intro z; rcases z with z | z; exact hq z; exact h4 z)]
  refine rnN 2 rfl ?_
  refine rnH (hE0 (v := fun p => if S (p / 8) = true ∨ (p / 8 = c ∧ p % 8 < 0) then mk w (w p) else w p) hw (by
    funext p
    unfold fS
    by_cases hq : S (p / 8) = true
    · rw [if_pos hq, if_pos (Or.inl hq)]
    · rw [if_neg hq, if_neg (by intro z; rcases z with z | z; exact hq z; omega)])) ?_
  have fin : (fun p => if S (p / 8) = true ∨ (p / 8 = c ∧ p % 8 < 8) then mk w (w p) else w p) = fS (Sin S c) w := by
    funext p
    unfold fS
    by_cases hq : Sin S c (p / 8) = true
    · rw [if_pos hq]
      rcases Sin_iff.mp hq with z | z
      · rw [if_pos (Or.inl z)]
      · rw [if_pos (Or.inr (by omega))]
    · rw [if_neg hq, if_neg (fun z => hq (Sin_iff.mpr (z.imp id (fun y => y.1))))]
  have go := lpN 8 (fun i => ∀ o3 o4 : Option xV, Rn (d + 2) MX1_tellFlagsIn 2 [some (vR (1, k)), some (vI (nI c)), some (vI (nI i)), o3, o4] [] (hup h (10, k) (E fun p => if S (p / 8) = true ∨ (p / 8 = c ∧ p % 8 < i) then mk w (w p) else w p)) none (hup h (10, k) (E (fS (Sin S c) w)))) (fun i hlt K => ?_) ?_
  · exact go none none
  · intro o3 o4
    obtain ⟨hx1, hx2⟩ := hc i hlt
    have hK : ∀ o3 o4 : Option xV, Rn (d + 2) MX1_tellFlagsIn 2 [some (vR (1, k)), some (vI (nI c)), some (vI (nI (i + 1))), o3, o4] [] (hup h (10, k) (E (up (fun p => if S (p / 8) = true ∨ (p / 8 = c ∧ p % 8 < i) then mk w (w p) else w p) (8 * c + i) (mk w (w (8 * c + i)))))) none (hup h (10, k) (E (fS (Sin S c) w))) := by
      rw [← step i hlt]
      exact K
    have hcn : ∀ X, X < 64 → cnt (fun p => if S (p / 8) = true ∨ (p / 8 = c ∧ p % 8 < i) then mk w (w p) else w p) X = cnt w X := by
      intro X hX
      have out : ∀ p, (p / 8 = 0 ∨ u (p / 8) = 2 ∨ 16 ≤ u (p / 8)) → (if S (p / 8) = true ∨ (p / 8 = c ∧ p % 8 < i) then mk w (w p) else w p) = w p := by
        intro p hp
        rw [if_neg]
        rintro (z | z)
        · have := hS _ z; omega
        · rw [z.1] at hp; omega
      refine cnt_congr hX (out 4 (Or.inl rfl)) (fun k hk => out _ (Or.inr (Or.inl ?_))) (fun k hk h0 j hj => out _ (Or.inr (Or.inr ?_)))
      · rw [ix_div hk]; exact hi.1.ct.2.2
      · rw [ix_div hj, (hi.1.keep hk h0).2]; omega
    have hq4 : (if S ((4 : Nat) / 8) = true ∨ ((4 : Nat) / 8 = c ∧ (4 : Nat) % 8 < i) then mk w (w 4) else w 4) = w 4 := by
      rw [if_neg]
      rintro (z | z)
      · have := hS _ z; omega
      · omega
    have hqk : ∀ k2, k2 < 8 → (if S ((8 * w 4 + k2) / 8) = true ∨ ((8 * w 4 + k2) / 8 = c ∧ (8 * w 4 + k2) % 8 < i) then mk w (w (8 * w 4 + k2)) else w (8 * w 4 + k2)) = w (8 * w 4 + k2) := by
      intro k2 hk2
      rw [if_neg]
      have h5 := hi.1.ct.2.2
      rintro (z | z)
      · have := hS _ z; rw [ix_div hk2] at this; omega
      · rw [ix_div hk2] at z; rw [z.1] at h5; omega
    -- the word as it stands now
    obtain ⟨v, hv, hvd, hvl⟩ : ∃ v, (if S ((8 * c + i) / 8) = true ∨ ((8 * c + i) / 8 = c ∧ (8 * c + i) % 8 < i) then mk w (w (8 * c + i)) else w (8 * c + i)) = v ∧ v / 4 = w (8 * c + i) / 4 ∧ (v = w (8 * c + i) ∨ v = mk w (w (8 * c + i))) := by
      by_cases z : S ((8 * c + i) / 8) = true ∨ ((8 * c + i) / 8 = c ∧ (8 * c + i) % 8 < i)
      · exact ⟨_, if_pos z, mk_div _ _, Or.inr rfl⟩
      · exact ⟨_, if_neg z, rfl, Or.inl rfl⟩
    have hv2 : 2 < v ↔ w (8 * c + i) / 4 ≠ 0 := by
      rcases hvl with e | e
      · rw [e]; exact hx2
      · constructor
        · intro z hz
          rw [e, mk_flat hz] at z
          exact hx2.mp z hz
        · intro z; omega
    have hvb : v < 256 := by omega
    refine rnN 2 rfl ?_
    refine rnT (nI_lt hlt (by decide)) rfl ?_
    refine rnN 4 rfl ?_
    refine rnK rfl (c_at hup_at h2 hlt) ?_
    rw [hv]
    refine rnN 2 rfl ?_
    refine rnK rfl (c_isLead (show v < 2147483648 by omega)) ?_
    by_cases hl : 2 < v
    · have h4 := hv2.mp hl
      rw [if_pos hl]
      refine rnN 4 rfl ?_
      refine rnK rfl (c_clusterOf (show v < 2147483648 by omega)) ?_
      refine rnK rfl (c_count hup_at (show v / 4 < 64 by omega) (by simp only [hq4]; exact hg.1) (by simp only [hq4, hqk (v / 4 / 8) (by omega)]; exact hg.2.1 _ (by omega))) ?_
      rw [hcn (v / 4) (by omega), hi.2.1 (v / 4) (by omega)]
      have hTl := T_le hi.1.ns.1 (v / 4)
      refine rnN 1 rfl ?_
      refine rnB rfl (fun h1c => ?_) (fun h1c => ?_)
      · have h1c : T w (v / 4) = 1 := (neq (by omega) (by decide)).mp h1c
        refine rnN 2 rfl ?_
        refine rnN 6 rfl ?_
        refine rnK rfl (c_clusterOf (show v < 2147483648 by omega)) ?_
        refine rnN 1 rfl ?_
        refine rnK rfl (c_leadTo (Nat.le_refl 1)) ?_
        refine rnK rfl (c_put hup_at h2 hlt) ?_
        refine rnN 2 rfl ?_
        simp (disch := omega) only [nI_add, pk_mul, pk_sub, nd8, nd4, nsub8, nand63, nand7, nshr2, nI_clamp, E_at, hup_at, hup_hup]
        have e : mk w (w (8 * c + i)) = 4 * (v / 4) + 1 := by rw [mk_lead h4, ← hvd, if_pos h1c]
        have K2 := hK (some (vI (nI v))) (some (vI (nI 1)))
        rw [e] at K2
        exact K2
      · have h1c : ¬ T w (v / 4) = 1 := fun e => h1c ((neq (by omega) (by decide)).mpr e)
        refine rnN 1 rfl ?_
        refine rnN 6 rfl ?_
        refine rnK rfl (c_clusterOf (show v < 2147483648 by omega)) ?_
        refine rnN 1 rfl ?_
        refine rnK rfl (c_leadTo (Nat.zero_le 1)) ?_
        refine rnK rfl (c_put hup_at h2 hlt) ?_
        refine rnN 2 rfl ?_
        simp (disch := omega) only [nI_add, pk_mul, pk_sub, nd8, nd4, nsub8, nand63, nand7, nshr2, nI_clamp, E_at, hup_at, hup_hup]
        have e : mk w (w (8 * c + i)) = 4 * (v / 4) + 0 := by rw [mk_lead h4, ← hvd, if_neg h1c]
        have K2 := hK (some (vI (nI v))) (some (vI (nI 0)))
        rw [e] at K2
        exact K2
    · have h4 : w (8 * c + i) / 4 = 0 := Classical.byContradiction fun z => hl (hv2.mpr z)
      rw [if_neg hl]
      refine rnN 3 rfl ?_
      simp (disch := omega) only [nI_add, pk_mul, pk_sub, nd8, nd4, nsub8, nand63, nand7, nshr2, nI_clamp, E_at, hup_at, hup_hup]
      have e : up (fun p => if S (p / 8) = true ∨ (p / 8 = c ∧ p % 8 < i) then mk w (w p) else w p) (8 * c + i) (mk w (w (8 * c + i))) = fun p => if S (p / 8) = true ∨ (p / 8 = c ∧ p % 8 < i) then mk w (w p) else w p := by
        funext p
        simp only [up]
        by_cases hp : p = 8 * c + i
        · subst hp
          rw [if_pos rfl, mk_flat h4]
          split <;> rfl
        · rw [if_neg hp]
      have K2 := hK (some (vI (nI v))) o4
      rw [e] at K2
      exact K2
  · intro o3 o4
    refine rnN 3 rfl ?_
    rw [fin]
    exact rnR rfl
end FL
end
section
/-! ===== the marks told anew, table by table ===== -/
section FL2
variable {d k : Nat} {h : xH} {w u : Nat → Nat} {S : Nat → Bool}
theorem Str.tOK (hs : Str w u) {t : Nat} (ht : TB w t) : ∀ j, j < 8 → w (8 * t + j) < 256 ∧ (2 < w (8 * t + j) ↔ w (8 * t + j) / 4 ≠ 0) := fun j hj => ⟨(hs.tw ht hj).lt, (hs.tw ht hj).isLead⟩
theorem Str.lOK (hs : Str w u) {t i : Nat} (ht : TB w t) (hi : i < 8) (h0 : w (8 * t + i) / 4 ≠ 0) : ∀ j, j < 8 → w (8 * (w (8 * t + i) / 4) + j) < 256 ∧ (2 < w (8 * (w (8 * t + i) / 4) + j) ↔ w (8 * (w (8 * t + i) / 4) + j) / 4 ≠ 0) := fun j hj => ⟨(hs.bw ht hi hj h0).lt, (hs.bw ht hi hj h0).isLead⟩
theorem Sbel_ok (hs : Str w u) (hS : SOK u S) {t : Nat} (ht : TB w t) : ∀ i, i ≤ 8 → SOK u (Sbel w S t i) := by
  intro i
  induction i with
  | zero =>
    intro _
    have h1 := hs.tb ht
    exact hS.add h1.1 h1.2.1 (by omega)
  | succ i ih =>
    intro hi
    rw [Sbel]
    split
    · exact ih (by omega)
    · next h0 =>
      have h1 := (hs.tw ht (show i < 8 by omega)).lead h0
      have h2 := h1.1.pos
      exact (ih (by omega)).add h2.1 h2.2 (by omega)
theorem Sbel_mono {t : Nat} {x : Nat} (hx : S x = true ∨ x = t) : ∀ i, Sbel w S t i x = true := by
  intro i
  induction i with
  | zero => exact Sin_iff.mpr hx
  | succ i ih =>
    rw [Sbel]
    split
    · exact ih
    · exact Sin_iff.mpr (Or.inl ih)
theorem Sbel_leaf {t i : Nat} (h0 : w (8 * t + i) / 4 ≠ 0) : ∀ n, i < n → Sbel w S t n (w (8 * t + i) / 4) = true := by
  intro n
  induction n with
  | zero => intro h; omega
  | succ n ih =>
    intro hn
    rw [Sbel]
    by_cases e : i = n
    · subst e
      rw [if_neg h0]
      exact Sin_iff.mpr (Or.inr rfl)
    · split
      · exact ih (by omega)
      · exact Sin_iff.mpr (Or.inl (ih (by omega)))
theorem Sall_ok (hs : Str w u) : ∀ j, j ≤ w 5 → SOK u (Sall w j) := by
  intro j
  induction j with
  | zero => intro _; exact Sbel_ok hs (fun c hc => by cases hc) act_tb 8 (Nat.le_refl 8)
  | succ j ih => intro hj; exact Sbel_ok hs (ih (by omega)) (tab_tb (by omega)) 8 (Nat.le_refl 8)
theorem Sall_mono {x j : Nat} (hx : Sall w j x = true) : ∀ n, j ≤ n → Sall w n x = true := by
  intro n
  induction n with
  | zero => intro h; rwa [show j = 0 by omega] at hx
  | succ n ih =>
    intro h
    by_cases e : j = n + 1
    · rwa [e] at hx
    · exact Sbel_mono (Or.inl (ih (by omega))) 8
theorem Sall_has {t x : Nat} (ht : TB w t) (hx : x = t ∨ ∃ i, i < 8 ∧ w (8 * t + i) / 4 ≠ 0 ∧ x = w (8 * t + i) / 4) : Sall w (w 5) x = true := by
  have one : ∀ S : Nat → Bool, Sbel w S t 8 x = true := fun S => by
    rcases hx with rfl | ⟨i, hi, h0, rfl⟩
    · exact Sbel_mono (Or.inr rfl) 8
    · exact Sbel_leaf h0 8 hi
  rcases ht with rfl | ⟨j, hj, rfl⟩
  · exact Sall_mono (j := 0) (one _) _ (Nat.zero_le _)
  · exact Sall_mono (j := j + 1) (one _) _ (by omega)
theorem fS_all (hi : Inv w u) : fS (Sall w (w 5)) w = flg w u := by
  funext p
  unfold flg fS
  have hok := Sall_ok hi.1 (w 5) (Nat.le_refl _)
  by_cases e : Sall w (w 5) (p / 8) = true
  · rw [if_pos e, if_pos (show tlB u (p / 8) = true from decide_eq_true (hok _ e))]
  · rw [if_neg e]
    by_cases e2 : tlB u (p / 8) = true
    · rw [if_pos e2]
      have h3 := of_decide_eq_true e2
      have hz : T w (p / 8) = 0 := Classical.byContradiction fun h0 => e (by
        rcases TL_role hi.1 h3.1 h3.2.2 h0 with h4 | ⟨t, i, ht, h5, h6, h7⟩
        · exact Sall_has h4 (Or.inl rfl)
        · exact Sall_has ht (Or.inr ⟨i, h5, h6, h7⟩))
      have h4 := hi.2.2.1 (p / 8) h3.2.1 hz (p % 8) (by omega)
      rw [show 8 * (p / 8) + p % 8 = p by omega] at h4
      rw [h4]
      rfl
    · rw [if_neg e2]
theorem c_tellFlagsBelow {t : Nat} (hw : h (10, k) = E (fS S w)) (hi : Inv w u) (hS : SOK u S) (ht : TB w t) : Cl (d + 3) MX1_tellFlagsBelow [vR (1, k), vI (nI t)] h none (hup h (10, k) (E (fS (Sbel w S t 8) w))) := by
  have htb := hi.1.tb ht
  refine rnN 2 rfl ?_
  refine rnK rfl (c_tellFlagsIn hw hi hS htb.1 htb.2.1 (by omega) (hi.1.tOK ht)) ?_
  refine rnN 2 rfl ?_
  have go := lpN 8 (fun i => ∀ o3 : Option xV, Rn (d + 3) MX1_tellFlagsBelow 7 [some (vR (1, k)), some (vI (nI t)), some (vI (nI i)), o3] [] (hup h (10, k) (E (fS (Sbel w S t i) w))) none (hup h (10, k) (E (fS (Sbel w S t 8) w)))) (fun i hlt K => ?_) ?_
  · exact go none
  · intro o3
    have hok := Sbel_ok hi.1 hS ht i (by omega)
    have hx := hi.1.tw ht hlt
    -- the word as it stands
    have hvd := fS_div' (S := Sbel w S t i) (w := w) (8 * t + i)
    have hvl : fS (Sbel w S t i) w (8 * t + i) = w (8 * t + i) ∨ fS (Sbel w S t i) w (8 * t + i) = mk w (w (8 * t + i)) := by
      unfold fS
      split
      · exact Or.inr rfl
      · exact Or.inl rfl
    have hlt2 := hx.lt
    have hv2 : 2 < fS (Sbel w S t i) w (8 * t + i) ↔ w (8 * t + i) / 4 ≠ 0 := by
      rcases hvl with e | e
      · rw [e]; exact hx.isLead
      · constructor
        · intro z hz
          rw [e, mk_flat hz] at z
          exact hx.isLead.mp z hz
        · intro z; omega
    refine rnN 2 rfl ?_
    refine rnT (nI_lt hlt (by decide)) rfl ?_
    refine rnN 4 rfl ?_
    refine rnK rfl (c_at hup_at htb.2.1 hlt) ?_
    refine rnN 2 rfl ?_
    refine rnK rfl (c_isLead (show fS (Sbel w S t i) w (8 * t + i) < 2147483648 by omega)) ?_
    by_cases hl : 2 < fS (Sbel w S t i) w (8 * t + i)
    · have h4 := hv2.mp hl
      have hld := hx.lead h4
      have hpos := hld.1.pos
      rw [if_pos hl]
      refine rnN 3 rfl ?_
      refine rnK rfl (c_clusterOf (show fS (Sbel w S t i) w (8 * t + i) < 2147483648 by omega)) ?_
      rw [hvd]
      refine rnK rfl (c_tellFlagsIn hup_at hi hok hpos.1 hpos.2 (by omega) (hi.1.lOK ht hlt h4)) ?_
      refine rnN 2 rfl ?_
      simp (disch := omega) only [nI_add, pk_mul, pk_sub, nd8, nd4, nsub8, nand63, nand7, nshr2, nI_clamp, E_at, hup_at, hup_hup]
      have K2 := K (some (vI (nI (fS (Sbel w S t i) w (8 * t + i)))))
      rw [Sbel, if_neg h4] at K2
      exact K2
    · have h4 : w (8 * t + i) / 4 = 0 := Classical.byContradiction fun z => hl (hv2.mpr z)
      rw [if_neg hl]
      refine rnN 3 rfl ?_
      simp (disch := omega) only [nI_add, pk_mul, pk_sub, nd8, nd4, nsub8, nand63, nand7, nshr2, nI_clamp, E_at, hup_at, hup_hup]
      have K2 := K (some (vI (nI (fS (Sbel w S t i) w (8 * t + i)))))
      rw [Sbel, if_pos h4] at K2
      exact K2
  · intro o3
    refine rnN 3 rfl ?_
    exact rnR rfl
theorem c_tellFlags (hw : h (10, k) = E w) (hi : Inv w u) : Cl (d + 4) MX1_tellFlags [vR (1, k)] h none (hup h (10, k) (E (flg w u))) := by
  have h0 : w = fS (fun _ => false) w := by
    funext p
    unfold fS
    exact (if_neg (fun e => by cases e)).symm
  have hok : ∀ j, j ≤ w 5 → SOK u (Sall w j) := Sall_ok hi.1
  have hns := hi.1.ns
  refine rnN 2 rfl ?_
  refine rnK rfl (c_activeTable hw) ?_
  refine rnK rfl (c_tellFlagsBelow (hw.trans (congrArg E h0)) hi (fun c hc => by cases hc) act_tb) ?_
  refine rnN 2 rfl ?_
  rw [← fS_all hi]
  refine lpN (w 5) (fun j => Rn (d + 4) MX1_tellFlags 10 [some (vR (1, k)), some (vI (nI j))] [] (hup h (10, k) (E (fS (Sall w j) w))) none (hup h (10, k) (E (fS (Sall w (w 5)) w)))) (fun j hj K => ?_) ?_
  · have ho := hok j (by omega)
    have h5 : fS (Sall w j) w 5 = w 5 := fS_out ho (Or.inl rfl)
    have h6 : fS (Sall w j) w 6 = w 6 := fS_out ho (Or.inl rfl)
    have h6n := hns.2 (by omega)
    have hls := hi.1.list h6n
    have htab : tab (fS (Sall w j) w) j = tab w j := by
      unfold tab
      rw [h6]
      exact fS_out ho (Or.inr (Or.inr (Or.inl (by rw [ix_div (show 2 * j < 8 by omega)]; exact hls.2))))
    refine rnN 2 rfl ?_
    refine rnK rfl (c_snapshotCount hup_at) ?_
    rw [h5]
    refine rnT (nI_lt hj (by omega)) rfl ?_
    refine rnN 3 rfl ?_
    refine rnK rfl (c_snapshotTable hup_at (by rw [h6]; exact hls.1) (show j < 4 by omega)) ?_
    rw [htab]
    refine rnK rfl (c_tellFlagsBelow hup_at hi ho (tab_tb hj)) ?_
    refine rnN 2 rfl ?_
    simp (disch := omega) only [nI_add, pk_mul, pk_sub, nd8, nd4, nsub8, nand63, nand7, nshr2, nI_clamp, E_at, hup_at, hup_hup]
    exact K
  · have h5 : fS (Sall w (w 5)) w 5 = w 5 := fS_out (hok _ (Nat.le_refl _)) (Or.inl rfl)
    refine rnN 2 rfl ?_
    refine rnK rfl (c_snapshotCount hup_at) ?_
    rw [h5]
    refine rnF (nI_nlt (Nat.le_refl _) (by omega)) rfl ?_
    exact rnR rfl
end FL2
end
section
/-! ===== steps of a file: what stays ===== -/
/-- a place in a count cluster -/
def kp (w : Nat → Nat) (p : Nat) : Prop := ∃ k, k < 8 ∧ w (8 * w 4 + k) ≠ 0 ∧ p / 8 = w (8 * w 4 + k)
/-- the place of a count -/
def cpl (w : Nat → Nat) (X : Nat) : Nat := 8 * w (8 * w 4 + X / 8) + X % 8
section TR
variable {w v u u' : Nat → Nat}
theorem Str.nk (hs : Str w u) {p : Nat} (h : u (p / 8) < 16 ∨ 24 ≤ u (p / 8)) : ¬ kp w p := by
  rintro ⟨k, hk, h0, e⟩
  have h1 := (hs.keep hk h0).2
  rw [← e] at h1
  omega
theorem nk0 {p : Nat} (h : p < 8) : ¬ kp w p := by
  rintro ⟨k, hk, h0, e⟩
  exact h0 (by omega)
theorem BOK.move {sz i j y : Nat} (h : BOK sz u i j y) (hu : y / 4 ≠ 0 → u' (y / 4) = u (y / 4)) : BOK sz u' i j y := by
  rcases h with rfl | ⟨h1, rfl | h2⟩
  · exact Or.inl rfl
  · exact Or.inr ⟨h1, Or.inl rfl⟩
  · refine Or.inr ⟨h1, Or.inr ⟨h2.1, ?_⟩⟩
    have := h2.1.pos
    rw [hu (by omega)]
    exact h2.2
/-- the structure stays when leads stay or become leads in order -/
theorem StrF (hs : Str w u) (hu : ∀ X, T w X ≠ 0 → u' X = u X) (hH : ∀ p, 2 ≤ p → p < 7 → v p = w p)
    (hct : ∀ k, k < 8 → v (8 * w 4 + k) = w (8 * w 4 + k) ∨ (v (8 * w 4 + k) < 64 ∧ u' (v (8 * w 4 + k)) = 16 + k))
    (hls : w 6 ≠ 0 → ∀ j, j < w 5 → v (8 * w 6 + 2 * j) = w (8 * w 6 + 2 * j))
    (htb : ∀ t i, TB w t → i < 8 → v (8 * t + i) = w (8 * t + i) ∨ LOK v u' i (v (8 * t + i)))
    (hlf : ∀ t i j, TB w t → i < 8 → j < 8 → v (8 * t + i) = w (8 * t + i) → w (8 * t + i) / 4 ≠ 0 → v (8 * (w (8 * t + i) / 4) + j) = w (8 * (w (8 * t + i) / 4) + j) ∨ BOK (w 2) u' i j (v (8 * (w (8 * t + i) / 4) + j))) : Str v u' := by
  have e2 := hH 2 (by decide) (by decide)
  have e3 := hH 3 (by decide) (by decide)
  have e4 := hH 4 (by decide) (by decide)
  have e5 := hH 5 (by decide) (by decide)
  have e6 := hH 6 (by decide) (by decide)
  have etab : ∀ j, j < w 5 → tab v j = tab w j := fun j hj => by
    unfold tab
    rw [e6]
    exact hls (hs.ns.2 (by omega)) j hj
  have eTB : ∀ t, TB v t → TB w t := by
    intro t ht
    rcases ht with rfl | ⟨j, hj, rfl⟩
    · exact Or.inl e3
    · rw [e5] at hj
      rw [etab j hj]
      exact tab_tb hj
  refine ⟨by rw [e2]; exact hs.sz, ?_, ?_, by rw [e5, e6]; exact hs.ns, ?_, ?_, ?_, ?_⟩
  · rw [e3, hu _ (by have := T_act (w := w); omega)]; exact hs.act
  · rw [e4, hu _ (by have := T_ct (w := w); omega)]; exact hs.ct
  · intro h6
    rw [e6] at h6 ⊢
    rw [hu _ (by have := T_list h6; omega)]
    exact hs.list h6
  · intro k hk h0
    rw [e4] at h0 ⊢
    rcases hct k hk with e | e
    · rw [e] at h0 ⊢
      rw [hu _ (by have := T_keep hk h0; omega)]
      exact hs.keep hk h0
    · exact e
  · intro j hj
    rw [e5] at hj
    rw [etab j hj, hu _ (by have := T_tab (tab_tb hj); omega)]
    exact hs.tab hj
  · intro t ht i hi
    have ht' := eTB t ht
    rcases htb t i ht' hi with e | e
    · have hx := hs.tw ht' hi
      by_cases h0 : w (8 * t + i) / 4 = 0
      · rw [e, hx.zero h0]; exact Or.inl rfl
      · have hl := hx.lead h0
        rw [e]
        refine Or.inr ⟨hl.1, by rw [e2]; exact hl.2.1, by rw [hu _ (by have := T_leaf ht' hi h0; omega)]; exact hl.2.2.1, fun j hj => ?_⟩
        rw [e2]
        rcases hlf t i j ht' hi hj e h0 with e7 | e7
        · rw [e7]
          exact (hl.2.2.2 j hj).move fun hy => hu _ (by have := T_blk ht' hi hj h0 hy; omega)
        · exact e7
    · exact e
/-- only the active table's part of a due count changes -/
theorem TF (X : Nat) (hH : ∀ p, 2 ≤ p → p < 7 → v p = w p) (hct : ∀ k, k < 8 → v (8 * w 4 + k) = w (8 * w 4 + k)) (htab : ∀ j, j < w 5 → tab v j = tab w j) (htc : ∀ j, j < w 5 → tc v X (tab w j) = tc w X (tab w j)) : T v X + tc w X (w 3) = T w X + tc v X (w 3) := by
  have e3 := hH 3 (by decide) (by decide)
  have e4 := hH 4 (by decide) (by decide)
  have e5 := hH 5 (by decide) (by decide)
  have e6 := hH 6 (by decide) (by decide)
  have ek : kc v X = kc w X := by
    unfold kc
    rw [e4]
    exact sm_congr fun k hk => by rw [hct k hk]
  have es : sm (w 5) (fun j => tc v X (tab v j)) = sm (w 5) fun j => tc w X (tab w j) := sm_congr fun j hj => by rw [htab j hj, htc j hj]
  unfold T
  rw [e3, e4, e5, e6, ek, es]
  omega
/-- one word of a table, and its leaf -/
theorem tc_one {X t i : Nat} (hi : i < 8) (h : ∀ k, k < 8 → k ≠ i → lc v X (v (8 * t + k)) = lc w X (w (8 * t + k))) : tc v X t + lc w X (w (8 * t + i)) = tc w X t + lc v X (v (8 * t + i)) := by
  have h1 := sm_one (n := 8) (f := fun k => lc v X (v (8 * t + k))) (g := fun k => lc w X (w (8 * t + k))) hi h
  unfold tc
  omega
/-- the counts of a file whose count clusters stay -/
theorem cnt_of (hH4 : v 4 = w 4) (hct : ∀ k, k < 8 → v (8 * w 4 + k) = w (8 * w 4 + k)) {X : Nat} (hX : X < 64) : cnt v X = if w (8 * w 4 + X / 8) = 0 then 0 else v (cpl w X) := by
  unfold cnt cpl
  rw [hH4, hct (X / 8) (by omega)]
theorem Inv.noK (hi : Inv w u) {X : Nat} (hX : X < 64) (h : w (8 * w 4 + X / 8) = 0) : T w X = 0 := by
  rw [← hi.2.1 X hX]
  unfold cnt
  rw [if_pos h]
theorem Inv.cntAt (hi : Inv w u) {X : Nat} (hX : X < 64) (h : w (8 * w 4 + X / 8) ≠ 0) : w (cpl w X) = T w X := by
  rw [← hi.2.1 X hX]
  unfold cnt cpl
  rw [if_neg h]
/-- places of counts are apart -/
theorem cpl_inj (hs : Str w u) {X Y : Nat} (hX : X < 64) (hY : Y < 64) (h1 : w (8 * w 4 + X / 8) ≠ 0) (h2 : w (8 * w 4 + Y / 8) ≠ 0) (e : cpl w X = cpl w Y) : X = Y := by
  unfold cpl at e
  have h3 := hs.keep (show X / 8 < 8 by omega) h1
  have h4 := hs.keep (show Y / 8 < 8 by omega) h2
  have h5 : w (8 * w 4 + X / 8) = w (8 * w 4 + Y / 8) := by omega
  rw [h5] at h3
  omega
theorem cpl_kp {X : Nat} (hX : X < 64) (h : w (8 * w 4 + X / 8) ≠ 0) : kp w (cpl w X) := ⟨X / 8, by omega, h, by unfold cpl; omega⟩
/-- a leaf that is led to once is led to by the active table's word alone -/
theorem own_leaf (hs : Str w u) {i : Nat} (hi : i < 8) (h0 : w (8 * w 3 + i) / 4 ≠ 0) (h1 : T w (w (8 * w 3 + i) / 4) = 1) {j i2 : Nat} (hj : j < w 5) (hi2 : i2 < 8) (h2 : w (8 * tab w j + i2) / 4 ≠ 0) : w (8 * tab w j + i2) / 4 ≠ w (8 * w 3 + i) / 4 := by
  intro e
  have h3 : 1 ≤ tc w (w (8 * w 3 + i) / 4) (w 3) := by
    have h4 := tc_lc (w := w) (t := w 3) (X := w (8 * w 3 + i) / 4) hi
    have h5 : 1 ≤ lc w (w (8 * w 3 + i) / 4) (w (8 * w 3 + i)) := by
      unfold lc
      rw [if_neg h0, iv_self]
      omega
    omega
  have h4 : 1 ≤ tc w (w (8 * w 3 + i) / 4) (tab w j) := by
    have h5 := tc_lc (w := w) (t := tab w j) (X := w (8 * w 3 + i) / 4) hi2
    have h6 : 1 ≤ lc w (w (8 * w 3 + i) / 4) (w (8 * tab w j + i2)) := by
      unfold lc
      rw [if_neg h2, e, iv_self]
      omega
    omega
  have h5 := sm_ge (f := fun j => tc w (w (8 * w 3 + i) / 4) (tab w j)) hj
  unfold T at h1
  omega
theorem ne_fresh {X c : Nat} (hz : T w c = 0) (h : 1 ≤ T w X) : X ≠ c := by
  intro e
  rw [e] at h
  omega
theorem u_fresh {X c r : Nat} (hz : T w c = 0) (h : T w X ≠ 0) : up u c r X = u X := up_ne (ne_fresh hz (by omega))
end TR
end
section
/-! ===== steps of a file: a count cluster, a leaf, a block's cluster, a block that is zero ===== -/
section ST
variable {w v u : Nat → Nat}
theorem hdr_c {p c : Nat} (h : p < 8) (hc : 1 ≤ c) : p / 8 ≠ c := by omega
/-- a free cluster becomes a count cluster, that counts itself -/
def addK (w : Nat → Nat) (c : Nat) : Nat → Nat := up (up w (8 * w 4 + c / 8) c) (8 * c + c % 8) 1
theorem addK_inv (hi : Inv w u) {c : Nat} (h1 : 1 ≤ c) (h2 : c < 64) (hz : T w c = 0) (hk : w (8 * w 4 + c / 8) = 0) :
    Inv (addK w c) (up u c (16 + c / 8)) ∧ (∀ X, T (addK w c) X = T w X + iv c X) ∧ ∀ p, p ≠ 8 * w 4 + c / 8 → p / 8 ≠ c → addK w c p = w p := by
  have hs := hi.1
  have hct := hs.ct
  have hne : w 4 ≠ c := ne_fresh hz T_ct
  have out : ∀ p, p ≠ 8 * w 4 + c / 8 → p / 8 ≠ c → addK w c p = w p := by
    intro p hp hpc
    unfold addK
    rw [up_ne (by omega), up_ne hp]
  have hH : ∀ p, p < 8 → addK w c p = w p := fun p hp => out p (by omega) (by omega)
  have hCT : ∀ k, k < 8 → addK w c (8 * w 4 + k) = if k = c / 8 then c else w (8 * w 4 + k) := by
    intro k hk2
    unfold addK
    rw [up_ne (by omega)]
    by_cases e : k = c / 8
    · rw [if_pos e, e, up_at]
    · rw [if_neg e, up_ne (by omega)]
  have hC : ∀ j, j < 8 → addK w c (8 * c + j) = if j = c % 8 then 1 else 0 := by
    intro j hj
    unfold addK
    by_cases e : j = c % 8
    · rw [if_pos e, e, up_at]
    · rw [if_neg e, up_ne (by omega), up_ne (by omega)]
      exact hi.2.2.1 c h2 hz j hj
  -- clusters of other uses stay
  have hcl : ∀ X j, j < 8 → T w X ≠ 0 → X ≠ w 4 → addK w c (8 * X + j) = w (8 * X + j) := by
    intro X j hj hX hX4
    have := ne_fresh (X := X) hz (by omega)
    exact out _ (by omega) (by omega)
  have htX : ∀ {t : Nat}, TB w t → t ≠ w 4 := fun ht e => by
    have h3 := (hs.tb ht).2.2
    rw [e] at h3
    omega
  have hlX : ∀ {t i : Nat}, TB w t → i < 8 → w (8 * t + i) / 4 ≠ 0 → w (8 * t + i) / 4 ≠ w 4 := fun ht hi2 h0 e => by
    have h3 := ((hs.tw ht hi2).lead h0).2.2.1
    rw [e] at h3
    omega
  have hTB : ∀ t i, TB w t → i < 8 → addK w c (8 * t + i) = w (8 * t + i) := fun t i ht hi2 => hcl t i hi2 (by have := T_tab ht; omega) (htX ht)
  have hLF : ∀ t i j, TB w t → i < 8 → j < 8 → w (8 * t + i) / 4 ≠ 0 → addK w c (8 * (w (8 * t + i) / 4) + j) = w (8 * (w (8 * t + i) / 4) + j) := fun t i j ht hi2 hj h0 => hcl _ j hj (by have := T_leaf ht hi2 h0; omega) (hlX ht hi2 h0)
  have htc : ∀ t X, TB w t → tc (addK w c) X t = tc w X t := fun t X ht => tc_congr (fun i hi2 => by rw [hTB t i ht hi2]) (fun i hi2 h0 j hj => by rw [hLF t i j ht hi2 hj h0])
  have hls : w 6 ≠ 0 → ∀ j, j < 8 → addK w c (8 * w 6 + j) = w (8 * w 6 + j) := fun h6 j hj => hcl _ j hj (by have := T_list h6; omega) (fun e => by have h3 := hs.list h6; rw [e] at h3; omega)
  have etab : ∀ j, j < w 5 → tab (addK w c) j = tab w j := fun j hj => by
    unfold tab
    rw [hH 6 (by decide)]
    have := hs.ns
    exact hls (this.2 (by omega)) _ (by omega)
  have hT : ∀ X, T (addK w c) X = T w X + iv c X := by
    intro X
    have ekc : kc (addK w c) X = kc w X + iv c X := by
      unfold kc
      rw [hH 4 (by decide)]
      have h3 := sm_one (n := 8) (i := c / 8) (f := fun k => if addK w c (8 * w 4 + k) = 0 then 0 else iv (addK w c (8 * w 4 + k)) X) (g := fun k => if w (8 * w 4 + k) = 0 then 0 else iv (w (8 * w 4 + k)) X) (by omega) (fun k hk2 hne2 => by
        show (if addK w c (8 * w 4 + k) = 0 then 0 else iv (addK w c (8 * w 4 + k)) X) = if w (8 * w 4 + k) = 0 then 0 else iv (w (8 * w 4 + k)) X
        rw [hCT k hk2, if_neg hne2])
      have e1 : (if addK w c (8 * w 4 + c / 8) = 0 then 0 else iv (addK w c (8 * w 4 + c / 8)) X) = iv c X := by
        rw [hCT _ (by omega), if_pos rfl, if_neg (by omega)]
      have e2 : (if w (8 * w 4 + c / 8) = 0 then 0 else iv (w (8 * w 4 + c / 8)) X) = 0 := if_pos hk
      simp only [e1, e2] at h3
      omega
    have es : sm (w 5) (fun j => tc (addK w c) X (tab (addK w c) j)) = sm (w 5) fun j => tc w X (tab w j) := sm_congr fun j hj => by rw [etab j hj, htc _ X (tab_tb hj)]
    unfold T
    rw [hH 3 (by decide), hH 4 (by decide), hH 5 (by decide), hH 6 (by decide), ekc, es, htc _ X act_tb]
    omega
  refine ⟨⟨?_, ?_, ?_, ?_, ?_⟩, hT, out⟩
  · refine StrF hs (fun X hX => u_fresh hz hX) (fun p _ hp => hH p (by omega)) (fun k hk2 => ?_) (fun h6 j hj => by have := hs.ns; exact hls h6 _ (by omega)) (fun t i ht hi2 => Or.inl (hTB t i ht hi2)) (fun t i j ht hi2 hj _ h0 => Or.inl (hLF t i j ht hi2 hj h0))
    rw [hCT k hk2]
    by_cases e : k = c / 8
    · rw [if_pos e]
      exact Or.inr ⟨h2, by rw [e, up_at]⟩
    · rw [if_neg e]
      exact Or.inl rfl
  · intro X hX
    rw [hT X]
    unfold cnt
    rw [hH 4 (by decide), hCT (X / 8) (by omega)]
    by_cases e : X / 8 = c / 8
    · rw [if_pos e, if_neg (by omega), hC _ (by omega)]
      have h3 := hi.noK hX (by rw [e]; exact hk)
      rw [h3]
      by_cases e2 : X % 8 = c % 8
      · rw [if_pos e2, show c = X by omega, iv_self]
      · rw [if_neg e2, iv_ne (by omega)]
    · rw [if_neg e, iv_ne (by omega)]
      have h3 := hi.2.1 X hX
      unfold cnt at h3
      split
      · next h0 => rw [if_pos h0] at h3; omega
      · next h0 =>
        rw [if_neg h0] at h3
        have h4 := hs.keep (show X / 8 < 8 by omega) h0
        have h5 := hcl (w (8 * w 4 + X / 8)) (X % 8) (by omega) (by have := T_keep (show X / 8 < 8 by omega) h0; omega) (fun e3 => by rw [e3] at h4; omega)
        rw [h5, h3]
        rfl
  · intro X hX h0 j hj
    rw [hT X] at h0
    have h3 : c ≠ X := fun e => by rw [e, iv_self] at h0; omega
    have h4 : X ≠ w 4 := fun e => by have := T_ct (w := w); rw [e] at h0; omega
    rw [out _ (by omega) (by omega)]
    exact hi.2.2.1 X hX (by omega) j hj
  · obtain ⟨g0, g1, g7, gl, gn⟩ := hi.2.2.2.1
    refine ⟨by rw [hH 0 (by decide)]; exact g0, by rw [hH 1 (by decide)]; exact g1, by rw [hH 7 (by decide)]; exact g7, ?_, ?_⟩
    · rw [hH 5 (by decide), hH 6 (by decide)]
      intro h6 j hj hj8
      rw [hls h6 j hj8]
      exact gl h6 j hj hj8
    · rw [hH 5 (by decide), hH 6 (by decide)]
      intro i j hi2 hj
      have h5 := hs.ns
      have h6 := h5.2 (by omega)
      rw [show 8 * w 6 + 2 * i + 1 = 8 * w 6 + (2 * i + 1) by omega, show 8 * w 6 + 2 * j + 1 = 8 * w 6 + (2 * j + 1) by omega, hls h6 _ (by omega), hls h6 _ (by omega)]
      exact gn i j hi2 hj
  · intro p
    unfold addK up
    split
    · omega
    · split
      · omega
      · exact hi.2.2.2.2 p
end ST
end
section
/-! ===== a leaf of its own, a cluster of its own, a block that is zero ===== -/
section ST2
variable {w v u u' : Nat → Nat}
theorem Inv_mk (hi : Inv w u) (hS : Str v u') (hH : ∀ p, p < 8 → v p = w p) (hct : ∀ k, k < 8 → v (8 * w 4 + k) = w (8 * w 4 + k)) (hls : w 6 ≠ 0 → ∀ j, j < 8 → v (8 * w 6 + j) = w (8 * w 6 + j)) (hcnt : ∀ X, X < 64 → (if w (8 * w 4 + X / 8) = 0 then 0 else v (cpl w X)) = T v X) (hz : ∀ X, X < 64 → T v X = 0 → ∀ j, j < 8 → v (8 * X + j) = 0) (hb : ∀ p, v p < 4294967296) : Inv v u' := by
  refine ⟨hS, fun X hX => by rw [cnt_of (hH 4 (by decide)) hct hX]; exact hcnt X hX, hz, ?_, hb⟩
  obtain ⟨g0, g1, g7, gl, gn⟩ := hi.2.2.2.1
  refine ⟨by rw [hH 0 (by decide)]; exact g0, by rw [hH 1 (by decide)]; exact g1, by rw [hH 7 (by decide)]; exact g7, ?_, ?_⟩
  · rw [hH 5 (by decide), hH 6 (by decide)]
    intro h6 j hj hj8
    rw [hls h6 j hj8]
    exact gl h6 j hj hj8
  · rw [hH 5 (by decide), hH 6 (by decide)]
    intro i j hi2 hj
    have h5 := hi.1.ns
    have h6 := h5.2 (by omega)
    rw [show 8 * w 6 + 2 * i + 1 = 8 * w 6 + (2 * i + 1) by omega, show 8 * w 6 + 2 * j + 1 = 8 * w 6 + (2 * j + 1) by omega, hls h6 _ (by omega), hls h6 _ (by omega)]
    exact gn i j hi2 hj
/-- what a word leads to, counted for X -/
def ld (x X : Nat) : Nat := if x / 4 = 0 then 0 else iv (x / 4) X
theorem ld_le (x X : Nat) : ld x X ≤ 1 := bc_le X x
theorem ld_bc (x X : Nat) : bc X x = ld x X := rfl
theorem lc_ld (w : Nat → Nat) (X x : Nat) : lc w X x = ld x X + (if x / 4 = 0 then 0 else sm 8 fun j => ld (w (8 * (x / 4) + j)) X) := by
  unfold lc ld
  split <;> rfl
/-- the active table gets a leaf of its own: a free cluster with the words of the old leaf -/
theorem leaf_inv (hi : Inv w u) {c i f : Nat} (h1 : 1 ≤ c) (h2 : c < 64) (hz : T w c = 0) (hkc : w (8 * w 4 + c / 8) ≠ 0) (hi8 : i < 8) (hsz : 8 * i < w 2) (hf : f ≤ 1) (hx : w (8 * w 3 + i) / 4 = 0 ∨ 2 ≤ T w (w (8 * w 3 + i) / 4))
    (vC : ∀ j, j < 8 → v (8 * c + j) = if w (8 * w 3 + i) / 4 = 0 then 0 else w (8 * (w (8 * w 3 + i) / 4) + j)) (vA : v (8 * w 3 + i) = 4 * c + f)
    (vK : ∀ X, X < 64 → w (8 * w 4 + X / 8) ≠ 0 → v (cpl w X) = T w X + iv c X - ld (w (8 * w 3 + i)) X)
    (vO : ∀ p, p / 8 ≠ c → p ≠ 8 * w 3 + i → ¬ kp w p → v p = w p) (vb : ∀ p, v p < 4294967296) :
    Inv v (up u c (8 + i)) ∧ ∀ X, T v X + ld (w (8 * w 3 + i)) X = T w X + iv c X := by
  have hs := hi.1
  have hact := hs.act
  have hH : ∀ p, p < 8 → v p = w p := fun p hp => vO p (by omega) (by omega) (nk0 hp)
  have hcl : ∀ X j, j < 8 → T w X ≠ 0 → X ≠ w 3 → (u X < 16 ∨ 24 ≤ u X) → v (8 * X + j) = w (8 * X + j) := by
    intro X j hj hX hX3 hu
    have := ne_fresh (X := X) hz (by omega)
    exact vO _ (by omega) (by omega) (hs.nk (by rw [ix_div hj]; exact hu))
  have hct : ∀ k, k < 8 → v (8 * w 4 + k) = w (8 * w 4 + k) := fun k hk => hcl _ k hk (by have := T_ct (w := w); omega) (fun e => by have h3 := hs.ct; rw [e] at h3; omega) (by have := hs.ct; omega)
  have hls : w 6 ≠ 0 → ∀ j, j < 8 → v (8 * w 6 + j) = w (8 * w 6 + j) := fun h6 j hj => hcl _ j hj (by have := T_list h6; omega) (fun e => by have h3 := hs.list h6; rw [e] at h3; omega) (by have := hs.list h6; omega)
  have hactw : ∀ k, k < 8 → k ≠ i → v (8 * w 3 + k) = w (8 * w 3 + k) := fun k hk hne => vO _ (by have := ne_fresh (X := w 3) hz T_act; omega) (by omega) (hs.nk (by rw [ix_div hk]; omega))
  have hLF : ∀ t i2 j, TB w t → i2 < 8 → j < 8 → w (8 * t + i2) / 4 ≠ 0 → v (8 * (w (8 * t + i2) / 4) + j) = w (8 * (w (8 * t + i2) / 4) + j) := fun t i2 j ht hi2 hj h0 => by
    have h3 := ((hs.tw ht hi2).lead h0).2.2.1
    exact hcl _ j hj (by have := T_leaf ht hi2 h0; omega) (fun e => by rw [e] at h3; omega) (by omega)
  have htabw : ∀ j i2, j < w 5 → i2 < 8 → v (8 * tab w j + i2) = w (8 * tab w j + i2) := fun j i2 hj hi2 => hcl _ i2 hi2 (by have := T_tab (tab_tb hj); omega) (fun e => by have h3 := hs.tab hj; rw [e] at h3; omega) (by have := hs.tab hj; have := hs.ns; omega)
  have etab : ∀ j, j < w 5 → tab v j = tab w j := fun j hj => by
    unfold tab
    rw [hH 6 (by decide)]
    have := hs.ns
    exact hls (this.2 (by omega)) _ (by omega)
  have htc : ∀ X j, j < w 5 → tc v X (tab w j) = tc w X (tab w j) := fun X j hj => tc_congr (fun i2 hi2 => by rw [htabw j i2 hj hi2]) (fun i2 hi2 h0 j2 hj2 => by rw [hLF _ i2 j2 (tab_tb hj) hi2 hj2 h0])
  have hT : ∀ X, T v X + ld (w (8 * w 3 + i)) X = T w X + iv c X := by
    intro X
    have e1 := TF (v := v) X (fun p _ hp => hH p (by omega)) hct etab (htc X)
    have e2 := tc_one (w := w) (v := v) (X := X) (t := w 3) hi8 (fun k hk hne => by
      rw [hactw k hk hne]
      exact lc_congr fun h0 j hj => by rw [hLF _ k j act_tb hk hj h0])
    have e3 : lc v X (v (8 * w 3 + i)) + ld (w (8 * w 3 + i)) X = lc w X (w (8 * w 3 + i)) + iv c X := by
      have e5 : (4 * c + f) / 4 = c := by omega
      rw [vA, lc_ld v X (4 * c + f), lc_ld w X]
      have e4 : ld (4 * c + f) X = iv c X := by
        unfold ld
        rw [e5, if_neg (by omega)]
      rw [e4, e5, if_neg (by omega)]
      by_cases h0 : w (8 * w 3 + i) / 4 = 0
      · rw [if_pos h0]
        have e6 : (sm 8 fun j => ld (v (8 * c + j)) X) = 0 := sm_zero fun j hj => by
          rw [vC j hj, if_pos h0]
          rfl
        rw [e6]
        omega
      · rw [if_neg h0]
        have e6 : (sm 8 fun j => ld (v (8 * c + j)) X) = sm 8 fun j => ld (w (8 * (w (8 * w 3 + i) / 4) + j)) X := sm_congr fun j hj => by
          rw [vC j hj, if_neg h0]
        rw [e6]
        omega
    omega
  have hge : ∀ X, ld (w (8 * w 3 + i)) X ≤ T w X := by
    intro X
    have h3 := T_tc (w := w) (X := X) act_tb
    have h4 := tc_lc (w := w) (t := w 3) (X := X) hi8
    rw [lc_ld] at h4
    omega
  refine ⟨Inv_mk hi ?_ hH hct hls ?_ ?_ vb, hT⟩
  · refine StrF hs (fun X hX => u_fresh hz hX) (fun p _ hp => hH p (by omega)) (fun k hk => Or.inl (hct k hk)) (fun h6 j hj => by have := hs.ns; exact hls h6 _ (by omega)) (fun t i2 ht hi2 => ?_) (fun t i2 j ht hi2 hj _ h0 => Or.inl (hLF t i2 j ht hi2 hj h0))
    rcases ht with rfl | ⟨j, hj, rfl⟩
    · by_cases e : i2 = i
      · subst e
        rw [vA]
        refine Or.inr (Or.inr ⟨by unfold LD; omega, by rw [hH 2 (by decide)]; exact hsz, by rw [show (4 * c + f) / 4 = c by omega, up_at], fun j hj => ?_⟩)
        rw [show (4 * c + f) / 4 = c by omega, vC j hj, hH 2 (by decide)]
        by_cases h0 : w (8 * w 3 + i2) / 4 = 0
        · rw [if_pos h0]; exact Or.inl rfl
        · rw [if_neg h0]
          exact (hs.bw act_tb hi2 hj h0).move fun hy => u_fresh hz (by have := T_blk act_tb hi2 hj h0 hy; omega)
      · exact Or.inl (hactw i2 hi2 e)
    · exact Or.inl (htabw j i2 hj hi2)
  · intro X hX
    have h3 := hT X
    split
    · next h0 =>
      have h4 := hi.noK hX h0
      have h5 : c ≠ X := fun e => by rw [e] at hkc; exact hkc h0
      rw [iv_ne h5] at h3
      omega
    · next h0 =>
      rw [vK X hX h0]
      omega
  · intro X hX h0 j hj
    have h3 := hT X
    have h4 : c ≠ X := fun e => by
      rw [e, iv_self] at h3
      rw [e] at hz
      have := ld_le (w (8 * w 3 + i)) X
      have h5 : ld (w (8 * w 3 + i)) X = 0 := by have := hge X; omega
      omega
    rw [iv_ne h4] at h3
    have h5 : T w X = 0 := by
      have h6 := ld_le (w (8 * w 3 + i)) X
      by_cases h7 : ld (w (8 * w 3 + i)) X = 0
      · omega
      · exfalso
        unfold ld at h7 h3
        split at h7
        · exact h7 rfl
        · next h8 =>
          have h9 := iv_pos h7
          rcases hx with hx | hx
          · exact h8 hx
          · rw [if_neg h8, h9, iv_self] at h3
            rw [h9] at hx
            omega
    have h6 := hi.2.2.1 X hX h5 j hj
    have hX3 : X ≠ w 3 := fun e => by have := T_act (w := w); rw [e] at h5; omega
    rw [vO _ (by omega) (by omega) ?_]
    · exact h6
    · rintro ⟨k, hk, hk0, e⟩
      rw [ix_div hj] at e
      have := T_keep hk hk0
      rw [← e] at this
      omega
end ST2
end
section
/-! ===== a block's word in the active table's own leaf; data ===== -/
section ST3
variable {w v u u' : Nat → Nat} {Q : Nat → Prop}
/-- clusters that no structure reads: free ones and blocks' -/
def QOK (w u : Nat → Nat) (Q : Nat → Prop) : Prop := ∀ X, Q X → 1 ≤ X ∧ (T w X = 0 ∨ 24 ≤ u X)
theorem blk_inv (hi : Inv w u) (hu : ∀ X, T w X ≠ 0 → u' X = u X) (hQ : QOK w u Q) {i j z : Nat} (hi8 : i < 8) (hj8 : j < 8) (hl : w (8 * w 3 + i) / 4 ≠ 0) (hown : T w (w (8 * w 3 + i) / 4) = 1)
    (hzb : BOK (w 2) u' i j z) (vB : v (8 * (w (8 * w 3 + i) / 4) + j) = z) (vO : ∀ p, ¬ Q (p / 8) → p ≠ 8 * (w (8 * w 3 + i) / 4) + j → ¬ kp w p → v p = w p)
    (vK : ∀ X, X < 64 → w (8 * w 4 + X / 8) ≠ 0 → v (cpl w X) = T w X + ld z X - ld (w (8 * (w (8 * w 3 + i) / 4) + j)) X)
    (vN : ∀ X, X < 64 → w (8 * w 4 + X / 8) = 0 → ld z X = 0)
    (vZ : ∀ X, X < 64 → T w X + ld z X = ld (w (8 * (w (8 * w 3 + i) / 4) + j)) X → ∀ k, k < 8 → v (8 * X + k) = 0) (vb : ∀ p, v p < 4294967296) :
    Inv v u' ∧ ∀ X, T v X + ld (w (8 * (w (8 * w 3 + i) / 4) + j)) X = T w X + ld z X := by
  have hs := hi.1
  have hact := hs.act
  have hlL := (hs.tw act_tb hi8).lead hl
  have hlp := hlL.1.pos
  have hH : ∀ p, p < 8 → v p = w p := fun p hp => vO p (fun h => by have := (hQ _ h).1; omega) (by omega) (nk0 hp)
  have hcl : ∀ X k, k < 8 → T w X ≠ 0 → X ≠ w (8 * w 3 + i) / 4 → u X < 16 → v (8 * X + k) = w (8 * X + k) := by
    intro X k hk hX hX3 hu2
    refine vO _ (fun h => ?_) (by omega) (hs.nk (by rw [ix_div hk]; omega))
    rw [ix_div hk] at h
    have := (hQ _ h).2
    omega
  have hct : ∀ k, k < 8 → v (8 * w 4 + k) = w (8 * w 4 + k) := fun k hk => hcl _ k hk (by have := T_ct (w := w); omega) (fun e => by have h3 := hs.ct; rw [e] at h3; omega) (by have := hs.ct; omega)
  have hls : w 6 ≠ 0 → ∀ k, k < 8 → v (8 * w 6 + k) = w (8 * w 6 + k) := fun h6 k hk => hcl _ k hk (by have := T_list h6; omega) (fun e => by have h3 := hs.list h6; rw [e] at h3; omega) (by have := hs.list h6; omega)
  have htw : ∀ t i2, TB w t → i2 < 8 → v (8 * t + i2) = w (8 * t + i2) := fun t i2 ht hi2 => by
    have h3 := (hs.tb ht).2.2
    exact hcl _ i2 hi2 (by have := T_tab ht; omega) (fun e => by rw [e] at h3; omega) (by omega)
  have hLF : ∀ t i2 j2, TB w t → i2 < 8 → j2 < 8 → w (8 * t + i2) / 4 ≠ 0 → w (8 * t + i2) / 4 ≠ w (8 * w 3 + i) / 4 → v (8 * (w (8 * t + i2) / 4) + j2) = w (8 * (w (8 * t + i2) / 4) + j2) := fun t i2 j2 ht hi2 hj2 h0 hne => by
    have h3 := ((hs.tw ht hi2).lead h0).2.2.1
    exact hcl _ j2 hj2 (by have := T_leaf ht hi2 h0; omega) hne (by omega)
  have hLo : ∀ j2, j2 < 8 → j2 ≠ j → v (8 * (w (8 * w 3 + i) / 4) + j2) = w (8 * (w (8 * w 3 + i) / 4) + j2) := fun j2 hj2 hne => by
    refine vO _ (fun h => ?_) (by omega) (hs.nk (by rw [ix_div hj2]; omega))
    rw [ix_div hj2] at h
    have := (hQ _ h).2
    have := hlL.2.2.1
    omega
  have hai : ∀ i2, i2 < 8 → i2 ≠ i → w (8 * w 3 + i2) / 4 ≠ 0 → w (8 * w 3 + i2) / 4 ≠ w (8 * w 3 + i) / 4 := fun i2 hi2 hne h0 e => by
    have h3 := ((hs.tw act_tb hi2).lead h0).2.2.1
    rw [e] at h3
    have := hlL.2.2.1
    omega
  have etab : ∀ k, k < w 5 → tab v k = tab w k := fun k hk => by
    unfold tab
    rw [hH 6 (by decide)]
    have := hs.ns
    exact hls (this.2 (by omega)) _ (by omega)
  have htc : ∀ X k, k < w 5 → tc v X (tab w k) = tc w X (tab w k) := fun X k hk => tc_congr (fun i2 hi2 => by rw [htw _ i2 (tab_tb hk) hi2]) (fun i2 hi2 h0 j2 hj2 => by rw [hLF _ i2 j2 (tab_tb hk) hi2 hj2 h0 (own_leaf hs hi8 hl hown hk hi2 h0)])
  have hT : ∀ X, T v X + ld (w (8 * (w (8 * w 3 + i) / 4) + j)) X = T w X + ld z X := by
    intro X
    have e1 := TF (v := v) X (fun p _ hp => hH p (by omega)) hct etab (htc X)
    have e2 := tc_one (w := w) (v := v) (X := X) (t := w 3) hi8 (fun k hk hne => by
      rw [htw _ k act_tb hk]
      exact lc_congr fun h0 j2 hj2 => by rw [hLF _ k j2 act_tb hk hj2 h0 (hai k hk hne h0)])
    have e3 : lc v X (v (8 * w 3 + i)) + ld (w (8 * (w (8 * w 3 + i) / 4) + j)) X = lc w X (w (8 * w 3 + i)) + ld z X := by
      rw [htw _ i act_tb hi8, lc_ld v X, lc_ld w X, if_neg hl, if_neg hl]
      have e4 := sm_one (n := 8) (i := j) (f := fun k => ld (v (8 * (w (8 * w 3 + i) / 4) + k)) X) (g := fun k => ld (w (8 * (w (8 * w 3 + i) / 4) + k)) X) hj8 (fun k hk hne => by
        show ld (v _) X = ld (w _) X
        rw [hLo k hk hne])
      rw [vB] at e4
      omega
    omega
  refine ⟨Inv_mk hi ?_ hH hct hls ?_ ?_ vb, hT⟩
  · refine StrF hs hu (fun p _ hp => hH p (by omega)) (fun k hk => Or.inl (hct k hk)) (fun h6 k hk => by have := hs.ns; exact hls h6 _ (by omega)) (fun t i2 ht hi2 => Or.inl (htw t i2 ht hi2)) (fun t i2 j2 ht hi2 hj2 _ h0 => ?_)
    by_cases e : w (8 * t + i2) / 4 = w (8 * w 3 + i) / 4
    · have h3 := ((hs.tw ht hi2).lead h0).2.2.1
      rw [e] at h3 ⊢
      have h4 : i2 = i := by have := hlL.2.2.1; omega
      by_cases e2 : j2 = j
      · rw [e2, vB, h4]
        exact Or.inr hzb
      · exact Or.inl (hLo j2 hj2 e2)
    · exact Or.inl (hLF t i2 j2 ht hi2 hj2 h0 e)
  · intro X hX
    have h3 := hT X
    split
    · next h0 =>
      have h4 := hi.noK hX h0
      have h5 := vN X hX h0
      omega
    · next h0 =>
      rw [vK X hX h0]
      omega
  · intro X hX h0 k hk
    exact vZ X hX (by have := hT X; omega) k hk
/-- the active table's block gets a free cluster -/
theorem clus_inv (hi : Inv w u) {c i j f : Nat} (h1 : 1 ≤ c) (h2 : c < 64) (hz : T w c = 0) (hkc : w (8 * w 4 + c / 8) ≠ 0) (hi8 : i < 8) (hj8 : j < 8) (hsz : 8 * i + j < w 2) (hf : f ≤ 1) (hl : w (8 * w 3 + i) / 4 ≠ 0) (hown : T w (w (8 * w 3 + i) / 4) = 1)
    (hy : w (8 * (w (8 * w 3 + i) / 4) + j) / 4 = 0 ∨ 2 ≤ T w (w (8 * (w (8 * w 3 + i) / 4) + j) / 4))
    (vB : v (8 * (w (8 * w 3 + i) / 4) + j) = 4 * c + f)
    (vK : ∀ X, X < 64 → w (8 * w 4 + X / 8) ≠ 0 → v (cpl w X) = T w X + iv c X - ld (w (8 * (w (8 * w 3 + i) / 4) + j)) X)
    (vO : ∀ p, p / 8 ≠ c → p ≠ 8 * (w (8 * w 3 + i) / 4) + j → ¬ kp w p → v p = w p) (vb : ∀ p, v p < 4294967296) :
    Inv v (up u c (24 + (8 * i + j))) ∧ ∀ X, T v X + ld (w (8 * (w (8 * w 3 + i) / 4) + j)) X = T w X + iv c X := by
  have e5 : (4 * c + f) / 4 = c := by omega
  have e4 : ∀ X, ld (4 * c + f) X = iv c X := fun X => by
    unfold ld
    rw [e5, if_neg (by omega)]
  have hge : ∀ X, ld (w (8 * (w (8 * w 3 + i) / 4) + j)) X ≤ T w X := by
    intro X
    have h3 := T_tc (w := w) (X := X) act_tb
    have h4 := tc_lc (w := w) (t := w 3) (X := X) hi8
    rw [lc_ld, if_neg hl] at h4
    have h5 := sm_ge (n := 8) (f := fun j => ld (w (8 * (w (8 * w 3 + i) / 4) + j)) X) hj8
    omega
  have h := blk_inv (v := v) (u' := up u c (24 + (8 * i + j))) (Q := fun X => X = c) hi (fun X hX => u_fresh hz hX) (fun X hX => by rw [hX]; exact ⟨h1, Or.inl hz⟩) hi8 hj8 hl hown
    (z := 4 * c + f) (Or.inr ⟨hsz, Or.inr ⟨by unfold LD; omega, by rw [e5, up_at]⟩⟩) vB vO (fun X hX h0 => by rw [vK X hX h0, e4]) (fun X hX h0 => by rw [e4, iv_ne (fun e => by rw [e] at hkc; exact hkc h0)]) (fun X hX h0 k hk => by
      rw [e4] at h0
      have h4 : c ≠ X := fun e => by
        rw [e, iv_self] at h0
        rw [e] at hz
        have h5 := hge X
        omega
      rw [iv_ne h4] at h0
      have h5 : T w X = 0 := by
        by_cases h7 : ld (w (8 * (w (8 * w 3 + i) / 4) + j)) X = 0
        · omega
        · exfalso
          have h10 := ld_le (w (8 * (w (8 * w 3 + i) / 4) + j)) X
          unfold ld at h7
          split at h7
          · exact h7 rfl
          · next h8 =>
            have h9 := iv_pos h7
            rcases hy with hy | hy
            · exact h8 hy
            · rw [h9] at hy
              omega
      have h6 := hi.2.2.1 X hX h5 k hk
      have hlne : X ≠ w (8 * w 3 + i) / 4 := fun e => by rw [← e] at hown; omega
      rw [vO _ (by rw [ix_div hk]; exact fun e => h4 e.symm) (by omega) ?_]
      · exact h6
      · rintro ⟨k2, hk2, hk0, e⟩
        rw [ix_div hk] at e
        have := T_keep hk2 hk0
        rw [← e] at this
        omega) vb
  exact ⟨h.1, fun X => by have := h.2 X; rw [e4] at this; exact this⟩
/-- the active table's block becomes zero -/
theorem zero_inv (hi : Inv w u) {i j : Nat} (hi8 : i < 8) (hj8 : j < 8) (hsz : 8 * i + j < w 2) (hl : w (8 * w 3 + i) / 4 ≠ 0) (hown : T w (w (8 * w 3 + i) / 4) = 1)
    (vB : v (8 * (w (8 * w 3 + i) / 4) + j) = 2)
    (vK : ∀ X, X < 64 → w (8 * w 4 + X / 8) ≠ 0 → v (cpl w X) = T w X - ld (w (8 * (w (8 * w 3 + i) / 4) + j)) X)
    (vO : ∀ p, ¬ (w (8 * (w (8 * w 3 + i) / 4) + j) / 4 ≠ 0 ∧ p / 8 = w (8 * (w (8 * w 3 + i) / 4) + j) / 4 ∧ T w (w (8 * (w (8 * w 3 + i) / 4) + j) / 4) = 1) → p ≠ 8 * (w (8 * w 3 + i) / 4) + j → ¬ kp w p → v p = w p)
    (vZ : w (8 * (w (8 * w 3 + i) / 4) + j) / 4 ≠ 0 → T w (w (8 * (w (8 * w 3 + i) / 4) + j) / 4) = 1 → ∀ k, k < 8 → v (8 * (w (8 * (w (8 * w 3 + i) / 4) + j) / 4) + k) = 0) (vb : ∀ p, v p < 4294967296) :
    Inv v u ∧ ∀ X, T v X + ld (w (8 * (w (8 * w 3 + i) / 4) + j)) X = T w X := by
  have hs := hi.1
  have hlL := (hs.tw act_tb hi8).lead hl
  have e4 : ∀ X, ld 2 X = 0 := fun X => rfl
  have h := blk_inv (v := v) (u' := u) (Q := fun X => w (8 * (w (8 * w 3 + i) / 4) + j) / 4 ≠ 0 ∧ X = w (8 * (w (8 * w 3 + i) / 4) + j) / 4 ∧ T w (w (8 * (w (8 * w 3 + i) / 4) + j) / 4) = 1) hi (fun X hX => rfl) (fun X hX => by
      have h3 := (hlL.2.2.2 j hj8).lead hX.1
      have h4 := h3.1.pos
      rw [hX.2.1]
      exact ⟨h4.1, Or.inr (by omega)⟩) hi8 hj8 hl hown
    (z := 2) (Or.inr ⟨hsz, Or.inl rfl⟩) vB vO (fun X hX h0 => by rw [vK X hX h0, e4, Nat.add_zero]) (fun X hX h0 => rfl) (fun X hX h0 k hk => by
      rw [e4, Nat.add_zero] at h0
      by_cases h7 : ld (w (8 * (w (8 * w 3 + i) / 4) + j)) X = 0
      · have h5 : T w X = 0 := by omega
        have h6 := hi.2.2.1 X hX h5 k hk
        have hlne : X ≠ w (8 * w 3 + i) / 4 := fun e => by rw [← e] at hown; omega
        rw [vO _ ?_ (by omega) ?_]
        · exact h6
        · rw [ix_div hk]
          rintro ⟨-, e, h8⟩
          rw [← e] at h8
          omega
        · rintro ⟨k2, hk2, hk0, e⟩
          rw [ix_div hk] at e
          have := T_keep hk2 hk0
          rw [← e] at this
          omega
      · have h10 := ld_le (w (8 * (w (8 * w 3 + i) / 4) + j)) X
        have h11 := h7
        unfold ld at h7
        split at h7
        · exact absurd rfl h7
        · next h8 =>
          have h9 := iv_pos h7
          rw [← h9]
          exact vZ h8 (by rw [h9]; omega) k hk) vb
  exact ⟨h.1, fun X => by have := h.2 X; rw [e4] at this; omega⟩
/-- words of a block's cluster may be any -/
theorem data_inv (hi : Inv w u) {c : Nat} (h1 : 1 ≤ c) (hu : 24 ≤ u c) (hT : T w c ≠ 0) (vO : ∀ p, p / 8 ≠ c → v p = w p) (vb : ∀ p, v p < 4294967296) : Inv v u ∧ ∀ X, T v X = T w X := by
  have hs := hi.1
  have hcl : ∀ X k, k < 8 → u X < 24 → v (8 * X + k) = w (8 * X + k) := fun X k hk hX => vO _ (by rw [ix_div hk]; intro e; rw [e] at hX; omega)
  have hH : ∀ p, p < 8 → v p = w p := fun p hp => vO p (by omega)
  have hct : ∀ k, k < 8 → v (8 * w 4 + k) = w (8 * w 4 + k) := fun k hk => hcl _ k hk (by have := hs.ct; omega)
  have hls : w 6 ≠ 0 → ∀ k, k < 8 → v (8 * w 6 + k) = w (8 * w 6 + k) := fun h6 k hk => hcl _ k hk (by have := hs.list h6; omega)
  have htw : ∀ t i2, TB w t → i2 < 8 → v (8 * t + i2) = w (8 * t + i2) := fun t i2 ht hi2 => hcl _ i2 hi2 (by have h3 := (hs.tb ht).2.2; omega)
  have hLF : ∀ t i2 j2, TB w t → i2 < 8 → j2 < 8 → w (8 * t + i2) / 4 ≠ 0 → v (8 * (w (8 * t + i2) / 4) + j2) = w (8 * (w (8 * t + i2) / 4) + j2) := fun t i2 j2 ht hi2 hj2 h0 => hcl _ j2 hj2 (by have h3 := ((hs.tw ht hi2).lead h0).2.2.1; omega)
  have etab : ∀ k, k < w 5 → tab v k = tab w k := fun k hk => by
    unfold tab
    rw [hH 6 (by decide)]
    have := hs.ns
    exact hls (this.2 (by omega)) _ (by omega)
  have htc : ∀ X t, TB w t → tc v X t = tc w X t := fun X t ht => tc_congr (fun i2 hi2 => by rw [htw _ i2 ht hi2]) (fun i2 hi2 h0 j2 hj2 => by rw [hLF _ i2 j2 ht hi2 hj2 h0])
  have hT2 : ∀ X, T v X = T w X := fun X => by
    have e1 := TF (v := v) X (fun p _ hp => hH p (by omega)) hct etab (fun j hj => htc X _ (tab_tb hj))
    rw [htc X _ act_tb] at e1
    omega
  refine ⟨Inv_mk hi ?_ hH hct hls ?_ ?_ vb, hT2⟩
  · exact StrF hs (fun X hX => rfl) (fun p _ hp => hH p (by omega)) (fun k hk => Or.inl (hct k hk)) (fun h6 k hk => by have := hs.ns; exact hls h6 _ (by omega)) (fun t i2 ht hi2 => Or.inl (htw t i2 ht hi2)) (fun t i2 j2 ht hi2 hj2 _ h0 => Or.inl (hLF t i2 j2 ht hi2 hj2 h0))
  · intro X hX
    rw [hT2 X]
    split
    · next h0 => exact (hi.noK hX h0).symm
    · next h0 =>
      rw [← hi.cntAt hX h0]
      unfold cpl
      have h3 := hs.keep (show X / 8 < 8 by omega) h0
      exact hcl _ _ (by omega) (by omega)
  · intro X hX h0 k hk
    rw [hT2 X] at h0
    rw [vO _ (by rw [ix_div hk]; intro e; rw [e] at h0; exact hT h0)]
    exact hi.2.2.1 X hX h0 k hk
end ST3
end
section
/-! ===== taking a cluster ===== -/
def lfn (w : Nat → Nat) : Nat → Nat → Nat
  | 0, c => c
  | n + 1, c => if 0 < cnt w c then lfn w n (c + 1) else c
def lf (w : Nat → Nat) : Nat := lfn w 62 1
def rm (w : Nat → Nat) : Nat := 64 - inUse w - noKeep w
/-- the file with a count cluster for the cluster that is taken, and that cluster -/
def tkW (w : Nat → Nat) : Nat → Nat := if w (8 * w 4 + lf w / 8) = 0 then addK w (lf w) else w
def tkC (w : Nat → Nat) : Nat := lf (tkW w)
theorem lfn_spec (w : Nat → Nat) : ∀ n c, c ≤ lfn w n c ∧ lfn w n c ≤ c + n ∧ (∀ x, c ≤ x → x < lfn w n c → 0 < cnt w x) ∧ (lfn w n c = c + n ∨ cnt w (lfn w n c) = 0) := by
  intro n
  induction n with
  | zero => intro c; exact ⟨Nat.le_refl _, Nat.le_refl _, fun x h1 h2 => by simp only [lfn] at h2; omega, Or.inl rfl⟩
  | succ n ih =>
    intro c
    rw [lfn]
    split
    · next h =>
      obtain ⟨h1, h2, h3, h4⟩ := ih (c + 1)
      refine ⟨by omega, by omega, fun x hx1 hx2 => ?_, ?_⟩
      · by_cases e : x = c
        · rw [e]; exact h
        · exact h3 x (by omega) hx2
      · rcases h4 with h4 | h4
        · exact Or.inl (by omega)
        · exact Or.inr h4
    · next h => exact ⟨Nat.le_refl _, by omega, fun x h1 h2 => by omega, Or.inr (by omega)⟩
theorem lf_LF (w : Nat → Nat) : LF w (lf w) := by
  obtain ⟨h1, h2, h3, h4⟩ := lfn_spec w 62 1
  exact ⟨h1, h2, h3, h4⟩
section TK
variable {d k : Nat} {h : xH} {w u : Nat → Nat}
theorem inUse_T (hi : Inv w u) : inUse w = sm 64 fun c => if 0 < T w c then 1 else 0 := sm_congr fun c hc => by rw [hi.2.1 c hc]
theorem T_zero (w : Nat → Nat) : 1 ≤ T w 0 := by
  unfold T
  have := iv_self 0
  omega
/-- where there is a free cluster, the least one is free -/
theorem lf_free (hi : Inv w u) (hr : inUse w < 64) : T w (lf w) = 0 := by
  obtain ⟨h1, h2, h3, h4⟩ := lf_LF w
  rcases h4 with h4 | h4
  · refine Classical.byContradiction fun h5 => ?_
    have h6 : inUse w = 64 := by
      unfold inUse
      have h7 : (sm 64 fun c => if 0 < cnt w c then 1 else 0) = sm 64 fun _ => 1 := sm_congr fun c hc => by
        rw [if_pos]
        by_cases e : c = 0
        · rw [e, hi.2.1 0 (by decide)]
          exact T_zero w
        · by_cases e2 : c = 63
          · rw [e2, hi.2.1 63 (by decide)]
            rw [h4] at h5
            omega
          · exact h3 c (by omega) (by omega)
      rw [h7, sm_const]
    omega
  · rw [← hi.2.1 _ (by omega)]
    exact h4
theorem rm_pos (hr : 1 ≤ rm w) : inUse w < 64 := by
  unfold rm at hr
  omega
theorem addK_rm (hi : Inv w u) {c : Nat} (h1 : 1 ≤ c) (h2 : c < 64) (hz : T w c = 0) (hk : w (8 * w 4 + c / 8) = 0) : rm (addK w c) = rm w := by
  obtain ⟨ha, hT, hO⟩ := addK_inv hi h1 h2 hz hk
  have e1 : inUse (addK w c) = inUse w + 1 := by
    rw [inUse_T ha, inUse_T hi]
    have h3 := sm_one (n := 64) (i := c) (f := fun X => if 0 < T (addK w c) X then 1 else 0) (g := fun X => if 0 < T w X then 1 else 0) h2 (fun X hX hne => by
      show (if 0 < T (addK w c) X then 1 else 0) = if 0 < T w X then 1 else 0
      rw [hT X, iv_ne (fun e => hne e.symm), Nat.add_zero])
    have e2 : (if 0 < T (addK w c) c then 1 else 0) = 1 := by rw [hT c, iv_self, if_pos (by omega)]
    have e3 : (if 0 < T w c then 1 else 0) = 0 := by rw [hz]; rfl
    simp only [e2, e3] at h3
    omega
  have e4 : noKeep (addK w c) + 1 = noKeep w := by
    unfold noKeep
    have hct := hi.1.ct
    have e5 : addK w c 4 = w 4 := hO 4 (by omega) (by omega)
    rw [e5]
    have hne := ne_fresh (w := w) hz T_ct
    have h3 := sm_one (n := 8) (i := c / 8) (f := fun k => if addK w c (8 * w 4 + k) = 0 then 1 else 0) (g := fun k => if w (8 * w 4 + k) = 0 then 1 else 0) (by omega) (fun k hk2 hne2 => by
      show (if addK w c (8 * w 4 + k) = 0 then 1 else 0) = if w (8 * w 4 + k) = 0 then 1 else 0
      rw [hO _ (by omega) (by omega)])
    have e6 : addK w c (8 * w 4 + c / 8) = c := by
      unfold addK
      rw [up_ne (by omega), up_at]
    have e7 : (if addK w c (8 * w 4 + c / 8) = 0 then 1 else 0) = 0 := by rw [e6, if_neg (by omega)]
    have e8 : (if w (8 * w 4 + c / 8) = 0 then 1 else 0) = 1 := by rw [hk]; rfl
    simp only [e7, e8] at h3
    omega
  unfold rm
  omega
/-- what a taking is -/
theorem tk_spec (hi : Inv w u) (hr : 1 ≤ rm w) : ∃ u1, Inv (tkW w) u1 ∧ (∀ X, T w X ≠ 0 → u1 X = u X) ∧ 1 ≤ tkC w ∧ tkC w < 64 ∧ T (tkW w) (tkC w) = 0 ∧ tkW w (8 * w 4 + tkC w / 8) ≠ 0 ∧ rm (tkW w) = rm w
    ∧ (∀ X, T w X ≠ 0 → T (tkW w) X = T w X) ∧ (∀ p, T w (p / 8) ≠ 0 → ¬ (p / 8 = w 4) → tkW w p = w p) ∧ (∀ p, p < 8 → tkW w p = w p) ∧ T w (tkC w) = 0 := by
  obtain ⟨h1, h2, h3, h4⟩ := lf_LF w
  have hz := lf_free hi (rm_pos hr)
  by_cases hk : w (8 * w 4 + lf w / 8) = 0
  · have e : tkW w = addK w (lf w) := if_pos hk
    obtain ⟨ha, hT, hO⟩ := addK_inv hi h1 (by omega) hz hk
    have hrm := addK_rm hi h1 (by omega) hz hk
    have hz2 := lf_free ha (rm_pos (by rw [hrm]; exact hr))
    obtain ⟨g1, g2, g3, g4⟩ := lf_LF (addK w (lf w))
    -- all of the group is free
    have hgrp : ∀ X, X < 64 → X / 8 = lf w / 8 → T w X = 0 := fun X hX e => hi.noK hX (by rw [e]; exact hk)
    have hc0 : lf w % 8 = 0 := by
      refine Classical.byContradiction fun h5 => ?_
      by_cases h6 : lf w < 8
      · have h7 := hgrp 0 (by decide) (by omega)
        have := T_zero w
        omega
      · have h7 := h3 (lf w - 1) (by omega) (by omega)
        rw [hi.2.1 _ (by omega), hgrp (lf w - 1) (by omega) (by omega)] at h7
        omega
    have hle : lf (addK w (lf w)) ≤ lf w + 1 := by
      refine Classical.byContradiction fun h5 => ?_
      have h6 := g3 (lf w + 1) (by omega) (by omega)
      rw [ha.2.1 _ (by omega), hT, hgrp (lf w + 1) (by omega) (by omega), iv_ne (by omega)] at h6
      omega
    have hge : lf w ≤ lf (addK w (lf w)) := by
      refine Classical.byContradiction fun h5 => ?_
      have h6 := h3 (lf (addK w (lf w))) g1 (by omega)
      rw [hi.2.1 _ (by omega)] at h6
      have h7 := hT (lf (addK w (lf w)))
      omega
    have hne : lf (addK w (lf w)) ≠ lf w := fun e2 => by
      have h7 := hT (lf (addK w (lf w)))
      rw [e2] at h7 hz2
      rw [iv_self] at h7
      omega
    have hC : tkC w = lf (addK w (lf w)) := by unfold tkC; rw [e]
    have hCe : lf (addK w (lf w)) = lf w + 1 := by omega
    have hzC : T w (tkC w) = 0 := by
      have h7 := hT (lf (addK w (lf w)))
      rw [hC]
      omega
    rw [hC, e] at *
    refine ⟨up u (lf w) (16 + lf w / 8), ha, fun X hX => u_fresh hz hX, by omega, by omega, hz2, ?_, hrm, fun X hX => ?_, fun p hp hp4 => ?_, fun p hp => ?_, hzC⟩
    · rw [hCe, show (lf w + 1) / 8 = lf w / 8 by omega]
      have hct := hi.1.ct
      have hne4 := ne_fresh (w := w) hz T_ct
      have e6 : addK w (lf w) (8 * w 4 + lf w / 8) = lf w := by
        unfold addK
        rw [up_ne (by omega), up_at]
      rw [e6]
      omega
    · rw [hT, iv_ne (fun e2 => by rw [← e2] at hX; exact hX hz), Nat.add_zero]
    · have := ne_fresh (X := p / 8) hz (by omega)
      exact hO p (by omega) this
    · have hct := hi.1.ct
      exact hO p (by omega) (by omega)
  · have e : tkW w = w := if_neg hk
    have hC : tkC w = lf w := by unfold tkC; rw [e]
    rw [hC, e]
    exact ⟨u, hi, fun _ _ => rfl, h1, by omega, hz, hk, rfl, fun _ _ => rfl, fun _ _ _ => rfl, fun _ _ => rfl, hz⟩
theorem c_take (hw : h (10, k) = E w) (hi : Inv w u) (hr : 1 ≤ rm w) : Cl (d + 3) MX0_take [vR (0, k)] h (some (vI (nI (tkC w)))) (hup h (10, k) (E (setc (tkW w) (tkC w) 1))) := by
  have hg := hi.cg
  obtain ⟨h1, h2, h3, h4⟩ := lf_LF w
  have hz := lf_free hi (rm_pos hr)
  obtain ⟨u1, ha, hu, hC1, hC2, hC3, hC4, hrm, hTT, hO, hH, -⟩ := tk_spec hi hr
  have hg1 := ha.cg
  have last : ∀ (h : xH) (o1 o2 : Option xV), h (10, k) = E (tkW w) → Rn (d + 3) MX0_take 45 [some (vR (0, k)), some (vI (nI (tkC w))), o2] [] h (some (vI (nI (tkC w)))) (hup h (10, k) (E (setc (tkW w) (tkC w) 1))) := by
    intro h o1 o2 hw
    have e0 : tkW w (8 * tkW w (8 * tkW w 4 + tkC w / 8) + tkC w % 8) = 0 := by
      have h5 := ha.cntAt (X := tkC w) hC2 (by rw [hH 4 (by decide)]; exact hC4)
      rw [hC3] at h5
      exact h5
    have hca := c_addToCount (d := d + 1) (dl := nI 1) (b := 1) hw hC2 hg1.1 (hg1.2.1 (tkC w / 8) (by omega)) (by rw [e0, nI_add]) (by decide)
    have ea : adc (tkW w) (tkC w) 1 = setc (tkW w) (tkC w) 1 := if_neg (by decide)
    rw [ea] at hca
    refine rnN 3 rfl ?_
    refine rnK rfl (hca) ?_
    refine rnN 1 rfl ?_
    exact rnR rfl
  refine rnN 1 rfl ?_
  refine rnK rfl (c_leastFree hw hg (lf_LF w)) ?_
  refine rnN 4 rfl ?_
  refine rnK rfl (c_hd hw (show 4 < 8 by decide)) ?_
  refine rnN 6 rfl ?_
  simp (disch := omega) only [nI_add, pk_mul, pk_sub, nd8, nd4, nsub8, nand63, nand7, nshr2, nI_clamp, E_at, hup_at, hup_hup]
  refine rnK rfl (c_at hw hg.1 (show lf w / 8 < 8 by omega)) ?_
  by_cases hk : w (8 * w 4 + lf w / 8) = 0
  · have e : tkW w = addK w (lf w) := if_pos hk
    have hC : tkC w = lf (addK w (lf w)) := by unfold tkC; rw [e]
    rw [hk]
    refine rnN 7 rfl ?_
    simp (disch := omega) only [nI_add, pk_mul, pk_sub, nd8, nd4, nsub8, nand63, nand7, nshr2, nI_clamp, E_at, hup_at, hup_hup]
    refine rnK rfl (c_put hw hg.1 (show lf w / 8 < 8 by omega)) ?_
    refine rnN 3 rfl ?_
    have hct := hi.1.ct
    have hne4 := ne_fresh (w := w) hz T_ct
    have q1 : up w (8 * w 4 + lf w / 8) (lf w) 4 = w 4 := up_ne (by omega)
    have q2 : up w (8 * w 4 + lf w / 8) (lf w) (8 * w 4 + lf w / 8) = lf w := up_at
    have q3 : up w (8 * w 4 + lf w / 8) (lf w) (8 * lf w + lf w % 8) = 0 := by
      rw [up_ne (by omega)]
      exact hi.2.2.1 (lf w) (by omega) hz (lf w % 8) (by omega)
    have hca := c_addToCount (d := d + 1) (h := hup h (10, k) (E (up w (8 * w 4 + lf w / 8) (lf w)))) (k := k) (w := up w (8 * w 4 + lf w / 8) (lf w)) (c := lf w) (dl := nI 1) (b := 1) hup_at (by omega) (by rw [q1]; exact hg.1) (by rw [q1, q2]; omega) (by rw [q1, q2, q3, nI_add]) (by decide)
    have ea : adc (up w (8 * w 4 + lf w / 8) (lf w)) (lf w) 1 = addK w (lf w) := by
      unfold adc setc addK
      rw [if_neg (by decide), q1, q2]
    rw [ea, hup_hup] at hca
    refine rnK rfl (hca) ?_
    refine rnN 1 rfl ?_
    refine rnK rfl (c_leastFree hup_at (by rw [← e]; exact hg1) (lf_LF (addK w (lf w)))) ?_
    refine rnN 1 rfl ?_
    have h9 := last (hup h (10, k) (E (addK w (lf w)))) none (some (vI (nI (w 4)))) (by rw [hup_at, e])
    rw [hup_hup, hC] at h9
    rw [hC]
    exact h9
  · have e : tkW w = w := if_neg hk
    have hC : tkC w = lf w := by unfold tkC; rw [e]
    have hqb := hg.2.1 (lf w / 8) (by omega)
    refine rnF (fun e2 => hk ((neq0 (by omega)).mp e2)) rfl ?_
    have h9 := last h none (some (vI (nI (w 4)))) (by rw [hw, e])
    rw [hC] at h9 ⊢
    exact h9
end TK
end
section
/-! ===== giveLeaf ===== -/
/-- a free cluster c becomes the active table's leaf i -/
def glF (w : Nat → Nat) (c i : Nat) : Nat → Nat :=
  let x := w (8 * w 3 + i)
  if x / 4 = 0 then up (setc w c 1) (8 * w 3 + i) (4 * c + 1)
  else setc (up (cpc (setc w c 1) (setc w c 1) (x / 4) c) (8 * w 3 + i) (4 * c + 1)) (x / 4) (T w (x / 4) - 1)
def gL (w : Nat → Nat) (b : Nat) : Nat → Nat := if ow w (w (8 * w 3 + b / 8)) = true then w else glF (tkW w) (tkC w) (b / 8)
section GL
variable {d k : Nat} {h : xH} {w u : Nat → Nat}
theorem cpl_eq {w : Nat → Nat} {X : Nat} : 8 * w (8 * w 4 + X / 8) + X % 8 = cpl w X := rfl
theorem setc_up (w : Nat → Nat) (c b : Nat) : setc w c b = up w (cpl w c) b := rfl
/-- a place of a count lies in a cluster of another use -/
theorem cpl_in (hs : Str w u) {X : Nat} (hX : X < 64) (h : w (8 * w 4 + X / 8) ≠ 0) : 16 ≤ u (cpl w X / 8) ∧ u (cpl w X / 8) < 24 ∧ T w (cpl w X / 8) ≠ 0 ∧ 8 ≤ cpl w X := by
  have h1 := hs.keep (show X / 8 < 8 by omega) h
  have h2 : cpl w X / 8 = w (8 * w 4 + X / 8) := by unfold cpl; omega
  have h3 := T_keep (show X / 8 < 8 by omega) h
  rw [h2]
  refine ⟨by omega, by omega, by omega, ?_⟩
  unfold cpl
  omega
theorem glF_words (hi : Inv w u) {c i : Nat} (h1 : 1 ≤ c) (h2 : c < 64) (hz : T w c = 0) (hkc : w (8 * w 4 + c / 8) ≠ 0) (hi8 : i < 8) (hx : w (8 * w 3 + i) / 4 = 0 ∨ 2 ≤ T w (w (8 * w 3 + i) / 4)) :
    (∀ j, j < 8 → glF w c i (8 * c + j) = if w (8 * w 3 + i) / 4 = 0 then 0 else w (8 * (w (8 * w 3 + i) / 4) + j)) ∧ glF w c i (8 * w 3 + i) = 4 * c + 1
    ∧ (∀ X, X < 64 → w (8 * w 4 + X / 8) ≠ 0 → glF w c i (cpl w X) = T w X + iv c X - ld (w (8 * w 3 + i)) X)
    ∧ (∀ p, p / 8 ≠ c → p ≠ 8 * w 3 + i → ¬ kp w p → glF w c i p = w p) ∧ ∀ p, glF w c i p < 4294967296 := by
  have hs := hi.1
  have hact := hs.act
  have hne3 := ne_fresh (w := w) hz T_act
  have hcc := cpl_in hs h2 hkc
  have hcne := ne_fresh (X := cpl w c / 8) hz (by omega)
  have hTb := hi.2.2.2.2
  have hle := T_le hs.ns.1
  have hzc : ∀ j, j < 8 → w (8 * c + j) = 0 := hi.2.2.1 c h2 hz
  -- places of counts are apart from the other places
  have hA : ∀ X, X < 64 → w (8 * w 4 + X / 8) ≠ 0 → cpl w X ≠ 8 * w 3 + i ∧ cpl w X / 8 ≠ c := by
    intro X hX h0
    have h3 := cpl_in hs hX h0
    refine ⟨fun e => ?_, ne_fresh hz (by omega)⟩
    rw [e, ix_div hi8] at h3
    omega
  by_cases hx0 : w (8 * w 3 + i) / 4 = 0
  · have eg : glF w c i = up (up w (cpl w c) 1) (8 * w 3 + i) (4 * c + 1) := by
      unfold glF
      rw [if_pos hx0, setc_up]
    rw [eg]
    refine ⟨fun j hj => ?_, up_at, fun X hX h0 => ?_, fun p hp1 hp2 hp3 => ?_, fun p => ?_⟩
    · rw [if_pos hx0, up_ne (by omega), up_ne (by omega)]
      exact hzc j hj
    · have h3 := hA X hX h0
      rw [up_ne h3.1]
      have e1 : ld (w (8 * w 3 + i)) X = 0 := if_pos hx0
      rw [e1]
      by_cases e : X = c
      · rw [e, up_at, hz, iv_self]
      · rw [up_ne (fun e2 => e (cpl_inj hs hX h2 h0 hkc e2)), hi.cntAt hX h0, iv_ne (fun e2 => e e2.symm)]
        rfl
    · rw [up_ne hp2, up_ne (fun e => hp3 (by rw [e]; exact cpl_kp h2 hkc))]
    · unfold up
      split
      · omega
      · split
        · omega
        · exact hTb p
  · have hx2 : 2 ≤ T w (w (8 * w 3 + i) / 4) := hx.resolve_left hx0
    have hlL := (hs.tw act_tb hi8).lead hx0
    have hlp := hlL.1.pos
    have hlne := ne_fresh (X := w (8 * w 3 + i) / 4) hz (by omega)
    have hkl : w (8 * w 4 + w (8 * w 3 + i) / 4 / 8) ≠ 0 := fun e => by
      have := hi.noK hlp.2 e
      omega
    have hlc := cpl_in hs hlp.2 hkl
    have hl3 := hA _ hlp.2 hkl
    -- the words before the last step
    obtain ⟨z, hzd⟩ : ∃ z, z = up (cpc (up w (cpl w c) 1) (up w (cpl w c) 1) (w (8 * w 3 + i) / 4) c) (8 * w 3 + i) (4 * c + 1) := ⟨_, rfl⟩
    have hzp : ∀ p, p ≠ 8 * w 3 + i → p / 8 ≠ c → p ≠ cpl w c → z p = w p := by
      intro p hp1 hp2 hp3
      rw [hzd, up_ne hp1]
      unfold cpc
      rw [if_neg hp2, up_ne hp3]
    have hz4 : z 4 = w 4 := hzp 4 (by omega) (by omega) (by omega)
    have hct := hs.ct
    have hne4 := ne_fresh (w := w) hz T_ct
    have hzk : ∀ k, k < 8 → z (8 * w 4 + k) = w (8 * w 4 + k) := by
      intro k hk
      refine hzp _ (fun e => ?_) (by omega) (fun e => ?_)
      · have e2 : w 4 = w 3 := by omega
        rw [e2] at hct
        omega
      · have e2 : cpl w c / 8 = w 4 := by omega
        rw [e2] at hcc
        omega
    have hzcpl : cpl z (w (8 * w 3 + i) / 4) = cpl w (w (8 * w 3 + i) / 4) := by
      unfold cpl
      rw [hz4, hzk _ (by omega)]
    have eg : glF w c i = up z (cpl w (w (8 * w 3 + i) / 4)) (T w (w (8 * w 3 + i) / 4) - 1) := by
      unfold glF
      simp only [if_neg hx0, setc_up]
      rw [← hzd, hzcpl]
    rw [eg]
    refine ⟨fun j hj => ?_, ?_, fun X hX h0 => ?_, fun p hp1 hp2 hp3 => ?_, fun p => ?_⟩
    · rw [if_neg hx0, up_ne (by omega), hzd, up_ne (by omega)]
      unfold cpc
      rw [if_pos (ix_div hj), ix_mod hj, up_ne (fun e => ?_)]
      have e2 : cpl w c / 8 = w (8 * w 3 + i) / 4 := by omega
      rw [e2] at hcc
      omega
    · rw [up_ne (fun e => hl3.1 e.symm), hzd, up_at]
    · have h3 := hA X hX h0
      by_cases e : X = w (8 * w 3 + i) / 4
      · have e1 : ld (w (8 * w 3 + i)) X = 1 := by
          unfold ld
          rw [if_neg hx0, ← e, iv_self]
        rw [e1, ← e, up_at, iv_ne (fun e2 => hlne (by rw [← e, e2]))]
        rfl
      · have e1 : ld (w (8 * w 3 + i)) X = 0 := by
          unfold ld
          rw [if_neg hx0, iv_ne (fun e2 => e e2.symm)]
        rw [e1, up_ne (fun e2 => e (cpl_inj hs hX hlp.2 h0 hkl e2))]
        by_cases e2 : X = c
        · have h9 := h3
          rw [e2] at h9
          rw [e2, hzd, up_ne h9.1]
          unfold cpc
          rw [if_neg h9.2, up_at, hz, iv_self]
        · rw [hzp _ h3.1 h3.2 (fun e4 => e2 (cpl_inj hs hX h2 h0 hkc e4)), hi.cntAt hX h0, iv_ne (fun e4 => e2 e4.symm)]
          rfl
    · rw [up_ne (fun e => hp3 (by rw [e]; exact cpl_kp hlp.2 hkl)), hzp p hp2 hp1 (fun e => hp3 (by rw [e]; exact cpl_kp h2 hkc))]
    · have h4 := hle (w (8 * w 3 + i) / 4)
      have hub : ∀ p, up w (cpl w c) 1 p < 4294967296 := fun p => by
        unfold up
        split
        · omega
        · exact hTb p
      have hzb : z p < 4294967296 := by
        rw [hzd, up]
        split
        · omega
        · unfold cpc
          split
          · exact hub _
          · exact hub _
      rw [up]
      split
      · omega
      · exact hzb
theorem rm_less {v : Nat → Nat} {u' : Nat → Nat} (hi : Inv w u) (hv : Inv v u') {c : Nat} (h2 : c < 64) (hz : T w c = 0) (hc : 1 ≤ T v c) (hT : ∀ X, X ≠ c → (0 < T v X ↔ 0 < T w X)) (h4 : v 4 = w 4) (hk : ∀ k, k < 8 → v (8 * w 4 + k) = w (8 * w 4 + k)) : rm v = rm w - 1 := by
  have e1 : inUse v = inUse w + 1 := by
    rw [inUse_T hv, inUse_T hi]
    have h3 := sm_one (n := 64) (i := c) (f := fun X => if 0 < T v X then 1 else 0) (g := fun X => if 0 < T w X then 1 else 0) h2 (fun X hX hne => by
      show (if 0 < T v X then 1 else 0) = if 0 < T w X then 1 else 0
      by_cases e : 0 < T w X
      · rw [if_pos e, if_pos ((hT X hne).mpr e)]
      · rw [if_neg e, if_neg (fun e2 => e ((hT X hne).mp e2))])
    have e2 : (if 0 < T v c then 1 else 0) = 1 := if_pos (by omega)
    have e3 : (if 0 < T w c then 1 else 0) = 0 := by rw [hz]; rfl
    simp only [e2, e3] at h3
    omega
  have e2 : noKeep v = noKeep w := by
    unfold noKeep
    rw [h4]
    exact sm_congr fun k hk8 => by rw [hk k hk8]
  unfold rm
  omega
/-- what a leaf of its own is -/
theorem gL_spec (hi : Inv w u) {b : Nat} (hb : b < w 2) (hr : nLeaf w b ≤ rm w) : ∃ u', Inv (gL w b) u' ∧ (∀ X, T w X ≠ 0 → u' X = u X) ∧ ow (gL w b) (gL w b (8 * gL w b 3 + b / 8)) = true ∧ rm w - nLeaf w b ≤ rm (gL w b) ∧ awd (gL w b) b = awd w b
    ∧ (∀ X, 24 ≤ u X → T w X ≠ 0 → T (gL w b) X = T w X) ∧ (∀ p, p < 8 → gL w b p = w p) ∧ (∀ p, 24 ≤ u (p / 8) → T w (p / 8) ≠ 0 → gL w b p = w p) := by
  have hs := hi.1
  have hb64 := hs.sz.2
  by_cases ho : ow w (w (8 * w 3 + b / 8)) = true
  · have e : gL w b = w := if_pos ho
    rw [e]
    have en : nLeaf w b = 0 := if_pos ho
    rw [en]
    exact ⟨u, hi, fun _ _ => rfl, ho, Nat.le_refl _, rfl, fun _ _ _ => rfl, fun _ _ => rfl, fun _ _ _ => rfl⟩
  · have e : gL w b = glF (tkW w) (tkC w) (b / 8) := if_neg ho
    have en : nLeaf w b = 1 := if_neg ho
    rw [en] at hr ⊢
    obtain ⟨u1, ha, hu, hC1, hC2, hC3, hC4, hrm, hTT, hO, hH, hC5⟩ := tk_spec hi hr
    have hi8 : b / 8 < 8 := by omega
    have hact := hs.act
    have hne3 := ne_fresh (w := w) hC5 T_act
    have hneq : w 3 ≠ w 4 := fun e2 => by have := hs.ct; rw [e2] at hact; omega
    have e3 := hH 3 (by decide)
    have e4 := hH 4 (by decide)
    have e2s := hH 2 (by decide)
    have exw : tkW w (8 * w 3 + b / 8) = w (8 * w 3 + b / 8) := hO _ (by rw [ix_div hi8]; have := T_act (w := w); omega) (by rw [ix_div hi8]; exact hneq)
    have hx : tkW w (8 * tkW w 3 + b / 8) / 4 = 0 ∨ 2 ≤ T (tkW w) (tkW w (8 * tkW w 3 + b / 8) / 4) := by
      rw [e3, exw]
      by_cases h0 : w (8 * w 3 + b / 8) / 4 = 0
      · exact Or.inl h0
      · right
        have h5 := T_leaf act_tb hi8 h0
        rw [hTT _ (by omega)]
        have h6 : ¬ T w (w (8 * w 3 + b / 8) / 4) = 1 := fun e5 => ho (decide_eq_true ⟨h0, e5⟩)
        omega
    obtain ⟨vC, vA, vK, vO, vb⟩ := glF_words ha hC1 hC2 hC3 (by rw [e4]; exact hC4) hi8 hx
    obtain ⟨hV, hT⟩ := leaf_inv ha hC1 hC2 hC3 (by rw [e4]; exact hC4) hi8 (by rw [e2s]; omega) (Nat.le_refl 1) hx vC vA vK vO vb
    rw [e]
    rw [e3] at vA
    rw [e3, exw] at vC hT
    have hH2 : ∀ p, p < 8 → glF (tkW w) (tkC w) (b / 8) p = w p := fun p hp => by
      rw [vO p (by omega) (by rw [e3]; omega) (nk0 hp)]
      exact hH p hp
    have hg3 := hH2 3 (by decide)
    have hTc : T (glF (tkW w) (tkC w) (b / 8)) (tkC w) = 1 := by
      have h5 := hT (tkC w)
      have h6 : ld (w (8 * w 3 + b / 8)) (tkC w) = 0 := by
        unfold ld
        split
        · rfl
        · next h0 => exact iv_ne (ne_fresh hC5 (T_leaf act_tb hi8 h0))
      rw [h6, hC3, iv_self] at h5
      omega
    refine ⟨_, hV, fun X hX => ?_, ?_, ?_, ?_, fun X hX1 hX2 => ?_, hH2, fun p hp1 hp2 => ?_⟩
    · rw [up_ne (ne_fresh hC5 (by omega)), hu X hX]
    · rw [hg3, vA]
      refine decide_eq_true ⟨by omega, ?_⟩
      rw [show (4 * tkC w + 1) / 4 = tkC w by omega]
      exact hTc
    · have h5 := rm_less ha hV hC2 hC3 (by omega) (fun X hX => ?_) (by rw [hH2 4 (by decide), e4]) (fun k hk => ?_)
      · rw [h5, hrm]
        exact Nat.le_refl _
      · have h6 := hT X
        rw [iv_ne (fun e5 => hX e5.symm)] at h6
        have h7 := ld_le (w (8 * w 3 + b / 8)) X
        by_cases h8 : ld (w (8 * w 3 + b / 8)) X = 0
        · omega
        · have h9 := h8
          unfold ld at h8
          split at h8
          · exact absurd rfl h8
          · next h0 =>
            have h10 := iv_pos h8
            rw [e3, exw] at hx
            have h11 := hx.resolve_left h0
            rw [h10] at h11
            omega
      · have hct := ha.1.ct
        have hne4 := ne_fresh (w := tkW w) hC3 T_ct
        exact vO _ (by rw [ix_div hk]; exact hne4) (fun e5 => by
          have e6 : tkW w 4 = tkW w 3 := by omega
          rw [e4, e3] at e6
          exact hneq e6.symm) (ha.1.nk (by rw [ix_div hk]; omega))
    · show awd _ b = awd w b
      unfold awd
      rw [hg3]
      unfold bwd
      rw [vA, if_neg (by omega), show (4 * tkC w + 1) / 4 = tkC w by omega, vC _ (by omega)]
      split
      · rfl
      · next h0 =>
        have h5 := ((hs.tw act_tb hi8).lead h0).2.2.1
        have h6 := T_leaf act_tb hi8 h0
        exact hO _ (by rw [ix_div (by omega)]; omega) (fun e5 => by rw [ix_div (by omega)] at e5; have := hs.ct; rw [e5] at h5; omega)
    · have h5 := hT X
      have h6 : ld (w (8 * w 3 + b / 8)) X = 0 := by
        unfold ld
        split
        · rfl
        · next h0 =>
          refine iv_ne (fun e5 => ?_)
          have h7 := ((hs.tw act_tb hi8).lead h0).2.2.1
          rw [e5] at h7
          omega
      rw [h6, iv_ne (fun e5 => ne_fresh hC5 (show 1 ≤ T w X by omega) e5.symm), hTT X hX2] at h5
      omega
    · have h5 : u1 (p / 8) = u (p / 8) := hu _ hp2
      have h6 : p / 8 ≠ w 3 := fun e5 => by rw [e5] at hp1; omega
      rw [vO p (ne_fresh hC5 (by omega)) (by rw [e3]; omega) (ha.1.nk (by omega))]
      exact hO p hp2 (fun e5 => by have := hs.ct; rw [e5] at hp1; omega)
theorem c_release0 {x : Nat} (hx : x ≤ 2) : Cl (d + 2) MX1_release [vR (1, k), vI (nI x)] h none h := by
  refine rnN 1 rfl ?_
  refine rnK rfl (c_isLead (show x < 2147483648 by omega)) ?_
  rw [if_neg (by omega)]
  refine rnN 1 rfl ?_
  exact rnR rfl
theorem c_release {x b : Nat} (hw : h (10, k) = E w) (hx : x < 256) (h2 : 2 < x) (h4 : w 4 < 64) (hq : w (8 * w 4 + x / 4 / 8) < 64) (hd : w (8 * w (8 * w 4 + x / 4 / 8) + x / 4 % 8) = b + 1) (hb : b < 1000) : Cl (d + 2) MX1_release [vR (1, k), vI (nI x)] h none (hup h (10, k) (E (adc w (x / 4) b))) := by
  refine rnN 1 rfl ?_
  refine rnK rfl (c_isLead (show x < 2147483648 by omega)) ?_
  rw [if_pos h2]
  refine rnN 4 rfl ?_
  refine rnK rfl (c_clusterOf (show x < 2147483648 by omega)) ?_
  refine rnN 1 rfl ?_
  refine rnK rfl (c_addToCount (b := b) hw (show x / 4 < 64 by omega) h4 hq (by rw [hd]; exact pk_m1 b) hb) ?_
  exact rnR rfl
end GL
end
section
/-! ===== giveLeaf's contract; giveCluster, makeZero ===== -/
section G2
variable {d k : Nat} {h : xH} {w u : Nat → Nat}
theorem setc_at {c b p : Nat} (hp : p ≠ cpl w c) : setc w c b p = w p := up_ne hp
theorem c_putActiveWord {b x : Nat} (hw : h (10, k) = E w) (h3 : w 3 < 64) (hb : b < 64) (hx : w (8 * w 3 + b / 8) < 256) : Cl (d + 3) MX1_putActiveWord [vR (1, k), vI (nI b), vI (nI x)] h none (hup h (10, k) (E (up w (8 * (w (8 * w 3 + b / 8) / 4) + b % 8) x))) := by
  refine rnN 4 rfl ?_
  refine rnK rfl (c_leafLead hw h3 hb) ?_
  refine rnK rfl (c_clusterOf (show w (8 * w 3 + b / 8) < 2147483648 by omega)) ?_
  refine rnN 4 rfl ?_
  simp (disch := omega) only [nI_add, pk_mul, pk_sub, nd8, nd4, nsub8, nand63, nand7, nshr2, nI_clamp, E_at, hup_at, hup_hup]
  refine rnK rfl (c_put hw (show w (8 * w 3 + b / 8) / 4 < 64 by omega) (show b % 8 < 8 by omega)) ?_
  exact rnR rfl
theorem c_giveLeaf {b : Nat} (hw : h (10, k) = E w) (hi : Inv w u) (hb : b < w 2) (hr : nLeaf w b ≤ rm w) : Cl (d + 4) MX1_giveLeaf [vR (1, k), vI (nI b)] h none (hup h (10, k) (E (gL w b))) := by
  have hs := hi.1
  have hb64 := hs.sz.2
  have hxL := hs.tw act_tb (show b / 8 < 8 by omega)
  have hxl := hxL.lt
  refine rnN 2 rfl ?_
  refine rnK rfl (c_leafLead hw hs.act.2.1 (show b < 64 by omega)) ?_
  refine rnN 3 rfl ?_
  refine rnK rfl (c_isOwn hw hi hxl hxL.isLead) ?_
  by_cases ho : ow w (w (8 * w 3 + b / 8)) = true
  · have e : gL w b = w := if_pos ho
    rw [if_pos ho, e, hup_self hw]
    refine rnN 1 rfl ?_
    exact rnR rfl
  · have e : gL w b = glF (tkW w) (tkC w) (b / 8) := if_neg ho
    have en : nLeaf w b = 1 := if_neg ho
    rw [en] at hr
    rw [if_neg ho]
    obtain ⟨u1, ha, hu, hC1, hC2, hC3, hC4, hrm, hTT, hO, hH, hC5⟩ := tk_spec hi hr
    have hi8 : b / 8 < 8 := by omega
    have hact := hs.act
    have hne3 := ne_fresh (w := w) hC5 T_act
    have hneq : w 3 ≠ w 4 := fun e2 => by have := hs.ct; rw [e2] at hact; omega
    have e3 := hH 3 (by decide)
    have e4 := hH 4 (by decide)
    have hkc : tkW w (8 * tkW w 4 + tkC w / 8) ≠ 0 := by rw [e4]; exact hC4
    have hcc := cpl_in ha.1 hC2 hkc
    have hcne := ne_fresh (X := cpl (tkW w) (tkC w) / 8) hC3 (by omega)
    have exw : tkW w (8 * w 3 + b / 8) = w (8 * w 3 + b / 8) := hO _ (by rw [ix_div hi8]; have := T_act (w := w); omega) (by rw [ix_div hi8]; exact hneq)
    have hu3 : u1 (w 3) = 1 := by rw [hu _ (by have := T_act (w := w); omega)]; exact hact.2.2
    refine rnN 1 rfl ?_
    refine rnN 2 rfl ?_
    refine rnK rfl (c_take hw hi hr) ?_
    refine rnN 2 rfl ?_
    refine rnK rfl (c_isLead (show w (8 * w 3 + b / 8) < 2147483648 by omega)) ?_
    have hs3 : setc (tkW w) (tkC w) 1 3 = w 3 := by rw [setc_at (by omega), e3]
    by_cases hx0 : w (8 * w 3 + b / 8) / 4 = 0
    · have hx2 : ¬ 2 < w (8 * w 3 + b / 8) := fun e2 => hxL.isLead.mp e2 hx0
      have eg : gL w b = up (setc (tkW w) (tkC w) 1) (8 * w 3 + b / 8) (4 * tkC w + 1) := by
        rw [e]
        unfold glF
        simp only [e3, exw, if_pos hx0]
      rw [if_neg hx2, eg]
      refine rnN 1 rfl ?_
      refine rnN 3 rfl ?_
      refine rnK rfl (c_activeTable hup_at) ?_
      rw [hs3]
      refine rnN 5 rfl ?_
      simp (disch := omega) only [nI_add, pk_mul, pk_sub, nd8, nd4, nsub8, nand63, nand7, nshr2, nI_clamp, E_at, hup_at, hup_hup]
      refine rnK rfl (c_leadTo (Nat.le_refl 1)) ?_
      refine rnK rfl (c_put hup_at hact.2.1 hi8) ?_
      refine rnN 2 rfl ?_
      simp (disch := omega) only [nI_add, pk_mul, pk_sub, nd8, nd4, nsub8, nand63, nand7, nshr2, nI_clamp, E_at, hup_at, hup_hup]
      refine rnK rfl (c_release0 (show w (8 * w 3 + b / 8) ≤ 2 by omega)) ?_
      exact rnR rfl
    · have hx2 : 2 < w (8 * w 3 + b / 8) := hxL.isLead.mpr hx0
      have hlL := hxL.lead hx0
      have hlp := hlL.1.pos
      have hT1 := T_leaf act_tb hi8 hx0
      have hT2 : ¬ T w (w (8 * w 3 + b / 8) / 4) = 1 := fun e5 => ho (decide_eq_true ⟨hx0, e5⟩)
      have hTe := hTT (w (8 * w 3 + b / 8) / 4) (by omega)
      have hlne := ne_fresh (X := w (8 * w 3 + b / 8) / 4) hC3 (by omega)
      have hTle := T_le hs.ns.1 (w (8 * w 3 + b / 8) / 4)
      obtain ⟨z, hzd⟩ : ∃ z, z = up (cpc (setc (tkW w) (tkC w) 1) (setc (tkW w) (tkC w) 1) (w (8 * w 3 + b / 8) / 4) (tkC w)) (8 * w 3 + b / 8) (4 * tkC w + 1) := ⟨_, rfl⟩
      have eg : gL w b = setc z (w (8 * w 3 + b / 8) / 4) (T w (w (8 * w 3 + b / 8) / 4) - 1) := by
        rw [e, hzd]
        unfold glF
        simp only [e3, exw, if_neg hx0, hTe]
      have hzp : ∀ p, p ≠ 8 * w 3 + b / 8 → p / 8 ≠ tkC w → p ≠ cpl (tkW w) (tkC w) → z p = tkW w p := by
        intro p hp1 hp2 hp3
        rw [hzd, up_ne hp1]
        unfold cpc
        rw [if_neg hp2, setc_at hp3]
      have hct := ha.1.ct
      have hne4 := ne_fresh (w := tkW w) hC3 T_ct
      have hz4 : z 4 = tkW w 4 := hzp 4 (by omega) (by omega) (by omega)
      have hkl : tkW w (8 * tkW w 4 + w (8 * w 3 + b / 8) / 4 / 8) ≠ 0 := fun e5 => by
        have := ha.noK hlp.2 e5
        omega
      have hlc := cpl_in ha.1 hlp.2 hkl
      have hzk : z (8 * tkW w 4 + w (8 * w 3 + b / 8) / 4 / 8) = tkW w (8 * tkW w 4 + w (8 * w 3 + b / 8) / 4 / 8) := by
        refine hzp _ (fun e5 => ?_) (by omega) (fun e5 => ?_)
        · have e6 : tkW w 4 = w 3 := by omega
          rw [e6] at hct
          omega
        · have e6 : cpl (tkW w) (tkC w) / 8 = tkW w 4 := by omega
          rw [e6] at hcc
          omega
      have hzc : z (cpl (tkW w) (w (8 * w 3 + b / 8) / 4)) = T w (w (8 * w 3 + b / 8) / 4) := by
        rw [hzp _ (fun e5 => ?_) (ne_fresh hC3 (by omega)) (fun e5 => hlne (cpl_inj ha.1 hlp.2 hC2 hkl hkc e5)), ha.cntAt hlp.2 hkl, hTe]
        rw [e5, ix_div hi8] at hlc
        omega
      rw [if_pos hx2, eg]
      refine rnN 1 rfl ?_
      refine rnN 5 rfl ?_
      refine rnK rfl (c_clusterOf (show w (8 * w 3 + b / 8) < 2147483648 by omega)) ?_
      refine rnN 1 rfl ?_
      refine rnK rfl (c_copySame hup_at hlp.2 hC2 hlne) ?_
      refine rnN 3 rfl ?_
      simp (disch := omega) only [nI_add, pk_mul, pk_sub, nd8, nd4, nsub8, nand63, nand7, nshr2, nI_clamp, E_at, hup_at, hup_hup]
      have hc3 : cpc (setc (tkW w) (tkC w) 1) (setc (tkW w) (tkC w) 1) (w (8 * w 3 + b / 8) / 4) (tkC w) 3 = w 3 := by
        unfold cpc
        rw [if_neg (by omega), hs3]
      refine rnK rfl (c_activeTable hup_at) ?_
      rw [hc3]
      refine rnN 5 rfl ?_
      simp (disch := omega) only [nI_add, pk_mul, pk_sub, nd8, nd4, nsub8, nand63, nand7, nshr2, nI_clamp, E_at, hup_at, hup_hup]
      refine rnK rfl (c_leadTo (Nat.le_refl 1)) ?_
      refine rnK rfl (c_put hup_at hact.2.1 hi8) ?_
      refine rnN 2 rfl ?_
      simp (disch := omega) only [nI_add, pk_mul, pk_sub, nd8, nd4, nsub8, nand63, nand7, nshr2, nI_clamp, E_at, hup_at, hup_hup]
      rw [← hzd]
      have hrel := c_release (d := d + 1) (k := k) (h := hup h (10, k) (E z)) (x := w (8 * w 3 + b / 8)) (b := T w (w (8 * w 3 + b / 8) / 4) - 1) hup_at hxl hx2 (by rw [hz4]; exact hct.2.1) (by rw [hz4, hzk]; exact ha.1.keepLt (by omega)) (by
        rw [hz4, hzk, cpl_eq, hzc]
        omega) (by omega)
      rw [hup_hup] at hrel
      have ea : adc z (w (8 * w 3 + b / 8) / 4) (T w (w (8 * w 3 + b / 8) / 4) - 1) = setc z (w (8 * w 3 + b / 8) / 4) (T w (w (8 * w 3 + b / 8) / 4) - 1) := if_neg (by omega)
      rw [ea] at hrel
      refine rnK rfl (hrel) ?_
      exact rnR rfl
/-- a free cluster c becomes the cluster of the active table's block, with words of its own -/
def gcF (w : Nat → Nat) (c i j : Nat) (dat : Nat → Nat) : Nat → Nat :=
  let l := w (8 * w 3 + i) / 4
  let y := w (8 * l + j)
  let z := up (fun p => if p / 8 = c then dat (p % 8) else setc w c 1 p) (8 * l + j) (4 * c + 1)
  if y / 4 = 0 then z else setc z (y / 4) (T w (y / 4) - 1)
def gC (w : Nat → Nat) (b : Nat) (dat : Nat → Nat) : Nat → Nat := if ow w (awd w b) = true then w else gcF (tkW w) (tkC w) (b / 8) (b % 8) dat
def gCc (w : Nat → Nat) (b : Nat) : Nat := if ow w (awd w b) = true then awd w b / 4 else tkC w
/-- a block of the active table's own leaf becomes zero -/
def mzF (w : Nat → Nat) (b : Nat) : Nat → Nat :=
  let l := w (8 * w 3 + b / 8) / 4
  let y := w (8 * l + b % 8)
  if y / 4 = 0 then up w (8 * l + b % 8) 2 else adc (up w (8 * l + b % 8) 2) (y / 4) (T w (y / 4) - 1)
theorem gcF_words (hi : Inv w u) {c i j : Nat} {dat : Nat → Nat} (h1 : 1 ≤ c) (h2 : c < 64) (hz : T w c = 0) (hkc : w (8 * w 4 + c / 8) ≠ 0) (hi8 : i < 8) (hj8 : j < 8) (hl : w (8 * w 3 + i) / 4 ≠ 0) (hd : ∀ j, dat j < 4294967296)
    (hy : w (8 * (w (8 * w 3 + i) / 4) + j) / 4 = 0 ∨ 2 ≤ T w (w (8 * (w (8 * w 3 + i) / 4) + j) / 4)) :
    gcF w c i j dat (8 * (w (8 * w 3 + i) / 4) + j) = 4 * c + 1
    ∧ (∀ X, X < 64 → w (8 * w 4 + X / 8) ≠ 0 → gcF w c i j dat (cpl w X) = T w X + iv c X - ld (w (8 * (w (8 * w 3 + i) / 4) + j)) X)
    ∧ (∀ p, p / 8 ≠ c → p ≠ 8 * (w (8 * w 3 + i) / 4) + j → ¬ kp w p → gcF w c i j dat p = w p) ∧ (∀ p, gcF w c i j dat p < 4294967296)
    ∧ ∀ k, k < 8 → gcF w c i j dat (8 * c + k) = dat k := by
  have hs := hi.1
  have hlL := (hs.tw act_tb hi8).lead hl
  have hlp := hlL.1.pos
  have hTl := T_leaf act_tb hi8 hl
  have hlne := ne_fresh (w := w) hz hTl
  have hcc := cpl_in hs h2 hkc
  have hTb := hi.2.2.2.2
  have hle := T_le hs.ns.1
  have hA : ∀ X, X < 64 → w (8 * w 4 + X / 8) ≠ 0 → cpl w X ≠ 8 * (w (8 * w 3 + i) / 4) + j ∧ cpl w X / 8 ≠ c := by
    intro X hX h0
    have h3 := cpl_in hs hX h0
    refine ⟨fun e => ?_, ne_fresh hz (by omega)⟩
    rw [e, ix_div hj8] at h3
    omega
  obtain ⟨z, hzd⟩ : ∃ z, z = up (fun p => if p / 8 = c then dat (p % 8) else setc w c 1 p) (8 * (w (8 * w 3 + i) / 4) + j) (4 * c + 1) := ⟨_, rfl⟩
  have hzp : ∀ p, p ≠ 8 * (w (8 * w 3 + i) / 4) + j → p / 8 ≠ c → p ≠ cpl w c → z p = w p := by
    intro p hp1 hp2 hp3
    rw [hzd, up_ne hp1, if_neg hp2, setc_at hp3]
  have hzc : z (cpl w c) = 1 := by
    have h3 := hA c h2 hkc
    rw [hzd, up_ne h3.1, if_neg h3.2, setc_up, up_at]
  have hzb : ∀ p, z p < 4294967296 := by
    intro p
    rw [hzd, up]
    split
    · omega
    · split
      · exact hd _
      · rw [setc_up, up]
        split
        · omega
        · exact hTb p
  have hzC : ∀ k, k < 8 → z (8 * c + k) = dat k := by
    intro k hk
    rw [hzd, up_ne (by omega), if_pos (ix_div hk), ix_mod hk]
  by_cases hy0 : w (8 * (w (8 * w 3 + i) / 4) + j) / 4 = 0
  · have eg : gcF w c i j dat = z := by
      unfold gcF
      simp only [if_pos hy0]
      exact hzd.symm
    rw [eg]
    refine ⟨by rw [hzd, up_at], fun X hX h0 => ?_, fun p hp1 hp2 hp3 => hzp p hp2 hp1 (fun e => hp3 (by rw [e]; exact cpl_kp h2 hkc)), hzb, hzC⟩
    have h3 := hA X hX h0
    have e1 : ld (w (8 * (w (8 * w 3 + i) / 4) + j)) X = 0 := if_pos hy0
    rw [e1]
    by_cases e : X = c
    · rw [e, hzc, hz, iv_self]
    · rw [hzp _ h3.1 h3.2 (fun e2 => e (cpl_inj hs hX h2 h0 hkc e2)), hi.cntAt hX h0, iv_ne (fun e2 => e e2.symm)]
      rfl
  · have hy2 := hy.resolve_left hy0
    have hyL := (hlL.2.2.2 j hj8).lead hy0
    have hyp := hyL.1.pos
    have hyne := ne_fresh (X := w (8 * (w (8 * w 3 + i) / 4) + j) / 4) hz (by omega)
    have hky : w (8 * w 4 + w (8 * (w (8 * w 3 + i) / 4) + j) / 4 / 8) ≠ 0 := fun e => by
      have := hi.noK hyp.2 e
      omega
    have hy3 := hA _ hyp.2 hky
    have hct := hs.ct
    have hne4 := ne_fresh (w := w) hz T_ct
    have hact := hs.act
    have hz4 : z 4 = w 4 := hzp 4 (by omega) (by omega) (by omega)
    have hzk : ∀ k, k < 8 → z (8 * w 4 + k) = w (8 * w 4 + k) := by
      intro k hk
      refine hzp _ (fun e => ?_) (by omega) (fun e => ?_)
      · have e2 : w 4 = w (8 * w 3 + i) / 4 := by omega
        rw [e2] at hct
        omega
      · have e2 : cpl w c / 8 = w 4 := by omega
        rw [e2] at hcc
        omega
    have hzcpl : cpl z (w (8 * (w (8 * w 3 + i) / 4) + j) / 4) = cpl w (w (8 * (w (8 * w 3 + i) / 4) + j) / 4) := by
      unfold cpl
      rw [hz4, hzk _ (by omega)]
    have eg : gcF w c i j dat = up z (cpl w (w (8 * (w (8 * w 3 + i) / 4) + j) / 4)) (T w (w (8 * (w (8 * w 3 + i) / 4) + j) / 4) - 1) := by
      unfold gcF
      simp only [if_neg hy0]
      rw [← hzd, setc_up, hzcpl]
    rw [eg]
    refine ⟨?_, fun X hX h0 => ?_, fun p hp1 hp2 hp3 => ?_, fun p => ?_, fun k hk => ?_⟩
    · rw [up_ne (fun e => hy3.1 e.symm), hzd, up_at]
    · have h3 := hA X hX h0
      by_cases e : X = w (8 * (w (8 * w 3 + i) / 4) + j) / 4
      · have e1 : ld (w (8 * (w (8 * w 3 + i) / 4) + j)) X = 1 := by
          unfold ld
          rw [if_neg hy0, ← e, iv_self]
        rw [e1, ← e, up_at, iv_ne (fun e2 => hyne (by rw [← e, e2]))]
        rfl
      · have e1 : ld (w (8 * (w (8 * w 3 + i) / 4) + j)) X = 0 := by
          unfold ld
          rw [if_neg hy0, iv_ne (fun e2 => e e2.symm)]
        rw [e1, up_ne (fun e2 => e (cpl_inj hs hX hyp.2 h0 hky e2))]
        by_cases e2 : X = c
        · rw [e2, hzc, hz, iv_self]
        · rw [hzp _ h3.1 h3.2 (fun e4 => e2 (cpl_inj hs hX h2 h0 hkc e4)), hi.cntAt hX h0, iv_ne (fun e4 => e2 e4.symm)]
          rfl
    · rw [up_ne (fun e => hp3 (by rw [e]; exact cpl_kp hyp.2 hky)), hzp p hp2 hp1 (fun e => hp3 (by rw [e]; exact cpl_kp h2 hkc))]
    · have h4 := hle (w (8 * (w (8 * w 3 + i) / 4) + j) / 4)
      rw [up]
      split
      · omega
      · exact hzb p
    · rw [up_ne (fun e => hy3.2 (by rw [← e]; exact ix_div hk))]
      exact hzC k hk
end G2
end
section
/-! ===== giveCluster, makeZero: what they keep, their contracts ===== -/
section G3
variable {d k : Nat} {h : xH} {w u : Nat → Nat} {W U : Nat → Nat → Nat}
theorem ow_iff {x : Nat} : ow w x = true ↔ x / 4 ≠ 0 ∧ T w (x / 4) = 1 := by
  unfold ow
  exact decide_eq_true_iff
theorem awd_own {b : Nat} (hl : w (8 * w 3 + b / 8) / 4 ≠ 0) : awd w b = w (8 * (w (8 * w 3 + b / 8) / 4) + b % 8) := by
  unfold awd bwd
  rw [if_neg hl]
/-- the facts of a taking that a leaf of its own is not touched by -/
theorem tk_leaf (hi : Inv w u) (hr : 1 ≤ rm w) {i : Nat} (hi8 : i < 8) (hl : w (8 * w 3 + i) / 4 ≠ 0) : tkW w (8 * w 3 + i) = w (8 * w 3 + i) ∧ ∀ j, j < 8 → tkW w (8 * (w (8 * w 3 + i) / 4) + j) = w (8 * (w (8 * w 3 + i) / 4) + j) := by
  obtain ⟨u1, ha, hu, hC1, hC2, hC3, hC4, hrm, hTT, hO, hH, hC5⟩ := tk_spec hi hr
  have hs := hi.1
  refine ⟨hO _ (by rw [ix_div hi8]; have := T_act (w := w); omega) (fun e => ?_), fun j hj => hO _ (by rw [ix_div hj]; have := T_leaf act_tb hi8 hl; omega) (fun e => ?_)⟩
  · rw [ix_div hi8] at e
    have h1 := hs.ct
    have h2 := hs.act
    rw [e] at h2
    omega
  · rw [ix_div hj] at e
    have h1 := hs.ct
    have h2 := ((hs.tw act_tb hi8).lead hl).2.2.1
    rw [e] at h2
    omega
theorem gC_spec (hi : Inv w u) {b : Nat} {dat : Nat → Nat} (hb : b < w 2) (ho : ow w (w (8 * w 3 + b / 8)) = true) (hr : nClus w b ≤ rm w) (hd : ∀ j, dat j < 4294967296) : ∃ u', Inv (gC w b dat) u' ∧ (∀ X, T w X ≠ 0 → u' X = u X) ∧ u' (gCc w b) = 24 + b ∧ 1 ≤ gCc w b ∧ gCc w b < 64 ∧ T (gC w b dat) (gCc w b) = 1
    ∧ awd (gC w b dat) b / 4 = gCc w b ∧ (∀ p, p < 8 → gC w b dat p = w p) ∧ (∀ i, i < 8 → gC w b dat (8 * w 3 + i) = w (8 * w 3 + i)) ∧ rm w - nClus w b ≤ rm (gC w b dat) := by
  have hs := hi.1
  have hb64 := hs.sz.2
  obtain ⟨hl, hown⟩ := ow_iff.mp ho
  have hi8 : b / 8 < 8 := by omega
  have hj8 : b % 8 < 8 := by omega
  have hlL := (hs.tw act_tb hi8).lead hl
  have eaw := awd_own (w := w) (b := b) hl
  have hB := hlL.2.2.2 (b % 8) hj8
  by_cases hoc : ow w (awd w b) = true
  · have e : gC w b dat = w := if_pos hoc
    have ec : gCc w b = awd w b / 4 := if_pos hoc
    have en : nClus w b = 0 := if_pos hoc
    obtain ⟨hy0, hy1⟩ := ow_iff.mp hoc
    rw [eaw] at hy0 hy1
    have hyL := hB.lead hy0
    have hyp := hyL.1.pos
    rw [e, ec, en, eaw]
    refine ⟨u, hi, fun _ _ => rfl, by rw [hyL.2.2]; omega, hyp.1, hyp.2, hy1, rfl, fun _ _ => rfl, fun _ _ => rfl, Nat.le_refl _⟩
  · have e : gC w b dat = gcF (tkW w) (tkC w) (b / 8) (b % 8) dat := if_neg hoc
    have ec : gCc w b = tkC w := if_neg hoc
    have en : nClus w b = 1 := if_neg hoc
    rw [en] at hr
    obtain ⟨u1, ha, hu, hC1, hC2, hC3, hC4, hrm, hTT, hO, hH, hC5⟩ := tk_spec hi hr
    obtain ⟨t1, t2⟩ := tk_leaf hi hr hi8 hl
    have e3 := hH 3 (by decide)
    have e4 := hH 4 (by decide)
    have hl1 : tkW w (8 * tkW w 3 + b / 8) / 4 ≠ 0 := by rw [e3, t1]; exact hl
    have hown1 : T (tkW w) (tkW w (8 * tkW w 3 + b / 8) / 4) = 1 := by rw [e3, t1, hTT _ (by omega)]; exact hown
    have hy : tkW w (8 * (tkW w (8 * tkW w 3 + b / 8) / 4) + b % 8) / 4 = 0 ∨ 2 ≤ T (tkW w) (tkW w (8 * (tkW w (8 * tkW w 3 + b / 8) / 4) + b % 8) / 4) := by
      rw [e3, t1, t2 _ hj8]
      by_cases hy0 : w (8 * (w (8 * w 3 + b / 8) / 4) + b % 8) / 4 = 0
      · exact Or.inl hy0
      · right
        have h5 := T_blk act_tb hi8 hj8 hl hy0
        rw [hTT _ (by omega)]
        have h6 : ¬ T w (w (8 * (w (8 * w 3 + b / 8) / 4) + b % 8) / 4) = 1 := fun e5 => hoc (ow_iff.mpr (by rw [eaw]; exact ⟨hy0, e5⟩))
        omega
    obtain ⟨vB, vK, vO, vb, vD⟩ := gcF_words (dat := dat) ha hC1 hC2 hC3 (by rw [e4]; exact hC4) hi8 hj8 hl1 hd hy
    obtain ⟨hV, hT⟩ := clus_inv ha hC1 hC2 hC3 (by rw [e4]; exact hC4) hi8 hj8 (by rw [hH 2 (by decide)]; omega) (Nat.le_refl 1) hl1 hown1 hy vB vK vO vb
    rw [e3, t1] at vB
    rw [e3, t1, t2 _ hj8] at hT
    have hlne := ne_fresh (X := w (8 * w 3 + b / 8) / 4) hC5 (by omega)
    have hlp := hlL.1.pos
    have hne3 := ne_fresh (w := w) hC5 T_act
    have hact := hs.act
    have hH2 : ∀ p, p < 8 → gcF (tkW w) (tkC w) (b / 8) (b % 8) dat p = w p := fun p hp => by
      rw [vO p (by omega) (by rw [e3, t1]; omega) (nk0 hp)]
      exact hH p hp
    have hA2 : ∀ i, i < 8 → gcF (tkW w) (tkC w) (b / 8) (b % 8) dat (8 * w 3 + i) = w (8 * w 3 + i) := fun i hi => by
      have h7 : w 3 ≠ w (8 * w 3 + b / 8) / 4 := fun e5 => by have := hlL.2.2.1; rw [← e5] at this; omega
      rw [vO _ (by rw [ix_div hi]; exact hne3) (by rw [e3, t1]; omega) (ha.1.nk (by rw [ix_div hi, hu _ (by have := T_act (w := w); omega)]; omega))]
      exact hO _ (by rw [ix_div hi]; have := T_act (w := w); omega) (fun e5 => by rw [ix_div hi] at e5; have h8 := hs.ct; rw [← e5] at h8; omega)
    have hTc : T (gcF (tkW w) (tkC w) (b / 8) (b % 8) dat) (tkC w) = 1 := by
      have h5 := hT (tkC w)
      have h6 : ld (w (8 * (w (8 * w 3 + b / 8) / 4) + b % 8)) (tkC w) = 0 := by
        unfold ld
        split
        · rfl
        · next h0 => exact iv_ne (ne_fresh hC5 (T_blk act_tb hi8 hj8 hl h0))
      rw [h6, hC3, iv_self] at h5
      omega
    rw [e, ec, en]
    refine ⟨_, hV, fun X hX => by rw [up_ne (ne_fresh hC5 (by omega)), hu X hX], by rw [up_at]; omega, hC1, hC2, hTc, ?_, hH2, hA2, ?_⟩
    · unfold awd bwd
      rw [hH2 3 (by decide), hA2 _ hi8, if_neg hl, vB]
      omega
    · have h5 := rm_less ha hV hC2 hC3 (by omega) (fun X hX => ?_) (by rw [hH2 4 (by decide), e4]) (fun k hk => ?_)
      · rw [h5, hrm]
        exact Nat.le_refl _
      · have h6 := hT X
        rw [iv_ne (fun e5 => hX e5.symm)] at h6
        have h7 := ld_le (w (8 * (w (8 * w 3 + b / 8) / 4) + b % 8)) X
        by_cases h8 : ld (w (8 * (w (8 * w 3 + b / 8) / 4) + b % 8)) X = 0
        · omega
        · have h9 := h8
          unfold ld at h8
          split at h8
          · exact absurd rfl h8
          · next h0 =>
            have h10 := iv_pos h8
            rw [e3, t1, t2 _ hj8] at hy
            have h11 := hy.resolve_left h0
            rw [h10] at h11
            omega
      · have hct := ha.1.ct
        have hne4 := ne_fresh (w := tkW w) hC3 T_ct
        have h7 : tkW w 4 ≠ w (8 * w 3 + b / 8) / 4 := fun e5 => by
          rw [e4] at e5
          have h8 := hlL.2.2.1
          rw [← e5] at h8
          have := hs.ct
          omega
        exact vO _ (by rw [ix_div hk]; exact hne4) (by rw [e3, t1]; omega) (ha.1.nk (by rw [ix_div hk]; omega))
/-- the structure is not touched by words of a free cluster and of count clusters -/
theorem Str_fresh (hi : Inv w u) {v : Nat → Nat} {c : Nat} (hc : 1 ≤ c) (hz : T w c = 0) (vO : ∀ p, p / 8 ≠ c → ¬ kp w p → v p = w p) : Str v u := by
  have hs := hi.1
  have hcl : ∀ X j, j < 8 → T w X ≠ 0 → (u X < 16 ∨ 24 ≤ u X) → v (8 * X + j) = w (8 * X + j) := fun X j hj hX hu => vO _ (by rw [ix_div hj]; exact ne_fresh hz (by omega)) (hs.nk (by rw [ix_div hj]; exact hu))
  refine StrF hs (fun X hX => rfl) (fun p _ hp => vO p (by omega) (nk0 (by omega))) (fun k hk => Or.inl (hcl _ k hk (by have := T_ct (w := w); omega) (by have := hs.ct; omega))) (fun h6 j hj => ?_) (fun t i ht hi8 => Or.inl ?_) (fun t i j ht hi8 hj8 _ h0 => Or.inl ?_)
  · have h5 := hs.ns
    exact hcl _ _ (by omega) (by have := T_list h6; omega) (by have := hs.list h6; omega)
  · exact hcl t i hi8 (by have := T_tab ht; omega) (by have := (hs.tb ht).2.2; omega)
  · exact hcl _ j hj8 (by have := T_leaf ht hi8 h0; omega) (by have := ((hs.tw ht hi8).lead h0).2.2.1; omega)
theorem sh_top {V : Nat → Nat → Nat} {y a : Nat} (h1 : ∀ j, j < k → V j = W j) (h2 : y / 4 ≠ 0 → V k (8 * (y / 4) + a % 8) = W k (8 * (y / 4) + a % 8)) : sh V k y a = sh W k y a := by
  have below : ∀ n y, n < k → sh V n y a = sh W n y a := by
    intro n
    induction n with
    | zero => intro y hn; simp only [sh, h1 0 hn]
    | succ n ih =>
      intro y hn
      simp only [sh, h1 (n + 1) hn, h1 n (by omega)]
      rw [ih _ (by omega)]
  cases k with
  | zero =>
    simp only [sh]
    split
    · rfl
    · next h0 => exact h2 h0
  | succ k =>
    simp only [sh, h1 k (by omega)]
    rw [below k _ (by omega)]
    split
    · rfl
    · next h0 => exact h2 h0
theorem sh_lt (hb : ∀ j p, W j p < 4294967296) : ∀ k y a, sh W k y a < 4294967296 := by
  intro k
  induction k with
  | zero =>
    intro y a
    simp only [sh]
    split
    · omega
    · exact hb _ _
  | succ k ih =>
    intro y a
    simp only [sh]
    split
    · split
      · exact ih _ _
      · omega
    · exact hb _ _
theorem c_giveCluster {b : Nat} (hh : ∀ j, j ≤ k → h (10, j) = E (W j) ∧ Inv (W j) (U j)) (hb : b < W k 2) (ho : ow (W k) (W k (8 * W k 3 + b / 8)) = true) (hr : nClus (W k) b ≤ rm (W k)) : Cl (d + 4) MX1_giveCluster [vR (1, k), vI (nI b)] h (some (vI (nI (gCc (W k) b)))) (hup h (10, k) (E (gC (W k) b fun j => sh W k (awd (W k) b) (8 * b + j)))) := by
  obtain ⟨hw, hi⟩ := hh k (Nat.le_refl _)
  obtain ⟨w, hwd⟩ : ∃ w, w = W k := ⟨_, rfl⟩
  rw [← hwd] at hw hi hb ho hr ⊢
  obtain ⟨u, hud⟩ : ∃ u, u = U k := ⟨_, rfl⟩
  rw [← hud] at hi
  have hs := hi.1
  have hb64 := hs.sz.2
  have hi8 : b / 8 < 8 := by omega
  have hj8 : b % 8 < 8 := by omega
  obtain ⟨hl, hown⟩ := ow_iff.mp ho
  have hlL := (hs.tw act_tb hi8).lead hl
  have hlp := hlL.1.pos
  have eaw := awd_own (w := w) (b := b) hl
  have hBB := hlL.2.2.2 (b % 8) hj8
  have hB := hs.bok act_tb (show b < 64 by omega)
  have hBl := hB.lt
  have hact := hs.act
  refine rnN 2 rfl ?_
  refine rnK rfl (c_activeWord hw hs (show b < 64 by omega)) ?_
  refine rnN 3 rfl ?_
  refine rnK rfl (c_isOwn hw hi hBl hB.isLead) ?_
  by_cases hoc : ow w (awd w b) = true
  · have e : (gC w b fun j => sh W k (awd w b) (8 * b + j)) = w := if_pos hoc
    have ec : gCc w b = awd w b / 4 := if_pos hoc
    rw [if_pos hoc, e, ec, hup_self hw]
    refine rnN 2 rfl ?_
    refine rnK rfl (c_clusterOf (show awd w b < 2147483648 by unfold awd; omega)) ?_
    exact rnR rfl
  · have e : (gC w b fun j => sh W k (awd w b) (8 * b + j)) = gcF (tkW w) (tkC w) (b / 8) (b % 8) fun j => sh W k (awd w b) (8 * b + j) := if_neg hoc
    have ec : gCc w b = tkC w := if_neg hoc
    have en : nClus w b = 1 := if_neg hoc
    rw [en] at hr
    obtain ⟨u1, ha, hu, hC1, hC2, hC3, hC4, hrm, hTT, hO, hH, hC5⟩ := tk_spec hi hr
    obtain ⟨t1, t2⟩ := tk_leaf hi hr hi8 hl
    have e3 := hH 3 (by decide)
    have e4 := hH 4 (by decide)
    have hkc : tkW w (8 * tkW w 4 + tkC w / 8) ≠ 0 := by rw [e4]; exact hC4
    have hcc := cpl_in ha.1 hC2 hkc
    have hlne := ne_fresh (X := w (8 * w 3 + b / 8) / 4) hC5 (by omega)
    have hne3 := ne_fresh (w := w) hC5 T_act
    -- the words while the cluster is filled
    obtain ⟨F, hF⟩ : ∃ F : Nat → Nat → Nat, F = fun i p => if p / 8 = tkC w ∧ p % 8 < i then sh W k (awd w b) (8 * b + p % 8) else setc (tkW w) (tkC w) 1 p := ⟨_, rfl⟩
    have hFO : ∀ i p, p / 8 ≠ tkC w → ¬ kp (tkW w) p → F i p = tkW w p := by
      intro i p hp1 hp2
      rw [hF]
      simp only
      rw [if_neg (fun z => hp1 z.1), setc_at (fun z => hp2 (by rw [z]; exact cpl_kp hC2 hkc))]
    have hFS : ∀ i, Str (F i) u1 := fun i => Str_fresh ha hC1 hC3 (hFO i)
    have hF3 : ∀ i, F i 3 = w 3 := fun i => by rw [hFO i 3 (by omega) (nk0 (by decide)), e3]
    have hFa : ∀ i, F i (8 * w 3 + b / 8) = w (8 * w 3 + b / 8) := fun i => by
      rw [hFO i _ (by rw [ix_div hi8]; exact hne3) (ha.1.nk (by rw [ix_div hi8, hu _ (by have := T_act (w := w); omega)]; omega)), t1]
    have hFl : ∀ i, F i (8 * (w (8 * w 3 + b / 8) / 4) + b % 8) = awd w b := fun i => by
      rw [hFO i _ (by rw [ix_div hj8]; exact hlne) (ha.1.nk (by rw [ix_div hj8, hu _ (by omega)]; omega)), t2 _ hj8, eaw]
    have hFb : ∀ i, bwd (F i) (w 3) b = awd w b := fun i => by
      unfold bwd
      rw [hFa, if_neg hl, hFl]
    have hFy : ∀ i a, awd w b / 4 ≠ 0 → F i (8 * (awd w b / 4) + a % 8) = w (8 * (awd w b / 4) + a % 8) := fun i a h0 => by
      have h5 := T_bw (w := w) act_tb (show b < 64 by omega) h0
      have h6 := (hB.lead h0).2.2
      have h7 : u1 (awd w b / 4) = u (awd w b / 4) := hu _ (by unfold awd; omega)
      have h8 : u (awd w b / 4) = 24 + (8 * (b / 8) + b % 8) := h6
      rw [hFO i _ (by rw [ix_div (by omega)]; exact ne_fresh hC5 (by unfold awd; exact h5)) (ha.1.nk (by rw [ix_div (by omega)]; omega))]
      exact hO _ (by rw [ix_div (by omega)]; unfold awd; omega) (fun e5 => by rw [ix_div (by omega)] at e5; rw [e5] at h8; have := hs.ct; omega)
    rw [if_neg hoc, e, ec]
    refine rnN 1 rfl ?_
    refine rnN 2 rfl ?_
    refine rnK rfl (c_take hw hi hr) ?_
    refine rnN 3 rfl ?_
    refine rnH (congrArg (fun f => hup h (10, k) (E f)) (show setc (tkW w) (tkC w) 1 = F 0 by rw [hF]; funext p; simp only; rw [if_neg (by omega)])) ?_
    refine lpN 8 (fun i => Rn (d + 4) MX1_giveCluster 30 [some (vR (1, k)), some (vI (nI b)), some (vI (nI (awd w b))), some (vI (nI (tkC w))), some (vI (nI i))] [] (hup h (10, k) (E (F i))) (some (vI (nI (tkC w)))) (hup h (10, k) (E (gcF (tkW w) (tkC w) (b / 8) (b % 8) fun j => sh W k (awd w b) (8 * b + j))))) (fun i hlt K => ?_) ?_
    · have hshown := c_shown (d := d) (k := k) (h := hup h (10, k) (E (F i))) (W := fun j => if j = k then F i else W j) (U := fun j => if j = k then u1 else U j) (t := w 3) (a := 8 * b + i) (fun j hj => by
        by_cases ej : j = k
        · simp only [if_pos ej]
          rw [ej]
          exact ⟨hup_at, hFS i⟩
        · simp only [if_neg ej]
          have h5 := hh j hj
          exact ⟨(hup_ne (fun e5 => ej (by injection e5))).trans h5.1, h5.2.1⟩) (by simp only [if_true]; exact Or.inl (hF3 i).symm) (by omega)
      simp only [if_true, show (8 * b + i) / 8 = b by omega, hFb] at hshown
      rw [sh_top (W := W) (fun j hj => if_neg (by omega)) (fun h0 => by
        simp only [if_true]
        rw [hFy i (8 * b + i) h0, hwd])] at hshown
      refine rnN 2 rfl ?_
      refine rnT (nI_lt hlt (by decide)) rfl ?_
      refine rnN 6 rfl ?_
      refine rnK rfl (c_activeTable hup_at) ?_
      rw [hF3]
      refine rnN 5 rfl ?_
      simp (disch := omega) only [nI_add, pk_mul, pk_sub, nd8, nd4, nsub8, nand63, nand7, nshr2, nI_clamp, E_at, hup_at, hup_hup]
      refine rnK rfl (hshown) ?_
      refine rnK rfl (c_put hup_at hC2 hlt) ?_
      refine rnN 2 rfl ?_
      simp (disch := omega) only [nI_add, pk_mul, pk_sub, nd8, nd4, nsub8, nand63, nand7, nshr2, nI_clamp, E_at, hup_at, hup_hup]
      refine rnH ?_ K
      congr 2
      funext p
      rw [hF]
      simp only [up]
      by_cases hp : p = 8 * tkC w + i
      · subst hp
        rw [if_pos rfl, if_pos (by omega), ix_mod hlt]
      · rw [if_neg hp]
        by_cases h2 : p / 8 = tkC w ∧ p % 8 < i
        · rw [if_pos h2, if_pos (by omega)]
        · rw [if_neg h2, if_neg (by omega)]
    · refine rnN 3 rfl ?_
      refine rnN 4 rfl ?_
      refine rnK rfl (c_leadTo (Nat.le_refl 1)) ?_
      have hpa := c_putActiveWord (d := d) (k := k) (h := hup h (10, k) (E (F 8))) (w := F 8) (b := b) (x := 4 * tkC w + 1) hup_at (by rw [hF3]; exact hact.2.1) (show b < 64 by omega) (by rw [hF3, hFa]; exact (hs.tw act_tb hi8).lt)
      rw [hF3, hFa, hup_hup] at hpa
      refine rnK rfl (hpa) ?_
      refine rnN 2 rfl ?_
      obtain ⟨z, hzd⟩ : ∃ z, z = up (fun p => if p / 8 = tkC w then sh W k (awd w b) (8 * b + p % 8) else setc (tkW w) (tkC w) 1 p) (8 * (w (8 * w 3 + b / 8) / 4) + b % 8) (4 * tkC w + 1) := ⟨_, rfl⟩
      have hz8 : up (F 8) (8 * (w (8 * w 3 + b / 8) / 4) + b % 8) (4 * tkC w + 1) = z := by
        rw [hzd]
        congr 1
        rw [hF]
        funext p
        simp only
        by_cases h2 : p / 8 = tkC w
        · rw [if_pos h2, if_pos (by omega)]
        · rw [if_neg h2, if_neg (by omega)]
      rw [hz8]
      by_cases hy0 : awd w b / 4 = 0
      · have hy2 : awd w b ≤ 2 := by
          have h5 := (hB.flat hy0)
          have h6 : awd w b = bwd w (w 3) b := rfl
          omega
        have eg : (gcF (tkW w) (tkC w) (b / 8) (b % 8) fun j => sh W k (awd w b) (8 * b + j)) = z := by
          unfold gcF
          simp only [e3, t1, t2 _ hj8, ← eaw, if_pos hy0]
          exact hzd.symm
        rw [eg]
        refine rnK rfl (c_release0 hy2) ?_
        refine rnN 1 rfl ?_
        exact rnR rfl
      · have hyL := hBB.lead (by rw [← eaw]; exact hy0)
        rw [← eaw] at hyL
        have hyp := hyL.1.pos
        have hy2 : 2 < awd w b := hB.isLead.mpr hy0
        have h5 := T_bw (w := w) act_tb (show b < 64 by omega) hy0
        have h5' : 1 ≤ T w (awd w b / 4) := h5
        have h6 : ¬ T w (awd w b / 4) = 1 := fun e5 => hoc (ow_iff.mpr ⟨hy0, e5⟩)
        have hTe := hTT (awd w b / 4) (by omega)
        have hTle := T_le hs.ns.1 (awd w b / 4)
        have hyne := ne_fresh (X := awd w b / 4) hC3 (by omega)
        have hky : tkW w (8 * tkW w 4 + awd w b / 4 / 8) ≠ 0 := fun e5 => by
          have := ha.noK hyp.2 e5
          omega
        have hyc := cpl_in ha.1 hyp.2 hky
        have hct := ha.1.ct
        have hne4 := ne_fresh (w := tkW w) hC3 T_ct
        have hzp : ∀ p, p ≠ 8 * (w (8 * w 3 + b / 8) / 4) + b % 8 → p / 8 ≠ tkC w → p ≠ cpl (tkW w) (tkC w) → z p = tkW w p := by
          intro p hp1 hp2 hp3
          rw [hzd, up_ne hp1, if_neg hp2, setc_at hp3]
        have hu1l : u1 (w (8 * w 3 + b / 8) / 4) = 8 + b / 8 := by rw [hu _ (by omega)]; exact hlL.2.2.1
        have hz4 : z 4 = tkW w 4 := hzp 4 (by omega) (by omega) (by omega)
        have hzk : z (8 * tkW w 4 + awd w b / 4 / 8) = tkW w (8 * tkW w 4 + awd w b / 4 / 8) := by
          refine hzp _ (fun e5 => ?_) (by omega) (fun e5 => ?_)
          · have e6 : tkW w 4 = w (8 * w 3 + b / 8) / 4 := by omega
            rw [e6] at hct
            omega
          · have e6 : cpl (tkW w) (tkC w) / 8 = tkW w 4 := by omega
            rw [e6] at hcc
            omega
        have hzc : z (cpl (tkW w) (awd w b / 4)) = T w (awd w b / 4) := by
          rw [hzp _ (fun e5 => ?_) (ne_fresh hC3 (by omega)) (fun e5 => hyne (cpl_inj ha.1 hyp.2 hC2 hky hkc e5)), ha.cntAt hyp.2 hky, hTe]
          rw [e5, ix_div hj8] at hyc
          omega
        have hrel := c_release (d := d + 1) (k := k) (h := hup h (10, k) (E z)) (x := awd w b) (b := T w (awd w b / 4) - 1) hup_at hBl hy2 (by rw [hz4]; exact hct.2.1) (by rw [hz4, hzk]; exact ha.1.keepLt (by omega)) (by
          rw [hz4, hzk, cpl_eq, hzc]
          omega) (by omega)
        rw [hup_hup] at hrel
        have ea : adc z (awd w b / 4) (T w (awd w b / 4) - 1) = setc z (awd w b / 4) (T w (awd w b / 4) - 1) := if_neg (by omega)
        have eg : (gcF (tkW w) (tkC w) (b / 8) (b % 8) fun j => sh W k (awd w b) (8 * b + j)) = setc z (awd w b / 4) (T w (awd w b / 4) - 1) := by
          unfold gcF
          simp only [e3, t1, t2 _ hj8, ← eaw, if_neg hy0, hTe]
          rw [hzd]
        rw [ea, ← eg] at hrel
        refine rnK rfl (hrel) ?_
        refine rnN 1 rfl ?_
        exact rnR rfl
end G3
end
section
/-! ===== makeZero, putWord, dropBlock ===== -/
section PW
variable {d k : Nat} {h : xH} {w u : Nat → Nat} {W U : Nat → Nat → Nat}
theorem mzF_specT (hi : Inv w u) {b : Nat} (hb : b < w 2) (ho : ow w (w (8 * w 3 + b / 8)) = true) : (Inv (mzF w b) u ∧ ∀ X, T (mzF w b) X + ld (w (8 * (w (8 * w 3 + b / 8) / 4) + b % 8)) X = T w X) ∧ (∀ p, p < 8 → mzF w b p = w p) := by
  have hs := hi.1
  have hb64 := hs.sz.2
  obtain ⟨hl, hown⟩ := ow_iff.mp ho
  have hi8 : b / 8 < 8 := by omega
  have hj8 : b % 8 < 8 := by omega
  have hlL := (hs.tw act_tb hi8).lead hl
  have hlp := hlL.1.pos
  have hTl := T_leaf act_tb hi8 hl
  have hBB := hlL.2.2.2 (b % 8) hj8
  have hTb := hi.2.2.2.2
  have hle := T_le hs.ns.1
  have hA : ∀ X, X < 64 → w (8 * w 4 + X / 8) ≠ 0 → cpl w X ≠ 8 * (w (8 * w 3 + b / 8) / 4) + b % 8 := by
    intro X hX h0 e
    have h3 := cpl_in hs hX h0
    rw [e, ix_div hj8] at h3
    omega
  by_cases hy0 : w (8 * (w (8 * w 3 + b / 8) / 4) + b % 8) / 4 = 0
  · have eg : mzF w b = up w (8 * (w (8 * w 3 + b / 8) / 4) + b % 8) 2 := by
      unfold mzF
      simp only [if_pos hy0]
    rw [eg]
    refine ⟨(zero_inv hi hi8 hj8 (by omega) hl hown up_at (fun X hX h0 => ?_) (fun p _ hp2 _ => up_ne hp2) (fun h0 => absurd hy0 h0) (fun p => ?_)), fun p hp => up_ne (by omega)⟩
    · have e1 : ld (w (8 * (w (8 * w 3 + b / 8) / 4) + b % 8)) X = 0 := if_pos hy0
      rw [e1, up_ne (hA X hX h0), hi.cntAt hX h0]
      rfl
    · unfold up
      split
      · omega
      · exact hTb p
  · have hyL := hBB.lead hy0
    have hyp := hyL.1.pos
    have hTy := T_blk act_tb hi8 hj8 hl hy0
    have hky : w (8 * w 4 + w (8 * (w (8 * w 3 + b / 8) / 4) + b % 8) / 4 / 8) ≠ 0 := fun e => by
      have := hi.noK hyp.2 e
      omega
    have hyc := cpl_in hs hyp.2 hky
    have hct := hs.ct
    obtain ⟨z, hzd⟩ : ∃ z, z = up w (8 * (w (8 * w 3 + b / 8) / 4) + b % 8) 2 := ⟨_, rfl⟩
    have hzp : ∀ p, p ≠ 8 * (w (8 * w 3 + b / 8) / 4) + b % 8 → z p = w p := fun p hp => by rw [hzd, up_ne hp]
    have hz4 : z 4 = w 4 := hzp 4 (by omega)
    have hzk : z (8 * w 4 + w (8 * (w (8 * w 3 + b / 8) / 4) + b % 8) / 4 / 8) = w (8 * w 4 + w (8 * (w (8 * w 3 + b / 8) / 4) + b % 8) / 4 / 8) := hzp _ (fun e => by
      have e2 : w 4 = w (8 * w 3 + b / 8) / 4 := by omega
      rw [e2] at hct
      omega)
    have hzcpl : cpl z (w (8 * (w (8 * w 3 + b / 8) / 4) + b % 8) / 4) = cpl w (w (8 * (w (8 * w 3 + b / 8) / 4) + b % 8) / 4) := by
      unfold cpl
      rw [hz4, hzk]
    have hcy : cpl w (w (8 * (w (8 * w 3 + b / 8) / 4) + b % 8) / 4) / 8 ≠ w (8 * (w (8 * w 3 + b / 8) / 4) + b % 8) / 4 := fun e => by rw [e] at hyc; omega
    have hly : w (8 * w 3 + b / 8) / 4 ≠ w (8 * (w (8 * w 3 + b / 8) / 4) + b % 8) / 4 := fun e => by have := hlL.2.2.1; rw [e] at this; omega
    by_cases h1 : T w (w (8 * (w (8 * w 3 + b / 8) / 4) + b % 8) / 4) = 1
    · have eg : mzF w b = zc (up z (cpl w (w (8 * (w (8 * w 3 + b / 8) / 4) + b % 8) / 4)) 0) (w (8 * (w (8 * w 3 + b / 8) / 4) + b % 8) / 4) := by
        unfold mzF
        simp only [if_neg hy0, h1]
        rw [← hzd]
        unfold adc
        rw [if_pos rfl, setc_up, hzcpl]
      rw [eg]
      refine ⟨(zero_inv hi hi8 hj8 (by omega) hl hown ?_ (fun X hX h0 => ?_) (fun p hp1 hp2 hp3 => ?_) (fun _ _ k hk => ?_) (fun p => ?_)), fun p hp => ?_⟩
      · unfold zc
        rw [ix_div hj8, if_neg hly, up_ne (fun e => hA _ hyp.2 hky e.symm), hzd, up_at]
      · have h3 := cpl_in hs hX h0
        unfold zc
        rw [if_neg (fun e => by rw [e] at h3; omega)]
        by_cases e : X = w (8 * (w (8 * w 3 + b / 8) / 4) + b % 8) / 4
        · have e1 : ld (w (8 * (w (8 * w 3 + b / 8) / 4) + b % 8)) X = 1 := by
            unfold ld
            rw [if_neg hy0, ← e, iv_self]
          rw [e1, ← e, up_at, e, h1]
        · have e1 : ld (w (8 * (w (8 * w 3 + b / 8) / 4) + b % 8)) X = 0 := by
            unfold ld
            rw [if_neg hy0, iv_ne (fun e2 => e e2.symm)]
          rw [e1, up_ne (fun e2 => e (cpl_inj hs hX hyp.2 h0 hky e2)), hzp _ (hA X hX h0), hi.cntAt hX h0]
          rfl
      · unfold zc
        rw [if_neg (fun e => hp1 ⟨hy0, e, h1⟩), up_ne (fun e => hp3 (by rw [e]; exact cpl_kp hyp.2 hky)), hzp p hp2]
      · unfold zc
        rw [if_pos (ix_div hk)]
      · unfold zc
        split
        · omega
        · rw [up]
          split
          · omega
          · rw [hzd, up]
            split
            · omega
            · exact hTb p
      · unfold zc
        rw [if_neg (by omega), up_ne (by omega), hzp p (by omega)]
    · have eg : mzF w b = up z (cpl w (w (8 * (w (8 * w 3 + b / 8) / 4) + b % 8) / 4)) (T w (w (8 * (w (8 * w 3 + b / 8) / 4) + b % 8) / 4) - 1) := by
        unfold mzF
        simp only [if_neg hy0]
        rw [← hzd]
        unfold adc
        rw [if_neg (by omega), setc_up, hzcpl]
      rw [eg]
      refine ⟨(zero_inv hi hi8 hj8 (by omega) hl hown ?_ (fun X hX h0 => ?_) (fun p hp1 hp2 hp3 => ?_) (fun _ h2 => absurd h2 h1) (fun p => ?_)), fun p hp => ?_⟩
      · rw [up_ne (fun e => hA _ hyp.2 hky e.symm), hzd, up_at]
      · by_cases e : X = w (8 * (w (8 * w 3 + b / 8) / 4) + b % 8) / 4
        · have e1 : ld (w (8 * (w (8 * w 3 + b / 8) / 4) + b % 8)) X = 1 := by
            unfold ld
            rw [if_neg hy0, ← e, iv_self]
          rw [e1, ← e, up_at]
        · have e1 : ld (w (8 * (w (8 * w 3 + b / 8) / 4) + b % 8)) X = 0 := by
            unfold ld
            rw [if_neg hy0, iv_ne (fun e2 => e e2.symm)]
          rw [e1, up_ne (fun e2 => e (cpl_inj hs hX hyp.2 h0 hky e2)), hzp _ (hA X hX h0), hi.cntAt hX h0]
          rfl
      · rw [up_ne (fun e => hp3 (by rw [e]; exact cpl_kp hyp.2 hky)), hzp p hp2]
      · have h4 := hle (w (8 * (w (8 * w 3 + b / 8) / 4) + b % 8) / 4)
        rw [up]
        split
        · omega
        · rw [hzd, up]
          split
          · omega
          · exact hTb p
      · rw [up_ne (by omega), hzp p (by omega)]
theorem mzF_spec (hi : Inv w u) {b : Nat} (hb : b < w 2) (ho : ow w (w (8 * w 3 + b / 8)) = true) : Inv (mzF w b) u ∧ (∀ p, p < 8 → mzF w b p = w p) := ⟨(mzF_specT hi hb ho).1.1, (mzF_specT hi hb ho).2⟩
theorem c_makeZero {b : Nat} (hw : h (10, k) = E w) (hi : Inv w u) (hb : b < w 2) (ho : ow w (w (8 * w 3 + b / 8)) = true) : Cl (d + 4) MX1_makeZero [vR (1, k), vI (nI b)] h none (hup h (10, k) (E (mzF w b))) := by
  have hs := hi.1
  have hb64 := hs.sz.2
  obtain ⟨hl, hown⟩ := ow_iff.mp ho
  have hi8 : b / 8 < 8 := by omega
  have hj8 : b % 8 < 8 := by omega
  have hlL := (hs.tw act_tb hi8).lead hl
  have hlp := hlL.1.pos
  have hBB := hlL.2.2.2 (b % 8) hj8
  have eaw := awd_own (w := w) (b := b) hl
  have hB := hs.bok act_tb (show b < 64 by omega)
  have hBl := hB.lt
  refine rnN 2 rfl ?_
  refine rnK rfl (c_activeWord hw hs (show b < 64 by omega)) ?_
  refine rnN 4 rfl ?_
  refine rnK rfl (c_putActiveWord hw hs.act.2.1 (show b < 64 by omega) (hs.tw act_tb hi8).lt) ?_
  refine rnN 2 rfl ?_
  by_cases hy0 : awd w b / 4 = 0
  · have hy2 : awd w b ≤ 2 := by
      have h5 := (hB.flat hy0)
      have h6 : awd w b = bwd w (w 3) b := rfl
      omega
    have eg : mzF w b = up w (8 * (w (8 * w 3 + b / 8) / 4) + b % 8) 2 := by
      unfold mzF
      simp only [← eaw, if_pos hy0]
    rw [eg]
    refine rnK rfl (c_release0 hy2) ?_
    exact rnR rfl
  · have hyL := hBB.lead (by rw [← eaw]; exact hy0)
    rw [← eaw] at hyL
    have hyp := hyL.1.pos
    have hy2 : 2 < awd w b := hB.isLead.mpr hy0
    have hTy : 1 ≤ T w (awd w b / 4) := T_bw (w := w) act_tb (show b < 64 by omega) hy0
    have hTle := T_le hs.ns.1 (awd w b / 4)
    have hky : w (8 * w 4 + awd w b / 4 / 8) ≠ 0 := fun e => by
      have := hi.noK hyp.2 e
      omega
    have hyc := cpl_in hs hyp.2 hky
    have hct := hs.ct
    obtain ⟨z, hzd⟩ : ∃ z, z = up w (8 * (w (8 * w 3 + b / 8) / 4) + b % 8) 2 := ⟨_, rfl⟩
    have hzp : ∀ p, p ≠ 8 * (w (8 * w 3 + b / 8) / 4) + b % 8 → z p = w p := fun p hp => by rw [hzd, up_ne hp]
    have hz4 : z 4 = w 4 := hzp 4 (by omega)
    have hzk : z (8 * w 4 + awd w b / 4 / 8) = w (8 * w 4 + awd w b / 4 / 8) := hzp _ (fun e => by
      have e2 : w 4 = w (8 * w 3 + b / 8) / 4 := by omega
      rw [e2] at hct
      omega)
    have hzc : z (cpl w (awd w b / 4)) = T w (awd w b / 4) := by
      rw [hzp _ (fun e => ?_), hi.cntAt hyp.2 hky]
      rw [e, ix_div hj8] at hyc
      omega
    rw [← hzd]
    have hrel := c_release (d := d + 1) (k := k) (h := hup h (10, k) (E z)) (x := awd w b) (b := T w (awd w b / 4) - 1) hup_at hBl hy2 (by rw [hz4]; exact hct.2.1) (by rw [hz4, hzk]; exact hs.keepLt (by omega)) (by
      rw [hz4, hzk, cpl_eq, hzc]
      omega) (by omega)
    rw [hup_hup] at hrel
    have eg : mzF w b = adc z (awd w b / 4) (T w (awd w b / 4) - 1) := by
      unfold mzF
      simp only [← eaw, if_neg hy0]
      rw [hzd]
    rw [eg]
    refine rnK rfl (hrel) ?_
    exact rnR rfl
/-- image k's words become w -/
def setW (W : Nat → Nat → Nat) (k : Nat) (w : Nat → Nat) : Nat → Nat → Nat := fun j => if j = k then w else W j
theorem setW_at {w : Nat → Nat} : setW W k w k = w := if_pos rfl
theorem setW_ne {w : Nat → Nat} {j : Nat} (h : j ≠ k) : setW W k w j = W j := if_neg h
/-- the words behind putWord, but for the marks -/
def pW1 (W : Nat → Nat → Nat) (k b : Nat) : Nat → Nat := gC (gL (W k) b) b fun j => sh W k (awd (W k) b) (8 * b + j)
def pW (W : Nat → Nat → Nat) (k b j x : Nat) : Nat → Nat := up (pW1 W k b) (8 * gCc (gL (W k) b) b + j) x
theorem gL_clus (hi : Inv w u) {b : Nat} (hb : b < w 2) (hr : nLeaf w b ≤ rm w) : nClus (gL w b) b = nClus w b := by
  obtain ⟨u', hI, hu, ho, hrm, ha, hT, hH, hO⟩ := gL_spec hi hb hr
  have hs := hi.1
  have hb64 := hs.sz.2
  unfold nClus
  rw [ha]
  have e : ow (gL w b) (awd w b) = ow w (awd w b) := by
    by_cases h0 : awd w b / 4 = 0
    · unfold ow
      simp [h0]
    · have h1 := T_bw (w := w) act_tb (show b < 64 by omega) h0
      have h2 := ((hs.bok act_tb (show b < 64 by omega)).lead h0).2.2
      have h3 : u (awd w b / 4) = 24 + (8 * (b / 8) + b % 8) := h2
      unfold ow
      rw [hT (awd w b / 4) (by omega) (by unfold awd; omega)]
  rw [e]
theorem gL_sh (hi : Inv (W k) u) {b : Nat} (hb : b < W k 2) (hr : nLeaf (W k) b ≤ rm (W k)) (a : Nat) : sh (setW W k (gL (W k) b)) k (awd (W k) b) a = sh W k (awd (W k) b) a := by
  obtain ⟨u', hI, hu, ho, hrm, ha, hT, hH, hO⟩ := gL_spec hi hb hr
  have hs := hi.1
  have hb64 := hs.sz.2
  refine sh_top (fun j hj => setW_ne (by omega)) (fun h0 => ?_)
  rw [setW_at]
  have h1 := T_bw (w := W k) act_tb (show b < 64 by omega) h0
  have h2 := ((hs.bok act_tb (show b < 64 by omega)).lead h0).2.2
  have h3 : u (awd (W k) b / 4) = 24 + (8 * (b / 8) + b % 8) := h2
  have h4 : 1 ≤ T (W k) (awd (W k) b / 4) := h1
  exact hO _ (by rw [ix_div (by omega)]; omega) (by rw [ix_div (by omega)]; omega)
theorem pW_spec (hi : Inv (W k) u) {b j x : Nat} (hb : b < W k 2) (hr : nLeaf (W k) b + nClus (W k) b ≤ rm (W k)) (hW : ∀ j p, W j p < 4294967296) (hj : j < 8) (hx : x < 4294967296) : ∃ u3, Inv (pW W k b j x) u3 ∧ (∀ p, p < 8 → pW W k b j x p = W k p) := by
  obtain ⟨u', hI, hu, ho, hrm, ha, hT, hH, hO⟩ := gL_spec hi hb (by omega)
  have hcl := gL_clus hi hb (by omega)
  obtain ⟨u2, hI2, hu2, hc2, hc3, hc4, hc5, hc6, hH2, hA2, hr2⟩ := gC_spec (dat := fun j => sh W k (awd (W k) b) (8 * b + j)) hI (by rw [hH 2 (by decide)]; exact hb) (by rw [hH 3 (by decide)] at ho ⊢; exact ho) (by omega) (fun j => sh_lt hW _ _ _)
  have hd := data_inv (v := pW W k b j x) hI2 hc3 (by omega) (by rw [hc5]; decide) (fun p hp => up_ne (by omega)) (fun p => by
    unfold pW up
    split
    · exact hx
    · exact hI2.2.2.2.2 p)
  refine ⟨u2, hd.1, fun p hp => ?_⟩
  unfold pW
  rw [up_ne (by omega)]
  show gC _ _ _ p = _
  rw [hH2 p hp, hH p hp]
theorem c_putWord {a x : Nat} (hh : ∀ j, j ≤ k → h (10, j) = E (W j) ∧ Inv (W j) (U j)) (ha : a < 8 * W k 2) (hr : nLeaf (W k) (a / 8) + nClus (W k) (a / 8) ≤ rm (W k)) (hx : x < 4294967296) {u3 : Nat → Nat} (h3 : Inv (pW W k (a / 8) (a % 8) x) u3) : Cl (d + 5) MX1_putWord [vR (1, k), vI (nI a), vI (nI x)] h (some (vI (nI (nLeaf (W k) (a / 8) + nClus (W k) (a / 8))))) (hup h (10, k) (E (flg (pW W k (a / 8) (a % 8) x) u3))) := by
  obtain ⟨hw, hi⟩ := hh k (Nat.le_refl _)
  have hs := hi.1
  have hsz := hs.sz
  obtain ⟨b, hb⟩ : ∃ b, b = a / 8 := ⟨_, rfl⟩
  rw [← hb] at hr h3 ⊢
  have hbl : b < W k 2 := by omega
  obtain ⟨u', hI, hu, ho, hrm, haw, hT, hH, hO⟩ := gL_spec hi hbl (by omega)
  have hcl := gL_clus hi hbl (by omega)
  have hrmle : rm (W k) ≤ 64 := by unfold rm; omega
  have hh2 : ∀ j, j ≤ k → hup h (10, k) (E (gL (W k) b)) (10, j) = E (setW W k (gL (W k) b) j) ∧ Inv (setW W k (gL (W k) b) j) (setW U k u' j) := fun j hj => by
    by_cases e : j = k
    · rw [e, setW_at, setW_at]
      exact ⟨hup_at, hI⟩
    · rw [setW_ne e, setW_ne e]
      have h5 := hh j hj
      exact ⟨(hup_ne (fun e5 => e (by injection e5))).trans h5.1, h5.2⟩
  have hgc := c_giveCluster (d := d) (k := k) (W := setW W k (gL (W k) b)) (U := setW U k u') (b := b) hh2 (by rw [setW_at, hH 2 (by decide)]; exact hbl) (by rw [setW_at]; exact ho) (by rw [setW_at]; omega)
  rw [setW_at, hup_hup, haw] at hgc
  have hdat : (fun j => sh (setW W k (gL (W k) b)) k (awd (W k) b) (8 * b + j)) = fun j => sh W k (awd (W k) b) (8 * b + j) := by
    funext j
    exact gL_sh hi hbl (by omega) _
  rw [hdat] at hgc
  have hcc : gCc (gL (W k) b) b < 64 := by
    by_cases e : ow (gL (W k) b) (awd (gL (W k) b) b) = true
    · have h5 := (ow_iff.mp e).1
      have h6 := hI.1.bok act_tb (show b < 64 by omega)
      have h7 : gCc (gL (W k) b) b = awd (gL (W k) b) b / 4 := if_pos e
      have h8 := h6.lt
      rw [h7]
      unfold awd
      omega
    · have h7 : gCc (gL (W k) b) b = tkC (gL (W k) b) := if_neg e
      have h8 : nClus (gL (W k) b) b = 1 := if_neg e
      obtain ⟨u1, ha1, hu1, hC1, hC2, -⟩ := tk_spec hI (show 1 ≤ rm (gL (W k) b) by omega)
      rw [h7]
      exact hC2
  refine rnN 6 rfl ?_
  simp (disch := omega) only [nI_add, pk_mul, pk_sub, nd8, nd4, nsub8, nand63, nand7, nshr2, nI_clamp, E_at, hup_at, hup_hup]
  rw [← hb]
  refine rnK rfl (c_leavesFor hw hi (show b < 64 by omega)) ?_
  refine rnN 2 rfl ?_
  refine rnK rfl (c_clustersFor hw hi (show b < 64 by omega)) ?_
  refine rnN 4 rfl ?_
  simp (disch := omega) only [nI_add, pk_mul, pk_sub, nd8, nd4, nsub8, nand63, nand7, nshr2, nI_clamp, E_at, hup_at, hup_hup]
  refine rnK rfl (c_room hw hi.cg) ?_
  refine rnN 1 rfl ?_
  refine rnF (nI_nlt (show nLeaf (W k) b + nClus (W k) b ≤ 64 - inUse (W k) - noKeep (W k) from hr) (by unfold rm at hrmle; omega)) rfl ?_
  refine rnN 2 rfl ?_
  refine rnK rfl (c_giveLeaf hw hi hbl (by omega)) ?_
  refine rnN 4 rfl ?_
  refine rnK rfl (hgc) ?_
  refine rnN 4 rfl ?_
  simp (disch := omega) only [nI_add, pk_mul, pk_sub, nd8, nd4, nsub8, nand63, nand7, nshr2, nI_clamp, E_at, hup_at, hup_hup]
  refine rnK rfl (c_put hup_at hcc (show a % 8 < 8 by omega)) ?_
  refine rnN 1 rfl ?_
  simp (disch := omega) only [nI_add, pk_mul, pk_sub, nd8, nd4, nsub8, nand63, nand7, nshr2, nI_clamp, E_at, hup_at, hup_hup]
  have ht := c_tellFlags (d := d) (h := hup h (10, k) (E (pW W k b (a % 8) x))) (k := k) hup_at h3
  rw [hup_hup] at ht
  refine rnK rfl (ht) ?_
  refine rnN 1 rfl ?_
  exact rnR rfl
theorem c_putWordF {a x : Nat} (hw : h (10, k) = E (W k)) (hi : Inv (W k) u) (ha : a < 8 * W k 2) (hr : ¬ nLeaf (W k) (a / 8) + nClus (W k) (a / 8) ≤ rm (W k)) : Cl (d + 5) MX1_putWord [vR (1, k), vI (nI a), vI (nI x)] h (some (vI (-2))) h := by
  have hs := hi.1
  have hsz := hs.sz
  have hn1 : nLeaf (W k) (a / 8) ≤ 1 := by unfold nLeaf; split <;> omega
  have hn2 : nClus (W k) (a / 8) ≤ 1 := by unfold nClus; split <;> omega
  refine rnN 6 rfl ?_
  simp (disch := omega) only [nI_add, pk_mul, pk_sub, nd8, nd4, nsub8, nand63, nand7, nshr2, nI_clamp, E_at, hup_at, hup_hup]
  refine rnK rfl (c_leavesFor hw hi (show a / 8 < 64 by omega)) ?_
  refine rnN 2 rfl ?_
  refine rnK rfl (c_clustersFor hw hi (show a / 8 < 64 by omega)) ?_
  refine rnN 4 rfl ?_
  simp (disch := omega) only [nI_add, pk_mul, pk_sub, nd8, nd4, nsub8, nand63, nand7, nshr2, nI_clamp, E_at, hup_at, hup_hup]
  refine rnK rfl (c_room hw hi.cg) ?_
  refine rnN 1 rfl ?_
  refine rnT (nI_lt (show 64 - inUse (W k) - noKeep (W k) < nLeaf (W k) (a / 8) + nClus (W k) (a / 8) from Nat.lt_of_not_le hr) (by omega)) rfl ?_
  refine rnN 1 rfl ?_
  exact rnR rfl
/-- the words behind dropBlock, but for the marks -/
def dB (w : Nat → Nat) (b : Nat) : Nat → Nat := mzF (gL w b) b
theorem dB_spec (hi : Inv w u) {b : Nat} (hb : b < w 2) (hr : nLeaf w b ≤ rm w) : ∃ u3, Inv (dB w b) u3 ∧ (∀ p, p < 8 → dB w b p = w p) := by
  obtain ⟨u', hI, hu, ho, hrm, haw, hT, hH, hO⟩ := gL_spec hi hb hr
  obtain ⟨h1, h2⟩ := mzF_spec hI (b := b) (by rw [hH 2 (by decide)]; exact hb) ho
  exact ⟨u', h1, fun p hp => by unfold dB; rw [h2 p hp, hH p hp]⟩
theorem c_dropBlock0 {b : Nat} (hw : h (10, k) = E w) (hi : Inv w u) (hb : b < w 2) (hd : ¬ dch k (awd w b) = true) : Cl (d + 5) MX1_dropBlock [vR (1, k), vI (nI b)] h (some (vI (nI 0))) h := by
  have hsz := hi.1.sz
  refine rnN 2 rfl ?_
  refine rnK rfl (c_dropChanges hw hi.1 (show b < 64 by omega)) ?_
  rw [if_neg hd]
  refine rnN 2 rfl ?_
  exact rnR rfl
theorem c_dropBlockF {b : Nat} (hw : h (10, k) = E w) (hi : Inv w u) (hb : b < w 2) (hd : dch k (awd w b) = true) (hr : ¬ nLeaf w b ≤ rm w) : Cl (d + 5) MX1_dropBlock [vR (1, k), vI (nI b)] h (some (vI (-2))) h := by
  have hsz := hi.1.sz
  have hn1 : nLeaf w b ≤ 1 := by unfold nLeaf; split <;> omega
  refine rnN 2 rfl ?_
  refine rnK rfl (c_dropChanges hw hi.1 (show b < 64 by omega)) ?_
  rw [if_pos hd]
  refine rnN 3 rfl ?_
  refine rnK rfl (c_leavesFor hw hi (show b < 64 by omega)) ?_
  refine rnN 3 rfl ?_
  refine rnK rfl (c_room hw hi.cg) ?_
  refine rnN 1 rfl ?_
  refine rnT (nI_lt (show 64 - inUse w - noKeep w < nLeaf w b from Nat.lt_of_not_le hr) (by omega)) rfl ?_
  refine rnN 1 rfl ?_
  exact rnR rfl
theorem c_dropBlock {b : Nat} (hw : h (10, k) = E w) (hi : Inv w u) (hb : b < w 2) (hd : dch k (awd w b) = true) (hr : nLeaf w b ≤ rm w) {u3 : Nat → Nat} (h3 : Inv (dB w b) u3) : Cl (d + 5) MX1_dropBlock [vR (1, k), vI (nI b)] h (some (vI (nI (nLeaf w b)))) (hup h (10, k) (E (flg (dB w b) u3))) := by
  have hsz := hi.1.sz
  have hrmle : rm w ≤ 64 := by unfold rm; omega
  obtain ⟨u', hI, hu, ho, hrm, haw, hT, hH, hO⟩ := gL_spec hi hb hr
  have hmz := c_makeZero (d := d) (h := hup h (10, k) (E (gL w b))) (k := k) (b := b) hup_at hI (by rw [hH 2 (by decide)]; exact hb) ho
  rw [hup_hup] at hmz
  have ht := c_tellFlags (d := d) (h := hup h (10, k) (E (dB w b))) (k := k) hup_at h3
  rw [hup_hup] at ht
  refine rnN 2 rfl ?_
  refine rnK rfl (c_dropChanges hw hi.1 (show b < 64 by omega)) ?_
  rw [if_pos hd]
  refine rnN 3 rfl ?_
  refine rnK rfl (c_leavesFor hw hi (show b < 64 by omega)) ?_
  refine rnN 3 rfl ?_
  refine rnK rfl (c_room hw hi.cg) ?_
  refine rnN 1 rfl ?_
  refine rnF (nI_nlt (show nLeaf w b ≤ 64 - inUse w - noKeep w from hr) (by unfold rm at hrmle; omega)) rfl ?_
  refine rnN 2 rfl ?_
  refine rnK rfl (c_giveLeaf hw hi hb hr) ?_
  refine rnN 2 rfl ?_
  refine rnK rfl (hmz) ?_
  refine rnN 1 rfl ?_
  refine rnK rfl (ht) ?_
  refine rnN 1 rfl ?_
  exact rnR rfl
end PW
end
section
/-! ===== countLeaf, countTable: counts go up or down by what a table leads to ===== -/
/-- the words w with counts g, clusters of Z wiped -/
def cW (w u g : Nat → Nat) (Z : Nat → Bool) : Nat → Nat := fun p => if Z (p / 8) = true then 0 else if p / 8 ≠ 0 ∧ 16 ≤ u (p / 8) ∧ u (p / 8) < 24 ∧ w (8 * w 4 + (u (p / 8) - 16)) = p / 8 then g (8 * (u (p / 8) - 16) + p % 8) else w p
def val (sg : Bool) (a c : Nat) : Nat := if sg = true then a + c else a - c
def dlt (sg : Bool) : Int32 := if sg = true then nI 1 else -1
def zS (sg : Bool) (g c : Nat → Nat) : Nat → Bool := fun X => !sg && decide (c X ≠ 0 ∧ g X = c X)
def cS (sg : Bool) (w u g c : Nat → Nat) : Nat → Nat := cW w u (fun X => val sg (g X) (c X)) (zS sg g c)
section CS
variable {d k : Nat} {h : xH} {w u g : Nat → Nat} {Z : Nat → Bool} {sg : Bool}
theorem cW_out {p : Nat} (hz : Z (p / 8) = false) (hu : u (p / 8) < 16 ∨ 24 ≤ u (p / 8) ∨ p / 8 = 0) : cW w u g Z p = w p := by
  unfold cW
  rw [if_neg (by rw [hz]; decide), if_neg (by omega)]
theorem cW_cpl (hs : Str w u) {X : Nat} (hX : X < 64) (h0 : w (8 * w 4 + X / 8) ≠ 0) (hz : Z (w (8 * w 4 + X / 8)) = false) : cW w u g Z (cpl w X) = g X := by
  have h1 := hs.keep (show X / 8 < 8 by omega) h0
  have h2 : cpl w X / 8 = w (8 * w 4 + X / 8) := by unfold cpl; omega
  have h3 : cpl w X % 8 = X % 8 := by unfold cpl; omega
  unfold cW
  rw [h2, h3, if_neg (by rw [hz]; decide), h1.2, show 16 + X / 8 - 16 = X / 8 by omega, if_pos (by omega)]
  congr 1
  omega
theorem cW_id (hi : Inv w u) : cW w u (T w) (fun _ => false) = w := by
  funext p
  unfold cW
  rw [if_neg (show ¬ (false = true) by decide)]
  split
  · next hc =>
    obtain ⟨h1, h2, h3, h4⟩ := hc
    have h5 := hi.cntAt (X := 8 * (u (p / 8) - 16) + p % 8) (by omega) (by rw [ix_div (by omega), h4]; exact h1)
    rw [← h5]
    congr 1
    unfold cpl
    rw [ix_div (by omega), h4, ix_mod (by omega)]
    omega
  · rfl
theorem val_step {a c : Nat} (h : sg = false → c + 1 ≤ a) : nI (val sg a c) + dlt sg = nI (val sg a (c + 1)) := by
  unfold val dlt
  cases sg with
  | true =>
    simp only [if_true]
    rw [nI_add]
    rfl
  | false =>
    simp only [Bool.false_eq_true, if_false]
    have h1 := h rfl
    rw [show a - c = (a - (c + 1)) + 1 by omega]
    exact pk_m1 _
theorem zS_false {c : Nat → Nat} {X : Nat} (h : sg = false → c X ≠ 0 → g X ≠ c X) : zS sg g c X = false := by
  unfold zS
  cases sg with
  | true => rfl
  | false =>
    have h1 : ¬ (c X ≠ 0 ∧ g X = c X) := fun e => h rfl e.1 e.2
    simp only [Bool.not_false, Bool.true_and, decide_eq_false_iff_not]
    exact h1
theorem cS_0 (hi : Inv w u) : cS sg w u (T w) (fun _ => 0) = w := by
  have e : cS sg w u (T w) (fun _ => 0) = cW w u (T w) (fun _ => false) := by
    unfold cS
    congr 1
    · funext X
      show (if sg = true then T w X + 0 else T w X - 0) = T w X
      split <;> omega
    · funext X
      exact zS_false (fun _ h => absurd rfl h)
  rw [e, cW_id hi]
/-- one count goes up or down -/
theorem cS_step (hs : Str w u) {c : Nat → Nat} {X : Nat} (h1 : 1 ≤ X) (hX : X < 64) (h0 : w (8 * w 4 + X / 8) ≠ 0) (hk : ∀ k, k < 8 → w (8 * w 4 + k) ≠ 0 → c (w (8 * w 4 + k)) = 0) (h4 : c (w 4) = 0) (hc0 : c 0 = 0) (hXu : u X < 16 ∨ 24 ≤ u X) (hX4 : X ≠ w 4) (hge : sg = false → c X + 1 ≤ g X) :
    adc (cS sg w u g c) X (val sg (g X) (c X + 1)) = cS sg w u g (fun Y => c Y + iv X Y) := by
  have hzk : ∀ k, k < 8 → w (8 * w 4 + k) ≠ 0 → zS sg g c (w (8 * w 4 + k)) = false := fun k hk2 hk0 => zS_false (fun _ e => absurd (hk k hk2 hk0) e)
  have hct := hs.ct
  have e4 : cS sg w u g c 4 = w 4 := cW_out (zS_false (fun _ e => absurd hc0 e)) (by omega)
  have ek : ∀ k, k < 8 → cS sg w u g c (8 * w 4 + k) = w (8 * w 4 + k) := fun k hk2 => cW_out (by rw [ix_div hk2]; exact zS_false (fun _ e => absurd h4 e)) (by rw [ix_div hk2]; omega)
  have ecpl : cpl (cS sg w u g c) X = cpl w X := by
    unfold cpl
    rw [e4, ek _ (by omega)]
  have hin := cpl_in hs hX h0
  have hkX := hs.keep (show X / 8 < 8 by omega) h0
  have h8 : cpl w X / 8 = w (8 * w 4 + X / 8) := by unfold cpl; omega
  have h9 : cpl w X % 8 = X % 8 := by unfold cpl; omega
  -- pointwise
  have hpt : ∀ p, p ≠ cpl w X → p / 8 ≠ X → cS sg w u g (fun Y => c Y + iv X Y) p = cS sg w u g c p := by
    intro p hp1 hp2
    unfold cS cW
    have e1 : zS sg g (fun Y => c Y + iv X Y) (p / 8) = zS sg g c (p / 8) := by
      unfold zS
      simp only [iv_ne (fun e => hp2 e.symm : X ≠ p / 8), Nat.add_zero]
    rw [e1]
    split
    · rfl
    · split
      · next hc =>
        obtain ⟨g1, g2, g3, g4⟩ := hc
        have e2 : X ≠ 8 * (u (p / 8) - 16) + p % 8 := fun e => hp1 (by
          unfold cpl
          rw [show X / 8 = u (p / 8) - 16 by omega, g4]
          omega)
        simp only [iv_ne e2, Nat.add_zero]
      · rfl
  have hcp : cS sg w u g (fun Y => c Y + iv X Y) (cpl w X) = val sg (g X) (c X + 1) := by
    unfold cS
    rw [cW_cpl hs hX h0 (zS_false (fun _ e => ?_))]
    · simp only [iv_self]
    · exfalso
      apply e
      have e3 : X ≠ w (8 * w 4 + X / 8) := fun e5 => by rw [← e5] at hkX; omega
      simp only [hk _ (by omega) h0, iv_ne e3]
  by_cases hb : val sg (g X) (c X + 1) = 0
  · have hsg : sg = false := by
      cases sg with
      | true => unfold val at hb; simp only [if_true] at hb; omega
      | false => rfl
    have hgc : g X = c X + 1 := by
      have := hge hsg
      unfold val at hb
      rw [if_neg (by rw [hsg]; decide)] at hb
      omega
    unfold adc
    rw [if_pos hb]
    funext p
    unfold zc
    by_cases hp : p / 8 = X
    · rw [if_pos hp]
      unfold cS cW
      have e1 : zS sg g (fun Y => c Y + iv X Y) (p / 8) = true := by
        unfold zS
        rw [hsg, hp]
        simp only [iv_self, Bool.not_false, Bool.true_and, decide_eq_true_eq]
        omega
      rw [if_pos e1]
    · rw [if_neg hp, setc_up, ecpl]
      by_cases hp2 : p = cpl w X
      · rw [hp2, up_at, hcp]
      · rw [up_ne hp2, hpt p hp2 hp]
  · unfold adc
    rw [if_neg hb, setc_up, ecpl]
    funext p
    by_cases hp2 : p = cpl w X
    · rw [hp2, up_at, hcp]
    · rw [up_ne hp2]
      by_cases hp : p / 8 = X
      · -- a cluster that isn't wiped
        have e1 : zS sg g c X = false := zS_false (fun hsg e => by have := hge hsg; omega)
        have e2 : zS sg g (fun Y => c Y + iv X Y) X = false := zS_false (fun hsg e => by
          simp only [iv_self]
          have := hge hsg
          intro e3
          apply hb
          unfold val
          rw [if_neg (by rw [hsg]; decide)]
          omega)
        unfold cS
        rw [cW_out (by rw [hp]; exact e1) (by rw [hp]; omega), cW_out (by rw [hp]; exact e2) (by rw [hp]; omega)]
      · rw [hpt p hp2 hp]
/-- a count goes up or down: the call -/
theorem c_addS {c : Nat → Nat} (hw : h (10, k) = E (cS sg w u g c)) (hs : Str w u) {X : Nat} (h1 : 1 ≤ X) (hX : X < 64) (h0 : w (8 * w 4 + X / 8) ≠ 0) (hk : ∀ k, k < 8 → w (8 * w 4 + k) ≠ 0 → c (w (8 * w 4 + k)) = 0) (h4 : c (w 4) = 0) (hc0 : c 0 = 0) (hXu : u X < 16 ∨ 24 ≤ u X) (hX4 : X ≠ w 4) (hge : sg = false → c X + 1 ≤ g X) (hb : g X + c X + 1 < 1000) :
    Cl (d + 1) MX0_addToCount [vR (0, k), vI (nI X), vI (dlt sg)] h none (hup h (10, k) (E (cS sg w u g (fun Y => c Y + iv X Y)))) := by
  have hct := hs.ct
  have e4 : cS sg w u g c 4 = w 4 := cW_out (zS_false (fun _ e => absurd hc0 e)) (by omega)
  have ek : ∀ k, k < 8 → cS sg w u g c (8 * w 4 + k) = w (8 * w 4 + k) := fun k hk2 => cW_out (by rw [ix_div hk2]; exact zS_false (fun _ e => absurd h4 e)) (by rw [ix_div hk2]; omega)
  have ev : cS sg w u g c (cpl w X) = val sg (g X) (c X) := cW_cpl hs hX h0 (zS_false (fun _ e => absurd (hk _ (by omega) h0) e))
  have hv : val sg (g X) (c X + 1) < 1000 := by
    unfold val
    split <;> omega
  have hca := c_addToCount (d := d) (h := h) (k := k) (w := cS sg w u g c) (c := X) (dl := dlt sg) (b := val sg (g X) (c X + 1)) hw hX (by rw [e4]; exact hct.2.1) (by rw [e4, ek _ (by omega)]; exact hs.keepLt (by omega)) (by
    rw [e4, ek _ (by omega), cpl_eq, ev]
    exact val_step hge) hv
  rw [cS_step hs h1 hX h0 hk h4 hc0 hXu hX4 hge] at hca
  exact hca
end CS
end
section
/-! ===== countLeaf, countTable ===== -/
/-- counts are of leaves and blocks alone -/
def CO (u c : Nat → Nat) : Prop := ∀ X, c X ≠ 0 → 1 ≤ X ∧ ((8 ≤ u X ∧ u X < 16) ∨ 24 ≤ u X)
/-- what a table leads to, counted for X -/
def tl (w : Nat → Nat) (X t : Nat) : Nat := sm 8 fun i => lc w X (w (8 * t + i))
/-- clusters that are led to lie where there is a count cluster -/
def KP (w : Nat → Nat) (t : Nat) : Prop := ∀ i, i < 8 → w (8 * t + i) / 4 ≠ 0 → w (8 * w 4 + w (8 * t + i) / 4 / 8) ≠ 0 ∧ ∀ j, j < 8 → w (8 * (w (8 * t + i) / 4) + j) / 4 ≠ 0 → w (8 * w 4 + w (8 * (w (8 * t + i) / 4) + j) / 4 / 8) ≠ 0
section CT
variable {d k : Nat} {h : xH} {w u g c c2 : Nat → Nat} {sg : Bool}
theorem tc_tl (w : Nat → Nat) (X t : Nat) : tc w X t = iv t X + tl w X t := rfl
theorem CO.zero : CO u (fun _ => 0) := fun X h => absurd rfl h
theorem CO.add (h1 : CO u c) (h2 : CO u c2) : CO u (fun X => c X + c2 X) := fun X h => by
  by_cases e : c X = 0
  · exact h2 X (by have h : c X + c2 X ≠ 0 := h; omega)
  · exact h1 X e
theorem CO.ivs {Y : Nat} (h1 : 1 ≤ Y) (h2 : (8 ≤ u Y ∧ u Y < 16) ∨ 24 ≤ u Y) : CO u (fun X => iv Y X) := fun X h => by
  have e := iv_pos h
  subst e
  exact ⟨h1, h2⟩
theorem CO.bcs {sz i j y : Nat} (hB : BOK sz u i j y) : CO u (fun X => bc X y) := fun X h => by
  have h : bc X y ≠ 0 := h
  unfold bc at h
  split at h
  · exact absurd rfl h
  · next h0 =>
    have e := iv_pos h
    have h1 := hB.lead h0
    have h2 := h1.1.pos
    rw [← e]
    exact ⟨by omega, Or.inr (by omega)⟩
theorem CO.sms {n : Nat} {f : Nat → Nat → Nat} (h1 : ∀ i, i < n → CO u (fun X => f X i)) : CO u (fun X => sm n (f X)) := by
  induction n with
  | zero => exact CO.zero
  | succ n ih => exact CO.add (ih fun i hi => h1 i (by omega)) (h1 n (by omega))
theorem CO.kk (h1 : CO u c) (hs : Str w u) : (∀ k, k < 8 → w (8 * w 4 + k) ≠ 0 → c (w (8 * w 4 + k)) = 0) ∧ c (w 4) = 0 ∧ c 0 = 0 := by
  refine ⟨fun k hk h0 => ?_, ?_, ?_⟩
  · refine Classical.byContradiction fun e => ?_
    have h2 := h1 _ e
    have h3 := hs.keep hk h0
    omega
  · refine Classical.byContradiction fun e => ?_
    have h2 := h1 _ e
    have h3 := hs.ct
    omega
  · refine Classical.byContradiction fun e => ?_
    have h2 := h1 _ e
    omega
theorem CO.lcs {i x : Nat} (hL : LOK w u i x) (hi : i < 8) : CO u (fun X => lc w X x) := fun X h => by
  have h : lc w X x ≠ 0 := h
  unfold lc at h
  split at h
  · exact absurd rfl h
  · next h0 =>
    have h1 := hL.lead h0
    have h2 := h1.1.pos
    exact CO.add (CO.ivs (Y := x / 4) (by omega) (Or.inl (by omega))) (CO.sms (f := fun X j => bc X (w (8 * (x / 4) + j))) fun j hj => CO.bcs (h1.2.2.2 j hj)) X h
theorem cS_at (hco : CO u c) {X j : Nat} (hX : u X < 16 ∨ 24 ≤ u X ∨ X = 0) (hj : j < 8) (hge : sg = false → c X = 0 ∨ c X + 1 ≤ g X) : cS sg w u g c (8 * X + j) = w (8 * X + j) := by
  refine cW_out (zS_false fun hsg e => ?_) (by rw [ix_div hj]; exact hX)
  rw [ix_div hj] at e ⊢
  have := hge hsg
  omega
theorem c_countLeaf {l i : Nat} (hw : h (10, k) = E (cS sg w u g c)) (hs : Str w u) (hl1 : 1 ≤ l) (hl : l < 64) (hul : u l = 8 + i) (hi8 : i < 8) (hkl : w (8 * w 4 + l / 8) ≠ 0) (hB : ∀ j, j < 8 → BOK (w 2) u i j (w (8 * l + j)))
    (hkB : ∀ j, j < 8 → w (8 * l + j) / 4 ≠ 0 → w (8 * w 4 + w (8 * l + j) / 4 / 8) ≠ 0) (hco : CO u c) (hge : sg = false → ∀ X, c X + (iv l X + sm 8 fun j => bc X (w (8 * l + j))) ≤ g X) (hb : ∀ X, g X + c X + 10 < 1000) :
    Cl (d + 2) MX1_countLeaf [vR (1, k), vI (nI l), vI (dlt sg)] h none (hup h (10, k) (E (cS sg w u g fun X => c X + (iv l X + sm 8 fun j => bc X (w (8 * l + j)))))) := by
  have hl0 : ∀ j, j < 8 → bc l (w (8 * l + j)) = 0 := fun j hj => by
    refine Classical.byContradiction fun e => ?_
    unfold bc at e
    split at e
    · exact e rfl
    · next h0 =>
      have h1 := iv_pos e
      have h2 := (hB j hj).lead h0
      rw [h1] at h2
      omega
  have hcoi : ∀ n, n ≤ 8 → CO u (fun X => c X + sm n fun j => bc X (w (8 * l + j))) := fun n hn => hco.add (CO.sms (f := fun X j => bc X (w (8 * l + j))) fun j hj => CO.bcs (hB j (by omega)))
  have hsm8 : ∀ n X, n ≤ 8 → (sm n fun j => bc X (w (8 * l + j))) ≤ 8 := fun n X hn => by
    have h1 := sm_le (n := n) (f := fun j => bc X (w (8 * l + j))) (g := fun _ => 1) (fun _ _ => bc_le _ _)
    rw [sm_const] at h1
    omega
  have hmon : ∀ n X, n < 8 → (sm (n + 1) fun j => bc X (w (8 * l + j))) ≤ sm 8 fun j => bc X (w (8 * l + j)) := by
    intro n X hn
    have h1 : ∀ m, n + 1 ≤ m → (sm (n + 1) fun j => bc X (w (8 * l + j))) ≤ sm m fun j => bc X (w (8 * l + j)) := by
      intro m hm
      induction hm with
      | refl => exact Nat.le_refl _
      | step _ ih => exact Nat.le_trans ih (Nat.le_add_right _ _)
    exact h1 8 (by omega)
  have hgel : sg = false → c l + 1 ≤ g l := fun hsg => by
    have h1 := hge hsg l
    rw [iv_self] at h1
    omega
  refine rnN 2 rfl ?_
  refine rnH (hE0 (v := cS sg w u g fun X => c X + sm 0 fun j => bc X (w (8 * l + j))) hw rfl) ?_
  have go := lpN 8 (fun n => ∀ o4 : Option xV, Rn (d + 2) MX1_countLeaf 2 [some (vR (1, k)), some (vI (nI l)), some (vI (dlt sg)), some (vI (nI n)), o4] [] (hup h (10, k) (E (cS sg w u g fun X => c X + sm n fun j => bc X (w (8 * l + j))))) none (hup h (10, k) (E (cS sg w u g fun X => c X + (iv l X + sm 8 fun j => bc X (w (8 * l + j))))))) (fun n hn K => ?_) ?_
  · exact go none
  · intro o4
    have hBn := hB n hn
    have hlt := hBn.lt
    have hrd : cS sg w u g (fun X => c X + sm n fun j => bc X (w (8 * l + j))) (8 * l + n) = w (8 * l + n) := cS_at (hcoi n (by omega)) (by omega) hn (fun hsg => Or.inr (by
      have h1 : (sm n fun j => bc l (w (8 * l + j))) = 0 := sm_zero fun j hj => hl0 j (by omega)
      show (c l + sm n fun j => bc l (w (8 * l + j))) + 1 ≤ g l
      rw [h1]
      exact hgel hsg))
    refine rnN 2 rfl ?_
    refine rnT (nI_lt hn (by decide)) rfl ?_
    refine rnN 4 rfl ?_
    refine rnK rfl (c_at hup_at hl hn) ?_
    rw [hrd]
    refine rnN 2 rfl ?_
    refine rnK rfl (c_isLead (show w (8 * l + n) < 2147483648 by omega)) ?_
    by_cases h2 : 2 < w (8 * l + n)
    · have h4 := hBn.isLead.mp h2
      have hL := hBn.lead h4
      have hp := hL.1.pos
      have ebc : ∀ X, bc X (w (8 * l + n)) = iv (w (8 * l + n) / 4) X := fun X => by unfold bc; rw [if_neg h4]
      rw [if_pos h2]
      refine rnN 4 rfl ?_
      refine rnK rfl (c_clusterOf (show w (8 * l + n) < 2147483648 by omega)) ?_
      refine rnN 1 rfl ?_
      obtain ⟨q1, q2, q3⟩ := (hcoi n (by omega)).kk hs
      have hca := c_addS (d := d) (h := hup h (10, k) (E (cS sg w u g fun X => c X + sm n fun j => bc X (w (8 * l + j))))) (k := k) hup_at hs hp.1 hp.2 (hkB n hn h4) q1 q2 q3 (Or.inr (by omega)) (fun e => by have := hs.ct; rw [e] at hL; omega) (fun hsg => by
        have h5 := hge hsg (w (8 * l + n) / 4)
        have h6 := hmon n (w (8 * l + n) / 4) hn
        rw [sm_succ, ebc, iv_self] at h6
        omega) (by have h5 := hb (w (8 * l + n) / 4); have h6 := hsm8 n (w (8 * l + n) / 4) (by omega); show g _ + (c _ + sm n fun j => bc _ (w (8 * l + j))) + 1 < 1000; omega)
      rw [hup_hup] at hca
      refine rnK rfl (hca) ?_
      refine rnN 2 rfl ?_
      simp (disch := omega) only [nI_add, pk_mul, pk_sub, nd8, nd4, nsub8, nand63, nand7, nshr2, nI_clamp, E_at, hup_at, hup_hup]
      have e : (fun Y => (c Y + sm n fun j => bc Y (w (8 * l + j))) + iv (w (8 * l + n) / 4) Y) = fun X => c X + sm (n + 1) fun j => bc X (w (8 * l + j)) := by
        funext Y
        rw [sm_succ, ebc Y]
        omega
      rw [e]
      exact K _
    · have h4 : w (8 * l + n) / 4 = 0 := Classical.byContradiction fun e => h2 (hBn.isLead.mpr e)
      rw [if_neg h2]
      refine rnN 3 rfl ?_
      simp (disch := omega) only [nI_add, pk_mul, pk_sub, nd8, nd4, nsub8, nand63, nand7, nshr2, nI_clamp, E_at, hup_at, hup_hup]
      have e : (fun X => c X + sm n fun j => bc X (w (8 * l + j))) = fun X => c X + sm (n + 1) fun j => bc X (w (8 * l + j)) := by
        funext Y
        rw [sm_succ]
        unfold bc
        rw [if_pos h4]
        rfl
      rw [e]
      exact K _
  · intro o4
    refine rnN 7 rfl ?_
    obtain ⟨q1, q2, q3⟩ := (hcoi 8 (by omega)).kk hs
    have h80 : (sm 8 fun j => bc l (w (8 * l + j))) = 0 := sm_zero fun j hj => hl0 j hj
    have hca := c_addS (d := d) (h := hup h (10, k) (E (cS sg w u g fun X => c X + sm 8 fun j => bc X (w (8 * l + j))))) (k := k) hup_at hs hl1 hl hkl q1 q2 q3 (Or.inl (by omega)) (fun e => by have := hs.ct; rw [e] at hul; omega) (fun hsg => by
      show (c l + sm 8 fun j => bc l (w (8 * l + j))) + 1 ≤ g l
      rw [h80]
      exact hgel hsg) (by have h5 := hb l; show g l + (c l + sm 8 fun j => bc l (w (8 * l + j))) + 1 < 1000; rw [h80]; omega)
    rw [hup_hup] at hca
    refine rnK rfl (hca) ?_
    have e : (fun Y => (c Y + sm 8 fun j => bc Y (w (8 * l + j))) + iv l Y) = fun X => c X + (iv l X + sm 8 fun j => bc X (w (8 * l + j))) := by
      funext Y
      omega
    rw [e]
    exact rnR rfl
theorem tl_le (w : Nat → Nat) (X t : Nat) : tl w X t ≤ 72 := by
  have h2 := sm_le (n := 8) (f := fun i => lc w X (w (8 * t + i))) (g := fun _ => 9) (fun _ _ => lc_le _ _ _)
  rw [sm_const] at h2
  exact h2
theorem CO.tls {t : Nat} (hL : ∀ i, i < 8 → LOK w u i (w (8 * t + i))) : CO u (fun X => tl w X t) := CO.sms (f := fun X i => lc w X (w (8 * t + i))) fun i hi => CO.lcs (hL i hi) hi
theorem c_countTable {t : Nat} (hw : h (10, k) = E (cS sg w u g fun _ => 0)) (hs : Str w u) (ht : t < 64) (hut : u t < 8) (hL : ∀ i, i < 8 → LOK w u i (w (8 * t + i))) (hkp : KP w t) (hge : sg = false → ∀ X, tl w X t ≤ g X) (hb : ∀ X, g X + 100 < 1000) :
    Cl (d + 3) MX1_countTable [vR (1, k), vI (nI t), vI (dlt sg)] h none (hup h (10, k) (E (cS sg w u g fun X => tl w X t))) := by
  have hcoi : ∀ n, n ≤ 8 → CO u (fun X => sm n fun i => lc w X (w (8 * t + i))) := fun n hn => CO.sms (f := fun X i => lc w X (w (8 * t + i))) fun i hi => CO.lcs (hL i (by omega)) (by omega)
  have hsm8 : ∀ n X, n ≤ 8 → (sm n fun i => lc w X (w (8 * t + i))) ≤ 72 := fun n X hn => by
    have h1 := sm_le (n := n) (f := fun i => lc w X (w (8 * t + i))) (g := fun _ => 9) (fun _ _ => lc_le _ _ _)
    rw [sm_const] at h1
    omega
  have hmon : ∀ n X, n < 8 → (sm (n + 1) fun i => lc w X (w (8 * t + i))) ≤ tl w X t := by
    intro n X hn
    have h1 : ∀ m, n + 1 ≤ m → (sm (n + 1) fun i => lc w X (w (8 * t + i))) ≤ sm m fun i => lc w X (w (8 * t + i)) := by
      intro m hm
      induction hm with
      | refl => exact Nat.le_refl _
      | step _ ih => exact Nat.le_trans ih (Nat.le_add_right _ _)
    exact h1 8 (by omega)
  refine rnN 2 rfl ?_
  refine rnH (hE0 (v := cS sg w u g fun X => sm 0 fun i => lc w X (w (8 * t + i))) hw rfl) ?_
  have go := lpN 8 (fun n => ∀ o4 : Option xV, Rn (d + 3) MX1_countTable 2 [some (vR (1, k)), some (vI (nI t)), some (vI (dlt sg)), some (vI (nI n)), o4] [] (hup h (10, k) (E (cS sg w u g fun X => sm n fun i => lc w X (w (8 * t + i))))) none (hup h (10, k) (E (cS sg w u g fun X => tl w X t)))) (fun n hn K => ?_) ?_
  · exact go none
  · intro o4
    have hLn := hL n hn
    have hlt := hLn.lt
    have ht0 : (sm n fun i => lc w t (w (8 * t + i))) = 0 := Classical.byContradiction fun e => by
      have := hcoi n (by omega) t e
      omega
    have hrd : cS sg w u g (fun X => sm n fun i => lc w X (w (8 * t + i))) (8 * t + n) = w (8 * t + n) := cS_at (hcoi n (by omega)) (by omega) hn (fun hsg => Or.inl ht0)
    refine rnN 2 rfl ?_
    refine rnT (nI_lt hn (by decide)) rfl ?_
    refine rnN 4 rfl ?_
    refine rnK rfl (c_at hup_at ht hn) ?_
    rw [hrd]
    refine rnN 2 rfl ?_
    refine rnK rfl (c_isLead (show w (8 * t + n) < 2147483648 by omega)) ?_
    by_cases h2 : 2 < w (8 * t + n)
    · have h4 := hLn.isLead.mp h2
      have hLl := hLn.lead h4
      have hp := hLl.1.pos
      have elc : ∀ X, lc w X (w (8 * t + n)) = iv (w (8 * t + n) / 4) X + sm 8 fun j => bc X (w (8 * (w (8 * t + n) / 4) + j)) := fun X => by unfold lc; rw [if_neg h4]
      rw [if_pos h2]
      refine rnN 3 rfl ?_
      refine rnK rfl (c_clusterOf (show w (8 * t + n) < 2147483648 by omega)) ?_
      refine rnN 1 rfl ?_
      obtain ⟨q1, q2⟩ := hkp n hn h4
      have hcl := c_countLeaf (d := d) (h := hup h (10, k) (E (cS sg w u g fun X => sm n fun i => lc w X (w (8 * t + i))))) (k := k) hup_at hs hp.1 hp.2 hLl.2.2.1 hn q1 hLl.2.2.2 q2 (hcoi n (by omega)) (fun hsg X => by
        have h5 := hge hsg X
        have h6 := hmon n X hn
        rw [sm_succ, elc] at h6
        omega) (fun X => by have h5 := hb X; have h6 := hsm8 n X (by omega); show g X + (sm n fun i => lc w X (w (8 * t + i))) + 10 < 1000; omega)
      rw [hup_hup] at hcl
      refine rnK rfl (hcl) ?_
      refine rnN 2 rfl ?_
      simp (disch := omega) only [nI_add, pk_mul, pk_sub, nd8, nd4, nsub8, nand63, nand7, nshr2, nI_clamp, E_at, hup_at, hup_hup]
      have e : (fun X => (sm n fun i => lc w X (w (8 * t + i))) + (iv (w (8 * t + n) / 4) X + sm 8 fun j => bc X (w (8 * (w (8 * t + n) / 4) + j)))) = fun X => sm (n + 1) fun i => lc w X (w (8 * t + i)) := by
        funext Y
        rw [← elc Y]
        rfl
      rw [e]
      exact K _
    · have h4 : w (8 * t + n) / 4 = 0 := Classical.byContradiction fun e => h2 (hLn.isLead.mpr e)
      rw [if_neg h2]
      refine rnN 3 rfl ?_
      simp (disch := omega) only [nI_add, pk_mul, pk_sub, nd8, nd4, nsub8, nand63, nand7, nshr2, nI_clamp, E_at, hup_at, hup_hup]
      have e : (fun X => sm n fun i => lc w X (w (8 * t + i))) = fun X => sm (n + 1) fun i => lc w X (w (8 * t + i)) := by
        funext Y
        rw [sm_succ]
        have e1 : lc w Y (w (8 * t + n)) = 0 := by
          unfold lc
          rw [if_pos h4]
        rw [e1]
        rfl
      rw [e]
      exact K _
  · intro o4
    refine rnN 3 rfl ?_
    exact rnR rfl
end CT
end
section
/-! ===== words that agree with a file but for marks, counts and free clusters; what settling makes of them ===== -/
def Agr (v w u : Nat → Nat) : Prop := ∀ p, T w (p / 8) ≠ 0 → (p / 8 = 0 ∨ u (p / 8) < 16 ∨ 24 ≤ u (p / 8)) → v p = w p ∨ (1 ≤ p / 8 ∧ TL u (p / 8) ∧ w p / 4 ≠ 0 ∧ v p / 4 = w p / 4 ∧ v p % 4 ≤ 1)
/-- the words R with counts and free clusters as they are to be -/
def clo (R u : Nat → Nat) : Nat → Nat := cW R u (T R) (fun X => decide (X < 64 ∧ T R X = 0))
/-- settled words -/
def stl (R u : Nat → Nat) : Nat → Nat := flg (clo R u) u
section AG
variable {v w u u' R : Nat → Nat}
theorem Str.T64 (hs : Str w u) {X : Nat} (h : T w X ≠ 0) : X < 64 := by
  rcases T_role h with rfl | rfl | ⟨k, hk, h0, rfl⟩ | ⟨h0, rfl⟩ | h | ⟨t, i, ht, hi, h0, rfl⟩ | ⟨t, i, j, ht, hi, hj, h0, h2, rfl⟩
  · decide
  · exact hs.ct.2.1
  · exact (hs.keep hk h0).1
  · exact (hs.list h0).1
  · exact (hs.tb h).2.1
  · exact ((hs.tw ht hi).lead h0).1.pos.2
  · exact ((hs.bw ht hi hj h0).lead h2).1.pos.2
theorem Agr.refl : Agr w w u := fun p _ _ => Or.inl rfl
theorem Agr.of_eq (hs : Str w u) (h : ∀ p, p < 512 → v p = w p) : Agr v w u := fun p hT _ => Or.inl (h p (by have := hs.T64 hT; omega))
/-- the parts of an agreement -/
theorem Agr.hdr (ha : Agr v w u) {p : Nat} (hp : p < 8) : v p = w p := by
  rcases ha p (by rw [show p / 8 = 0 by omega]; have := T_zero w; omega) (Or.inl (by omega)) with h | h
  · exact h
  · omega
theorem Agr.ctw (ha : Agr v w u) (hs : Str w u) {k : Nat} (hk : k < 8) : v (8 * w 4 + k) = w (8 * w 4 + k) := by
  have h1 := hs.ct
  rcases ha (8 * w 4 + k) (by rw [ix_div hk]; have := T_ct (w := w); omega) (by rw [ix_div hk]; omega) with h | h
  · exact h
  · rw [ix_div hk] at h
    have h2 := h.2.1
    unfold TL at h2
    omega
theorem Agr.lsw (ha : Agr v w u) (hs : Str w u) (h6 : w 6 ≠ 0) {k : Nat} (hk : k < 8) : v (8 * w 6 + k) = w (8 * w 6 + k) := by
  have h1 := hs.list h6
  rcases ha (8 * w 6 + k) (by rw [ix_div hk]; have := T_list h6; omega) (by rw [ix_div hk]; omega) with h | h
  · exact h
  · rw [ix_div hk] at h
    have h2 := h.2.1
    unfold TL at h2
    omega
theorem Agr.tbw (ha : Agr v w u) (hs : Str w u) {t : Nat} (ht : TB w t) {i : Nat} (hi : i < 8) : v (8 * t + i) = w (8 * t + i) ∨ (w (8 * t + i) / 4 ≠ 0 ∧ v (8 * t + i) / 4 = w (8 * t + i) / 4 ∧ v (8 * t + i) % 4 ≤ 1) := by
  have h1 := hs.tb ht
  rcases ha (8 * t + i) (by rw [ix_div hi]; have := T_tab ht; omega) (by rw [ix_div hi]; omega) with h | h
  · exact Or.inl h
  · exact Or.inr h.2.2
theorem Agr.lfw (ha : Agr v w u) (hs : Str w u) {t : Nat} (ht : TB w t) {i j : Nat} (hi : i < 8) (hj : j < 8) (h0 : w (8 * t + i) / 4 ≠ 0) : v (8 * (w (8 * t + i) / 4) + j) = w (8 * (w (8 * t + i) / 4) + j) ∨ (w (8 * (w (8 * t + i) / 4) + j) / 4 ≠ 0 ∧ v (8 * (w (8 * t + i) / 4) + j) / 4 = w (8 * (w (8 * t + i) / 4) + j) / 4 ∧ v (8 * (w (8 * t + i) / 4) + j) % 4 ≤ 1) := by
  have h1 := ((hs.tw ht hi).lead h0).2.2.1
  rcases ha (8 * (w (8 * t + i) / 4) + j) (by rw [ix_div hj]; have := T_leaf ht hi h0; omega) (by rw [ix_div hj]; omega) with h | h
  · exact Or.inl h
  · exact Or.inr h.2.2
theorem Agr.tb4 (ha : Agr v w u) (hs : Str w u) {t : Nat} (ht : TB w t) {i : Nat} (hi : i < 8) : v (8 * t + i) / 4 = w (8 * t + i) / 4 := by
  rcases ha.tbw hs ht hi with h | h
  · rw [h]
  · exact h.2.1
theorem Agr.lf4 (ha : Agr v w u) (hs : Str w u) {t : Nat} (ht : TB w t) {i j : Nat} (hi : i < 8) (hj : j < 8) (h0 : w (8 * t + i) / 4 ≠ 0) : v (8 * (w (8 * t + i) / 4) + j) / 4 = w (8 * (w (8 * t + i) / 4) + j) / 4 := by
  rcases ha.lfw hs ht hi hj h0 with h | h
  · rw [h]
  · exact h.2.1
theorem Agr.etab (ha : Agr v w u) (hs : Str w u) {j : Nat} (hj : j < w 5) : tab v j = tab w j := by
  unfold tab
  rw [ha.hdr (p := 6) (by decide)]
  have h5 := hs.ns
  exact ha.lsw hs (h5.2 (by omega)) (k := 2 * j) (by omega)
theorem Agr.eTB (ha : Agr v w u) (hs : Str w u) {t : Nat} : TB v t ↔ TB w t := by
  have e3 := ha.hdr (p := 3) (by decide)
  have e5 := ha.hdr (p := 5) (by decide)
  constructor
  · rintro (rfl | ⟨j, hj, rfl⟩)
    · exact Or.inl e3
    · rw [e5] at hj
      rw [ha.etab hs hj]
      exact tab_tb hj
  · rintro (rfl | ⟨j, hj, rfl⟩)
    · exact Or.inl e3.symm
    · exact Or.inr ⟨j, by rw [e5]; exact hj, (ha.etab hs hj).symm⟩
theorem Agr.eT (ha : Agr v w u) (hs : Str w u) (X : Nat) : T v X = T w X := by
  have htc : ∀ t, TB w t → tc v X t = tc w X t := fun t ht => tc_congr (fun i hi => ha.tb4 hs ht hi) (fun i hi h0 j hj => ha.lf4 hs ht hi hj h0)
  have e1 := TF (v := v) X (fun p _ hp => ha.hdr (by omega)) (fun k hk => ha.ctw hs hk) (fun j hj => ha.etab hs hj) (fun j hj => htc _ (tab_tb hj))
  rw [htc _ act_tb] at e1
  omega
theorem LD.near {x y : Nat} (h : LD x) (e : y / 4 = x / 4) (h1 : y % 4 ≤ 1) : LD y := by
  obtain ⟨a, b, c⟩ := h
  unfold LD
  omega
theorem Agr.eS (ha : Agr v w u) (hs : Str w u) : Str v u := by
  have hBB : ∀ t i j, TB w t → i < 8 → j < 8 → w (8 * t + i) / 4 ≠ 0 → BOK (w 2) u i j (v (8 * (w (8 * t + i) / 4) + j)) := fun t i j ht hi hj h0 => by
    have hb := hs.bw ht hi hj h0
    rcases ha.lfw hs ht hi hj h0 with e | ⟨e1, e2, e3⟩
    · rw [e]; exact hb
    · have hl := hb.lead e1
      exact Or.inr ⟨hl.2.1, Or.inr ⟨hl.1.near e2 e3, by rw [e2]; exact hl.2.2⟩⟩
  refine StrF hs (fun X _ => rfl) (fun p _ hp => ha.hdr (by omega)) (fun k hk => Or.inl (ha.ctw hs hk)) (fun h6 j hj => ha.lsw hs h6 (by have := hs.ns; omega)) (fun t i ht hi => ?_) (fun t i j ht hi hj _ h0 => Or.inr (hBB t i j ht hi hj h0))
  rcases ha.tbw hs ht hi with e | ⟨e1, e2, e3⟩
  · exact Or.inl e
  · have hl := (hs.tw ht hi).lead e1
    refine Or.inr (Or.inr ⟨hl.1.near e2 e3, by rw [ha.hdr (by decide)]; exact hl.2.1, by rw [e2]; exact hl.2.2.1, fun j hj => ?_⟩)
    rw [e2, ha.hdr (by decide)]
    exact hBB t i j ht hi hj e1
/-- what an agreement passes on -/
theorem Agr.trans {x : Nat → Nat} (h1 : Agr x v u) (ha : Agr v w u) (hs : Str w u) : Agr x w u := fun p hT hu => by
  rcases ha p hT hu with e | ⟨a1, a2, a3, a4, a5⟩
  · rcases h1 p (by rw [ha.eT hs]; exact hT) hu with e2 | ⟨b1, b2, b3, b4, b5⟩
    · exact Or.inl (e2.trans e)
    · rw [e] at b3 b4
      exact Or.inr ⟨b1, b2, b3, b4, b5⟩
  · rcases h1 p (by rw [ha.eT hs]; exact hT) hu with e2 | ⟨b1, b2, b3, b4, b5⟩
    · rw [← e2] at a4 a5
      exact Or.inr ⟨a1, a2, a3, a4, a5⟩
    · exact Or.inr ⟨a1, a2, a3, b4.trans a4, b5⟩
/-! closing -/
theorem clo_out (hs : Str R u) {p : Nat} (hT : T R (p / 8) ≠ 0) (hu : p / 8 = 0 ∨ u (p / 8) < 16 ∨ 24 ≤ u (p / 8)) : clo R u p = R p :=
  cW_out (decide_eq_false (fun e => hT e.2)) (by omega)
theorem clo_agr (hs : Str R u) : Agr (clo R u) R u := fun p hT hu => Or.inl (clo_out hs hT hu)
theorem clo_free {p : Nat} (h : p < 512) (hT : T R (p / 8) = 0) : clo R u p = 0 := by
  unfold clo cW
  rw [if_pos (decide_eq_true ⟨by omega, hT⟩)]
theorem clo_cpl (hs : Str R u) {X : Nat} (hX : X < 64) (h0 : R (8 * R 4 + X / 8) ≠ 0) : clo R u (cpl R X) = T R X :=
  cW_cpl hs hX h0 (decide_eq_false (fun e => by have := T_keep (show X / 8 < 8 by omega) h0; omega))
/-- a count's place: whose it is -/
theorem Str.kpl (hs : Str R u) {p : Nat} (hT : T R (p / 8) ≠ 0) (h1 : p / 8 ≠ 0) (h2 : 16 ≤ u (p / 8)) (h3 : u (p / 8) < 24) : R (8 * R 4 + (u (p / 8) - 16)) = p / 8 := by
  rcases T_role hT with e | e | ⟨k, hk, h0, e⟩ | ⟨h0, e⟩ | h | ⟨t, i, ht, hi, h0, e⟩ | ⟨t, i, j, ht, hi, hj, h0, h4, e⟩
  · exact absurd e h1
  · have := hs.ct; rw [← e] at this; omega
  · have h5 := (hs.keep hk h0).2
    rw [← e] at h5
    rw [show u (p / 8) - 16 = k by omega]
    exact e.symm
  · have := hs.list h0; rw [← e] at this; omega
  · have := (hs.tb h).2.2; omega
  · have := ((hs.tw ht hi).lead h0).2.2.1; rw [← e] at this; omega
  · have := ((hs.bw ht hi hj h0).lead h4).2.2; rw [← e] at this; omega
theorem clo_inv (hs : Str R u) (hH : Hd R) (hb : ∀ p, R p < 4294967296) (hk : ∀ X, X < 64 → T R X ≠ 0 → R (8 * R 4 + X / 8) ≠ 0) : Inv (clo R u) u ∧ ∀ X, T (clo R u) X = T R X := by
  have ha := clo_agr hs
  have hT := fun X => ha.eT hs X
  refine ⟨⟨ha.eS hs, fun X hX => ?_, fun X hX h0 j hj => ?_, ?_, fun p => ?_⟩, hT⟩
  · rw [hT, cnt_of (ha.hdr (by decide)) (fun k hk2 => ha.ctw hs hk2) hX]
    split
    · next h0 => exact (Classical.byContradiction fun e => hk X hX (fun e2 => e e2.symm) h0)
    · next h0 => exact clo_cpl hs hX h0
  · rw [hT] at h0
    exact clo_free (by omega) (by rw [ix_div hj]; exact h0)
  · obtain ⟨g0, g1, g7, gl, gn⟩ := hH
    have e5 := ha.hdr (p := 5) (by decide)
    have e6 := ha.hdr (p := 6) (by decide)
    refine ⟨by rw [ha.hdr (by decide)]; exact g0, by rw [ha.hdr (by decide)]; exact g1, by rw [ha.hdr (by decide)]; exact g7, ?_, ?_⟩
    · rw [e5, e6]
      intro h6 j hj hj8
      rw [ha.lsw hs h6 hj8]
      exact gl h6 j hj hj8
    · rw [e5, e6]
      intro i j hi hj
      have h5 := hs.ns
      have h6 := h5.2 (by omega)
      rw [show 8 * R 6 + 2 * i + 1 = 8 * R 6 + (2 * i + 1) by omega, show 8 * R 6 + 2 * j + 1 = 8 * R 6 + (2 * j + 1) by omega, ha.lsw hs h6 (by omega), ha.lsw hs h6 (by omega)]
      exact gn i j hi hj
  · unfold clo cW
    split
    · omega
    · split
      · have := T_le hs.ns.1 (8 * (u (p / 8) - 16) + p % 8); omega
      · exact hb p
/-! marking -/
theorem mk_congr {x : Nat} (hT : ∀ X, T v X = T w X) : mk v x = mk w x := by
  unfold mk
  rw [hT]
theorem mk_mod {x : Nat} (h : x / 4 ≠ 0) : mk w x % 4 ≤ 1 := by
  rw [mk_lead h]
  split <;> omega
theorem flg_agr (w u : Nat → Nat) : Agr (flg w u) w u := fun p hT hu => by
  unfold flg fS
  by_cases e : tlB u (p / 8) = true
  · have h1 := of_decide_eq_true e
    rw [if_pos e]
    by_cases h0 : w p / 4 = 0
    · exact Or.inl (mk_flat h0)
    · exact Or.inr ⟨h1.1, h1.2.2, h0, mk_div _ _, mk_mod h0⟩
  · rw [if_neg e]
    exact Or.inl rfl
theorem tlB_iff {c : Nat} : tlB u c = true ↔ 1 ≤ c ∧ c < 64 ∧ TL u c := by
  unfold tlB TL
  exact decide_eq_true_iff
theorem flg_out {p : Nat} (h : ¬ (1 ≤ p / 8 ∧ p / 8 < 64 ∧ TL u (p / 8))) : flg w u p = w p := by
  unfold flg fS
  exact if_neg (fun e => h (tlB_iff.mp e))
theorem flg_in {p : Nat} (h : 1 ≤ p / 8 ∧ p / 8 < 64 ∧ TL u (p / 8)) : flg w u p = mk w (w p) := by
  unfold flg fS
  exact if_pos (tlB_iff.mpr h)
theorem flg_inv (hi : Inv w u) : Inv (flg w u) u ∧ (∀ X, T (flg w u) X = T w X) ∧ flg (flg w u) u = flg w u := by
  have hs := hi.1
  have ha := flg_agr w u
  have hT := fun X => ha.eT hs X
  refine ⟨Inv_mk hi (ha.eS hs) (fun p hp => ha.hdr hp) (fun k hk => ha.ctw hs hk) (fun h6 j hj => ha.lsw hs h6 hj) (fun X hX => ?_) (fun X hX h0 j hj => ?_) (fun p => ?_), hT, ?_⟩
  · rw [hT]
    split
    · next h0 => exact (hi.noK hX h0).symm
    · next h0 =>
      have h1 := cpl_in hs hX h0
      rw [flg_out (fun e => by have h2 := e.2.2; unfold TL at h2; omega)]
      exact hi.cntAt hX h0
  · rw [hT] at h0
    have h1 := hi.2.2.1 X hX h0 j hj
    by_cases e : 1 ≤ (8 * X + j) / 8 ∧ (8 * X + j) / 8 < 64 ∧ TL u ((8 * X + j) / 8)
    · rw [flg_in e, h1]
      rfl
    · rw [flg_out e, h1]
  · have h1 := hi.2.2.2.2 p
    by_cases e : 1 ≤ p / 8 ∧ p / 8 < 64 ∧ TL u (p / 8)
    · rw [flg_in e]
      unfold mk
      split
      · exact h1
      · split <;> omega
    · rw [flg_out e]
      exact h1
  · funext p
    by_cases e : 1 ≤ p / 8 ∧ p / 8 < 64 ∧ TL u (p / 8)
    · rw [flg_in e, flg_in e, mk_congr hT, mk_mk]
    · rw [flg_out e]
/-- roles don't matter to the marks -/
theorem flg_u (hi : Inv w u) (hi' : Inv w u') : flg w u = flg w u' := by
  have key : ∀ {a b : Nat → Nat} {p : Nat}, Inv w a → Inv w b → (1 ≤ p / 8 ∧ p / 8 < 64 ∧ TL a (p / 8)) → flg w a p = flg w b p := by
    intro a b p ha hb e
    rw [flg_in e]
    by_cases e2 : 1 ≤ p / 8 ∧ p / 8 < 64 ∧ TL b (p / 8)
    · rw [flg_in e2]
    · rw [flg_out e2]
      by_cases hT : T w (p / 8) = 0
      · have h1 := ha.2.2.1 (p / 8) e.2.1 hT (p % 8) (by omega)
        rw [show 8 * (p / 8) + p % 8 = p by omega] at h1
        rw [h1]
        rfl
      · exfalso
        rcases TL_role ha.1 e.1 e.2.2 hT with h4 | ⟨t, i, ht, h5, h6, h7⟩
        · exact e2 ⟨e.1, e.2.1, by have := (hb.1.tb h4).2.2; unfold TL; omega⟩
        · exact e2 ⟨e.1, e.2.1, by have := ((hb.1.tw ht h5).lead h6).2.2.1; rw [← h7] at this; unfold TL; omega⟩
  funext p
  by_cases e : 1 ≤ p / 8 ∧ p / 8 < 64 ∧ TL u (p / 8)
  · exact key hi hi' e
  · by_cases e2 : 1 ≤ p / 8 ∧ p / 8 < 64 ∧ TL u' (p / 8)
    · exact (key hi' hi e2).symm
    · rw [flg_out e, flg_out e2]
/-- what settling makes of words that agree with a file -/
theorem stl_agr (hi : Inv w u) (ha : Agr v w u) : ∀ p, p < 512 → stl v u p = flg w u p := by
  intro p hp
  have hs := hi.1
  have hsv := ha.eS hs
  have hT := fun X => ha.eT hs X
  have hTc : ∀ X, T (clo v u) X = T w X := fun X => ((clo_agr hsv).eT hsv X).trans (hT X)
  unfold stl
  by_cases hz : T w (p / 8) = 0
  · have h1 := hi.2.2.1 (p / 8) (by omega) hz (p % 8) (by omega)
    rw [show 8 * (p / 8) + p % 8 = p by omega] at h1
    have h2 : clo v u p = 0 := clo_free hp (by rw [hT]; exact hz)
    by_cases e : 1 ≤ p / 8 ∧ p / 8 < 64 ∧ TL u (p / 8)
    · rw [flg_in e, flg_in e, h1, h2]
      rfl
    · rw [flg_out e, flg_out e, h1, h2]
  · by_cases hu : p / 8 = 0 ∨ u (p / 8) < 16 ∨ 24 ≤ u (p / 8)
    · have h2 : clo v u p = v p := clo_out hsv (by rw [hT]; exact hz) hu
      by_cases e : 1 ≤ p / 8 ∧ p / 8 < 64 ∧ TL u (p / 8)
      · rw [flg_in e, flg_in e, h2, mk_congr hTc]
        rcases ha p hz hu with e2 | ⟨a1, a2, a3, a4, a5⟩
        · rw [e2]
        · rw [mk_lead (by rw [a4]; exact a3), mk_lead a3, a4]
      · rw [flg_out e, flg_out e, h2]
        rcases ha p hz hu with e2 | ⟨a1, a2, a3, a4, a5⟩
        · exact e2
        · exact absurd ⟨a1, by omega, a2⟩ e
    · have e : ¬ (1 ≤ p / 8 ∧ p / 8 < 64 ∧ TL u (p / 8)) := fun e => by
        have := e.2.2
        unfold TL at this
        omega
      rw [flg_out e, flg_out e]
      have h4 := hs.kpl hz (by omega) (by omega) (by omega)
      have h4v := hsv.kpl (p := p) (by rw [hT]; exact hz) (by omega) (by omega) (by omega)
      have hX : 8 * (u (p / 8) - 16) + p % 8 < 64 := by omega
      have e1 : cpl w (8 * (u (p / 8) - 16) + p % 8) = p := by
        unfold cpl
        rw [ix_div (by omega), ix_mod (by omega), h4]
        omega
      have e2 : cpl v (8 * (u (p / 8) - 16) + p % 8) = p := by
        unfold cpl
        rw [ix_div (by omega), ix_mod (by omega), h4v]
        omega
      have h5 := hi.cntAt hX (by rw [ix_div (by omega), h4]; omega)
      have h6 := clo_cpl hsv hX (by rw [ix_div (by omega), h4v]; omega)
      rw [e1] at h5
      rw [e2] at h6
      rw [h5, h6, hT]
end AG
end
section
/-! ===== returnTo ===== -/
section RV
variable {d k : Nat} {h : xH} {w v u u' R V g c : Nat → Nat}
/-- a file's words are the settled ones but for marks, by their parts -/
theorem eq_clo (hs : Str R u) (h1 : ∀ X, X < 64 → R (8 * R 4 + X / 8) ≠ 0 → V (cpl R X) = T R X) (h2 : ∀ p, p < 512 → T R (p / 8) = 0 → V p = 0)
    (h3 : ∀ p, (512 ≤ p ∨ T R (p / 8) ≠ 0) → ¬ kp R p → V p = R p) : V = clo R u := by
  funext p
  unfold clo cW
  by_cases e : p / 8 < 64 ∧ T R (p / 8) = 0
  · rw [if_pos (decide_eq_true e)]
    exact h2 p (by omega) e.2
  · rw [if_neg (fun z => e (of_decide_eq_true z))]
    by_cases e2 : p / 8 ≠ 0 ∧ 16 ≤ u (p / 8) ∧ u (p / 8) < 24 ∧ R (8 * R 4 + (u (p / 8) - 16)) = p / 8
    · rw [if_pos e2]
      obtain ⟨a1, a2, a3, a4⟩ := e2
      have h5 := h1 (8 * (u (p / 8) - 16) + p % 8) (by omega) (by rw [ix_div (by omega), a4]; exact a1)
      have e3 : cpl R (8 * (u (p / 8) - 16) + p % 8) = p := by
        unfold cpl
        rw [ix_div (by omega), ix_mod (by omega), a4]
        omega
      rw [e3] at h5
      exact h5
    · rw [if_neg e2]
      refine h3 p (by omega) ?_
      rintro ⟨k, hk, h0, e3⟩
      have h5 := hs.keep hk h0
      rw [← e3] at h5
      exact e2 ⟨by omega, by omega, by omega, by rw [show u (p / 8) - 16 = k by omega]; exact e3.symm⟩
theorem cS_true : cS true w u g c = cW w u (fun X => g X + c X) (fun _ => false) := by
  unfold cS
  congr 1
theorem cS_false0 : cS false w u g (fun _ => 0) = cW w u g (fun _ => false) := by
  unfold cS
  congr 1
theorem Inv.kp (hi : Inv w u) {t : Nat} (ht : TB w t) : KP w t := by
  have hs := hi.1
  have hk : ∀ X, X < 64 → 1 ≤ T w X → w (8 * w 4 + X / 8) ≠ 0 := fun X hX h1 e => by have := hi.noK hX e; omega
  refine fun i hi8 h0 => ⟨hk _ ((hs.tw ht hi8).lead h0).1.pos.2 (T_leaf ht hi8 h0), fun j hj h1 => hk _ ((hs.bw ht hi8 hj h0).lead h1).1.pos.2 (T_blk ht hi8 hj h0 h1)⟩
/-- the words behind returnTo, but for counts and marks -/
def rvR (w : Nat → Nat) (j : Nat) : Nat → Nat := cpc w w (tab w j) (w 3)
theorem rv_spec (hi : Inv w u) {j : Nat} (hj : j < w 5) : Str (rvR w j) u ∧ (∀ X, T (rvR w j) X + tl w X (w 3) = T w X + tl w X (tab w j)) ∧ Inv (clo (rvR w j) u) u
    ∧ (∀ p, p / 8 ≠ w 3 → rvR w j p = w p) ∧ ∀ i, i < 8 → rvR w j (8 * w 3 + i) = w (8 * tab w j + i) := by
  have hs := hi.1
  have hact := hs.act
  have htj := hs.tab hj
  have hns := hs.ns
  have hO : ∀ p, p / 8 ≠ w 3 → rvR w j p = w p := fun p hp => by unfold rvR cpc; rw [if_neg hp]
  have hA : ∀ i, i < 8 → rvR w j (8 * w 3 + i) = w (8 * tab w j + i) := fun i hi8 => by unfold rvR cpc; rw [if_pos (by omega)]; congr 1; omega
  have hcl : ∀ X i, i < 8 → u X ≠ 1 → rvR w j (8 * X + i) = w (8 * X + i) := fun X i hi8 hu => hO _ (by rw [ix_div hi8]; intro e; rw [e] at hu; omega)
  have hH : ∀ p, p < 8 → rvR w j p = w p := fun p hp => hO p (by omega)
  have hct : ∀ k, k < 8 → rvR w j (8 * w 4 + k) = w (8 * w 4 + k) := fun k hk => hcl _ k hk (by have := hs.ct; omega)
  have hls : w 6 ≠ 0 → ∀ k, k < 8 → rvR w j (8 * w 6 + k) = w (8 * w 6 + k) := fun h6 k hk => hcl _ k hk (by have := hs.list h6; omega)
  have hLF : ∀ t i l, TB w t → i < 8 → l < 8 → w (8 * t + i) / 4 ≠ 0 → rvR w j (8 * (w (8 * t + i) / 4) + l) = w (8 * (w (8 * t + i) / 4) + l) := fun t i l ht hi8 hl h0 => hcl _ l hl (by have := ((hs.tw ht hi8).lead h0).2.2.1; omega)
  have htw : ∀ m i, m < w 5 → i < 8 → rvR w j (8 * tab w m + i) = w (8 * tab w m + i) := fun m i hm hi8 => hcl _ i hi8 (by have := hs.tab hm; omega)
  have etab : ∀ m, m < w 5 → tab (rvR w j) m = tab w m := fun m hm => by
    unfold tab
    rw [hH 6 (by decide)]
    exact hls (hns.2 (by omega)) (2 * m) (by omega)
  have hS : Str (rvR w j) u := by
    refine StrF hs (fun X _ => rfl) (fun p _ hp => hH p (by omega)) (fun k hk => Or.inl (hct k hk)) (fun h6 m hm => hls h6 (2 * m) (by omega)) (fun t i ht hi8 => ?_) (fun t i l ht hi8 hl _ h0 => Or.inl (hLF t i l ht hi8 hl h0))
    rcases ht with rfl | ⟨m, hm, rfl⟩
    · right
      rw [hA i hi8]
      rcases hs.tw (tab_tb hj) hi8 with e | ⟨a1, a2, a3, a4⟩
      · exact Or.inl e
      · refine Or.inr ⟨a1, by rw [hH 2 (by decide)]; exact a2, a3, fun l hl => ?_⟩
        rw [hH 2 (by decide), hLF _ i l (tab_tb hj) hi8 hl (by have := a1.pos; omega)]
        exact a4 l hl
    · exact Or.inl (htw m i hm hi8)
  have hT : ∀ X, T (rvR w j) X + tl w X (w 3) = T w X + tl w X (tab w j) := by
    intro X
    have e1 := TF (v := rvR w j) X (fun p _ hp => hH p (by omega)) hct etab (fun m hm => tc_congr (fun i hi8 => by rw [htw m i hm hi8]) (fun i hi8 h0 l hl => by rw [hLF _ i l (tab_tb hm) hi8 hl h0]))
    have e2 : tl (rvR w j) X (w 3) = tl w X (tab w j) := sm_congr fun i hi8 => by
      rw [hA i hi8]
      exact lc_congr fun h0 l hl => by rw [hLF _ i l (tab_tb hj) hi8 hl h0]
    rw [tc_tl, tc_tl, e2] at e1
    omega
  have hge : ∀ X, tl w X (w 3) ≤ T w X := fun X => by have := T_tc (w := w) (X := X) act_tb; rw [tc_tl] at this; omega
  refine ⟨hS, hT, (clo_inv hS ?_ (fun p => ?_) (fun X hX h0 => ?_)).1, hO, hA⟩
  · obtain ⟨g0, g1, g7, gl, gn⟩ := hi.2.2.2.1
    refine ⟨by rw [hH 0 (by decide)]; exact g0, by rw [hH 1 (by decide)]; exact g1, by rw [hH 7 (by decide)]; exact g7, ?_, ?_⟩
    · rw [hH 5 (by decide), hH 6 (by decide)]
      intro h6 m hm hm8
      rw [hls h6 m hm8]
      exact gl h6 m hm hm8
    · rw [hH 5 (by decide), hH 6 (by decide)]
      intro i m hi2 hm
      have h6 := hns.2 (by omega)
      rw [show 8 * w 6 + 2 * i + 1 = 8 * w 6 + (2 * i + 1) by omega, show 8 * w 6 + 2 * m + 1 = 8 * w 6 + (2 * m + 1) by omega, hls h6 _ (by omega), hls h6 _ (by omega)]
      exact gn i m hi2 hm
  · unfold rvR cpc
    split
    · exact hi.2.2.2.2 _
    · exact hi.2.2.2.2 _
  · rw [hH 4 (by decide), hct _ (by omega)]
    intro e
    have h1 := hi.noK hX e
    have h2 := hT X
    have h3 := hge X
    have h4 : tl w X (tab w j) ≤ T w X := by have := T_tc (w := w) (X := X) (tab_tb hj); rw [tc_tl] at this; omega
    omega
theorem c_returnTo {j : Nat} (hw : h (10, k) = E w) (hi : Inv w u) (hj : j < w 5) : Cl (d + 5) MX1_returnTo [vR (1, k), vI (nI j)] h none (hup h (10, k) (E (stl (rvR w j) u))) := by
  have hs := hi.1
  have hns := hs.ns
  have h6 := hns.2 (by omega)
  have hls := hs.list h6
  have htj := hs.tab hj
  have hact := hs.act
  obtain ⟨hS, hT, hI, hO, hA⟩ := rv_spec hi hj
  have hTle := fun X => T_le (w := w) hns.1 X
  have hta : ∀ X, tl w X (w 3) ≤ T w X := fun X => by have := T_tc (w := w) (X := X) act_tb; rw [tc_tl] at this; omega
  have htt : ∀ X, tl w X (tab w j) ≤ T w X := fun X => by have := T_tc (w := w) (X := X) (tab_tb hj); rw [tc_tl] at this; omega
  have c1 := c_countTable (d := d + 1) (h := h) (k := k) (sg := true) (w := w) (u := u) (g := T w) (t := tab w j) (by rw [cS_0 hi]; exact hw) hs htj.2.1 (by omega) (fun i hi8 => hs.tw (tab_tb hj) hi8) (hi.kp (tab_tb hj)) (fun e => by cases e) (fun X => by have := hTle X; omega)
  rw [show dlt true = nI 1 from rfl, cS_true] at c1
  have c2 := c_countTable (d := d + 1) (h := hup h (10, k) (E (cW w u (fun X => T w X + tl w X (tab w j)) fun _ => false))) (k := k) (sg := false) (w := w) (u := u) (g := fun X => T w X + tl w X (tab w j)) (t := w 3) (by rw [hup_at, cS_false0]) hs hact.2.1 (by omega) (fun i hi8 => hs.tw act_tb hi8) (hi.kp act_tb) (fun _ X => by have := hta X; show tl w X (w 3) ≤ T w X + tl w X (tab w j); omega) (fun X => by have := hTle X; have := tl_le w X (tab w j); show T w X + tl w X (tab w j) + 100 < 1000; omega)
  rw [show dlt false = -1 from rfl, hup_hup] at c2
  obtain ⟨x, hx⟩ : ∃ x, x = cS false w u (fun X => T w X + tl w X (tab w j)) (fun X => tl w X (w 3)) := ⟨_, rfl⟩
  rw [← hx] at c2
  have hco : CO u (fun X => tl w X (w 3)) := CO.tls fun i hi8 => hs.tw act_tb hi8
  have hx0 : ∀ X i, (u X < 8 ∨ X = 0) → i < 8 → x (8 * X + i) = w (8 * X + i) := fun X i hX hi8 => by
    rw [hx]
    exact cS_at hco (by omega) hi8 (fun _ => Or.inl (Classical.byContradiction fun e => by have := hco X e; omega))
  have hx3 : x 3 = w 3 := by have := hx0 0 3 (Or.inr rfl) (by decide); rwa [show 8 * 0 + 3 = 3 by omega] at this
  have hne : tab w j ≠ w 3 := fun e => by rw [e] at htj; omega
  have hV : cpc x x (tab w j) (w 3) = clo (rvR w j) u := by
    have eR4 : rvR w j 4 = w 4 := hO 4 (by omega)
    have eRk : ∀ k, k < 8 → rvR w j (8 * w 4 + k) = w (8 * w 4 + k) := fun k hk => hO _ (by rw [ix_div hk]; intro e; have := hs.ct; rw [e] at this; omega)
    have ecpl : ∀ X, X < 64 → cpl (rvR w j) X = cpl w X := fun X hX => by unfold cpl; rw [eR4, eRk _ (by omega)]
    have ekp : ∀ p, kp (rvR w j) p ↔ kp w p := fun p => by
      constructor
      · rintro ⟨k, hk, h0, e⟩
        rw [eR4, eRk k hk] at h0 e
        exact ⟨k, hk, h0, e⟩
      · rintro ⟨k, hk, h0, e⟩
        exact ⟨k, hk, by rw [eR4, eRk k hk]; exact h0, by rw [eR4, eRk k hk]; exact e⟩
    refine eq_clo hS (fun X hX h0 => ?_) (fun p hp h0 => ?_) (fun p hp hk => ?_)
    · rw [eR4, eRk _ (by omega)] at h0
      have h1 := cpl_in hs hX h0
      rw [ecpl X hX]
      unfold cpc
      rw [if_neg (fun e => by rw [e] at h1; omega), hx]
      have h2 := cW_cpl (g := fun X => val false (T w X + tl w X (tab w j)) (tl w X (w 3))) (Z := zS false (fun X => T w X + tl w X (tab w j)) (fun X => tl w X (w 3))) hs hX h0 (zS_false (fun _ e => by have := hco _ e; have := hs.keep (show X / 8 < 8 by omega) h0; omega))
      have h3 : val false (T w X + tl w X (tab w j)) (tl w X (w 3)) = T (rvR w j) X := by
        have h4 : val false (T w X + tl w X (tab w j)) (tl w X (w 3)) = T w X + tl w X (tab w j) - tl w X (w 3) := rfl
        rw [h4]
        have := hT X
        omega
      rw [← h3]
      exact h2
    · have h1 := hT (p / 8)
      have h2 := hta (p / 8)
      unfold cpc
      rw [if_neg (fun e => by have h3 := T_act (w := rvR w j); rw [hO 3 (by omega), ← e] at h3; omega), hx]
      by_cases h3 : tl w (p / 8) (w 3) = 0
      · have h4 := hi.2.2.1 (p / 8) (by omega) (by omega) (p % 8) (by omega)
        rw [show 8 * (p / 8) + p % 8 = p by omega] at h4
        unfold cS cW
        split
        · rfl
        · split
          · next h5 =>
            have h6 := T_keep (w := w) (k := u (p / 8) - 16) (by omega) (by rw [h5.2.2.2]; exact h5.1)
            rw [h5.2.2.2] at h6
            omega
          · exact h4
      · unfold cS cW
        rw [if_pos]
        unfold zS
        simp only [Bool.not_false, Bool.true_and, decide_eq_true_eq]
        omega
    · rw [ekp] at hk
      unfold cpc
      by_cases e : p / 8 = w 3
      · rw [if_pos e, hx0 _ _ (by omega) (by omega)]
        have := hA (p % 8) (by omega)
        rw [← e, show 8 * (p / 8) + p % 8 = p by omega] at this
        exact this.symm
      · rw [if_neg e, hO p e, hx]
        unfold cS cW
        rw [if_neg, if_neg]
        · rintro ⟨a1, a2, a3, a4⟩
          exact hk ⟨u (p / 8) - 16, by omega, by rw [a4]; exact a1, a4.symm⟩
        · unfold zS
          simp only [Bool.not_false, Bool.true_and, decide_eq_true_eq]
          rintro ⟨a1, a2⟩
          have h1 := hT (p / 8)
          rcases hp with hp | hp
          · have h2 : T w (p / 8) ≠ 0 := by have := hta (p / 8); omega
            have := hs.T64 h2
            omega
          · omega
  have c3 := c_copySame (d := d + 3) (h := hup h (10, k) (E x)) (k := k) hup_at htj.2.1 hact.2.1 hne
  rw [hup_hup, hV] at c3
  have c4 := c_tellFlags (d := d) (h := hup h (10, k) (E (clo (rvR w j) u))) (k := k) hup_at hI
  rw [hup_hup] at c4
  refine rnN 2 rfl ?_
  refine rnK rfl (c_snapshotTable hw hls.1 (show j < 4 by omega)) ?_
  refine rnN 4 rfl ?_
  refine rnK rfl (c1) ?_
  refine rnN 2 rfl ?_
  refine rnK rfl (c_activeTable hup_at) ?_
  rw [cW_out (p := 3) rfl (by omega)]
  refine rnN 1 rfl ?_
  refine rnK rfl (c2) ?_
  refine rnN 6 rfl ?_
  refine rnK rfl (c_activeTable hup_at) ?_
  rw [hx3]
  refine rnK rfl (c3) ?_
  refine rnN 1 rfl ?_
  refine rnK rfl (c4) ?_
  exact rnR rfl
end RV
end
section
/-! ===== removeSnapshot ===== -/
/-- a list's words without its j-th snapshot, of n -/
def gapF (x : Nat → Nat) (l n j : Nat) : Nat → Nat := fun p => if p / 8 = l then (if p % 8 < 2 * j then x p else if p % 8 < 2 * n - 2 then x (p + 2) else if p % 8 < 2 * n then 0 else x p) else x p
/-- the words behind removeSnapshot, but for counts and marks -/
def dlR (w : Nat → Nat) (j : Nat) : Nat → Nat := fun p => if p = 5 then w 5 - 1 else if p = 6 then (if w 5 = 1 then 0 else w 6) else if p / 8 = w 6 then (if p % 8 < 2 * j then w p else if p % 8 < 6 then w (p + 2) else 0) else w p
def dlU (u : Nat → Nat) (j : Nat) : Nat → Nat := fun X => if 4 + j < u X ∧ u X < 8 then u X - 1 else u X
section DL
variable {d k : Nat} {h : xH} {w x u u' R V g c : Nat → Nat}
theorem tc_none (hs : Str w u) {t X : Nat} (ht : TB w t) (hX : X ≠ t) (hu : u X < 8 ∨ (16 ≤ u X ∧ u X < 24)) : tc w X t = 0 := by
  have h1 : tl w X t = 0 := Classical.byContradiction fun e => by
    have := (CO.tls fun i hi8 => hs.tw ht hi8) X e
    omega
  rw [tc_tl, h1, iv_ne hX.symm]
theorem T_list1 (hs : Str w u) (h6 : w 6 ≠ 0) : T w (w 6) = 1 := by
  have hl := hs.list h6
  have hc := hs.ct
  have h1 : kc w (w 6) = 0 := sm_zero fun k hk => by
    show (if w (8 * w 4 + k) = 0 then 0 else iv (w (8 * w 4 + k)) (w 6)) = 0
    split
    · rfl
    · next h0 => exact iv_ne fun e => by have := hs.keep hk h0; rw [e] at this; omega
  have h2 : ∀ t, TB w t → tc w (w 6) t = 0 := fun t ht => tc_none hs ht (fun e => by have := (hs.tb ht).2.2; rw [← e] at this; omega) (by omega)
  have h3 : (sm (w 5) fun j => tc w (w 6) (tab w j)) = 0 := sm_zero fun j hj => h2 _ (tab_tb hj)
  unfold T
  rw [h1, h2 _ act_tb, h3, if_neg h6, iv_self, iv_ne h6, iv_ne (fun e => by rw [e] at hc; omega)]
theorem sm_del {f : Nat → Nat} {j : Nat} : ∀ n, j ≤ n → (sm n fun i => f (if i < j then i else i + 1)) + f j = sm (n + 1) f := by
  intro n
  induction n with
  | zero => intro hj; rw [show j = 0 by omega]; rfl
  | succ n ih =>
    intro hj
    by_cases e : j = n + 1
    · rw [sm_succ (n := n + 1), ← e]
      congr 1
      exact sm_congr fun i hi => by rw [if_pos hi]
    · rw [sm_succ, sm_succ (n := n + 1), if_neg (by omega), ← ih (by omega)]
      omega
theorem c_closeListGap {l n j : Nat} (hw : h (10, k) = E x) (h6 : x 6 = l) (hl1 : 1 ≤ l) (hl : l < 64) (h5 : x 5 = n) (hn : n ≤ 4) (hj : j < n) : Cl (d + 2) MX1_closeListGap [vR (1, k), vI (nI j)] h none (hup h (10, k) (E (gapF x l n j))) := by
  refine rnN 1 rfl ?_
  refine rnK rfl (c_snapshotList hw) ?_
  rw [h6]
  refine rnN 3 rfl ?_
  refine rnK rfl (c_snapshotCount hw) ?_
  rw [h5]
  refine rnN 8 rfl ?_
  simp (disch := omega) only [nI_add, pk_mul, pk_sub, nd8, nd4, nsub8, nand63, nand7, nshr2, nI_clamp, E_at, hup_at, hup_hup]
  refine rnH (hE0 (v := fun p => if p / 8 = l ∧ 2 * j ≤ p % 8 ∧ p % 8 < 2 * j + 0 then x (p + 2) else x p) hw (by funext p; rw [if_neg (by omega)])) ?_
  have fin : up (up (fun p => if p / 8 = l ∧ 2 * j ≤ p % 8 ∧ p % 8 < 2 * j + (2 * n - 2 - 2 * j) then x (p + 2) else x p) (8 * l + (2 * n - 2)) 0) (8 * l + (2 * n - 2 + 1)) 0 = gapF x l n j := by
    funext p
    simp only [gapF, up]
    by_cases e : p / 8 = l
    · rw [if_pos e]
      by_cases e1 : p = 8 * l + (2 * n - 2 + 1)
      · rw [if_pos e1, if_neg (by omega), if_neg (by omega), if_pos (by omega)]
      · rw [if_neg e1]
        by_cases e2 : p = 8 * l + (2 * n - 2)
        · rw [if_pos e2, if_neg (by omega), if_neg (by omega), if_pos (by omega)]
        · rw [if_neg e2]
          by_cases e3 : p % 8 < 2 * j
          · rw [if_pos e3, if_neg (by omega)]
          · rw [if_neg e3]
            by_cases e4 : p % 8 < 2 * n - 2
            · rw [if_pos e4, if_pos (by omega)]
            · rw [if_neg e4, if_neg (by omega), if_neg (by omega)]
    · rw [if_neg e, if_neg (by omega), if_neg (by omega), if_neg (by omega)]
  refine lpN (2 * n - 2 - 2 * j) (fun i => Rn (d + 2) MX1_closeListGap 19 [some (vR (1, k)), some (vI (nI j)), some (vI (nI l)), some (vI (nI (2 * n - 2))), some (vI (nI (2 * j + i)))] [] (hup h (10, k) (E fun p => if p / 8 = l ∧ 2 * j ≤ p % 8 ∧ p % 8 < 2 * j + i then x (p + 2) else x p)) none (hup h (10, k) (E (gapF x l n j)))) (fun i hi K => ?_) ?_
  · refine rnN 2 rfl ?_
    refine rnT (nI_lt (show 2 * j + i < 2 * n - 2 by omega) (by omega)) rfl ?_
    refine rnN 10 rfl ?_
    simp (disch := omega) only [nI_add, pk_mul, pk_sub, nd8, nd4, nsub8, nand63, nand7, nshr2, nI_clamp, E_at, hup_at, hup_hup]
    refine rnK rfl (c_at hup_at hl (show 2 * j + i + 2 < 8 by omega)) ?_
    refine rnK rfl (c_put hup_at hl (show 2 * j + i < 8 by omega)) ?_
    refine rnN 2 rfl ?_
    simp (disch := omega) only [nI_add, pk_mul, pk_sub, nd8, nd4, nsub8, nand63, nand7, nshr2, nI_clamp, E_at, hup_at, hup_hup]
    refine rnH ?_ K
    congr 2
    funext p
    simp only [up]
    by_cases hp : p = 8 * l + (2 * j + i)
    · subst hp
      rw [if_pos rfl, if_neg (by omega), if_pos (by omega)]
      congr 1
    · rw [if_neg hp]
      by_cases h2 : p / 8 = l ∧ 2 * j ≤ p % 8 ∧ p % 8 < 2 * j + i
      · rw [if_pos h2, if_pos (by omega)]
      · rw [if_neg h2, if_neg (by omega)]
  · rw [show 2 * j + (2 * n - 2 - 2 * j) = 2 * n - 2 by omega]
    refine rnN 2 rfl ?_
    refine rnF (nI_nlt (Nat.le_refl _) (by omega)) rfl ?_
    refine rnN 5 rfl ?_
    refine rnK rfl (c_put (x := 0) hup_at hl (show 2 * n - 2 < 8 by omega)) ?_
    refine rnN 7 rfl ?_
    simp (disch := omega) only [nI_add, pk_mul, pk_sub, nd8, nd4, nsub8, nand63, nand7, nshr2, nI_clamp, E_at, hup_at, hup_hup]
    refine rnK rfl (c_put (x := 0) hup_at hl (show 2 * n - 2 + 1 < 8 by omega)) ?_
    simp (disch := omega) only [nI_add, pk_mul, pk_sub, nd8, nd4, nsub8, nand63, nand7, nshr2, nI_clamp, E_at, hup_at, hup_hup]
    rw [show (2 * j + (2 * n - 2 - 2 * j)) = 2 * n - 2 by omega] at fin
    rw [fin]
    exact rnR rfl
theorem dlR_list (h6 : w 6 ≠ 0) {i j : Nat} (hi8 : i < 8) : dlR w j (8 * w 6 + i) = if i < 2 * j then w (8 * w 6 + i) else if i < 6 then w (8 * w 6 + (i + 2)) else 0 := by
  unfold dlR
  rw [if_neg (by omega), if_neg (by omega), if_pos (by omega), ix_mod hi8]
  rfl
theorem dl_spec (hi : Inv w u) {j : Nat} (hj : j < w 5) : Str (dlR w j) (dlU u j) ∧ (∀ X, T (dlR w j) X + tc w X (tab w j) + (if w 5 = 1 then iv (w 6) X else 0) = T w X) ∧ Inv (clo (dlR w j) (dlU u j)) (dlU u j)
    ∧ (∀ p, p ≠ 5 → p ≠ 6 → p / 8 ≠ w 6 → dlR w j p = w p) := by
  have hs := hi.1
  have hact := hs.act
  have htj := hs.tab hj
  have hns := hs.ns
  have h6 := hns.2 (by omega)
  have hls := hs.list h6
  obtain ⟨g0, g1, g7, gl, gn⟩ := hi.2.2.2.1
  have hO : ∀ p, p ≠ 5 → p ≠ 6 → p / 8 ≠ w 6 → dlR w j p = w p := fun p h1 h2 h3 => by unfold dlR; rw [if_neg h1, if_neg h2, if_neg h3]
  have hcl : ∀ X i, i < 8 → 1 ≤ X → u X ≠ 3 → dlR w j (8 * X + i) = w (8 * X + i) := fun X i hi8 h1 hu => hO _ (by omega) (by omega) (by rw [ix_div hi8]; intro e; rw [e] at hu; omega)
  have hH : ∀ p, p < 8 → p ≠ 5 → p ≠ 6 → dlR w j p = w p := fun p hp h1 h2 => hO p h1 h2 (by omega)
  have e5 : dlR w j 5 = w 5 - 1 := if_pos rfl
  have e6 : dlR w j 6 = if w 5 = 1 then 0 else w 6 := by unfold dlR; rw [if_neg (by decide), if_pos rfl]
  have e4 := hH 4 (by decide) (by decide) (by decide)
  have e3 := hH 3 (by decide) (by decide) (by decide)
  have hct : ∀ k, k < 8 → dlR w j (8 * w 4 + k) = w (8 * w 4 + k) := fun k hk => hcl _ k hk (by have := hs.ct; omega) (by have := hs.ct; omega)
  have hlist : ∀ i, i < 8 → dlR w j (8 * w 6 + i) = if i < 2 * j then w (8 * w 6 + i) else if i < 6 then w (8 * w 6 + (i + 2)) else 0 := fun i hi8 => by
    unfold dlR
    rw [if_neg (by omega), if_neg (by omega), if_pos (by omega), ix_mod hi8]
    rfl
  have hLF : ∀ t i l, TB w t → i < 8 → l < 8 → w (8 * t + i) / 4 ≠ 0 → dlR w j (8 * (w (8 * t + i) / 4) + l) = w (8 * (w (8 * t + i) / 4) + l) := fun t i l ht hi8 hl h0 => by
    have h1 := (hs.tw ht hi8).lead h0
    have h2 := h1.1.pos
    exact hcl _ l hl (by omega) (by omega)
  have htw : ∀ t i, TB w t → i < 8 → dlR w j (8 * t + i) = w (8 * t + i) := fun t i ht hi8 => by
    have h1 := hs.tb ht
    exact hcl _ i hi8 (by omega) (by omega)
  have etab : ∀ m, m < w 5 - 1 → tab (dlR w j) m = tab w (if m < j then m else m + 1) := fun m hm => by
    have e : dlR w j 6 = w 6 := by rw [e6, if_neg (by omega)]
    unfold tab
    rw [e, hlist _ (by omega)]
    by_cases hmj : m < j
    · rw [if_pos (by omega), if_pos hmj]
    · rw [if_neg (by omega), if_pos (by omega), if_neg hmj]
      rfl
  have eTB : ∀ t, TB (dlR w j) t → TB w t := by
    rintro t (rfl | ⟨m, hm, rfl⟩)
    · exact Or.inl e3
    · rw [e5] at hm
      rw [etab m hm]
      exact tab_tb (by split <;> omega)
  have hdU : ∀ X, u X < 4 ∨ 8 ≤ u X → dlU u j X = u X := fun X hX => by unfold dlU; rw [if_neg (by omega)]
  have hS : Str (dlR w j) (dlU u j) := by
    refine ⟨by rw [hH 2 (by decide) (by decide) (by decide)]; exact hs.sz, ?_, ?_, ?_, ?_, ?_, ?_, ?_⟩
    · rw [e3, hdU _ (by omega)]; exact hact
    · rw [e4, hdU _ (by have := hs.ct; omega)]; exact hs.ct
    · rw [e5, e6]
      exact ⟨by omega, fun h1 => by rw [if_neg (by omega)]; exact h6⟩
    · rw [e6]
      intro h1
      split at h1
      · exact absurd rfl h1
      · next h2 => rw [if_neg h2, hdU _ (by omega)]; exact hls
    · rw [e4]
      intro k hk h0
      rw [hct k hk] at h0 ⊢
      have h1 := hs.keep hk h0
      rw [hdU _ (by omega)]
      exact h1
    · intro m hm
      rw [e5] at hm
      rw [etab m hm]
      by_cases hmj : m < j
      · rw [if_pos hmj]
        have h1 := hs.tab (j := m) (by omega)
        refine ⟨h1.1, h1.2.1, ?_⟩
        unfold dlU
        rw [if_neg (by omega)]
        exact h1.2.2
      · rw [if_neg hmj]
        have h1 := hs.tab (j := m + 1) (by omega)
        refine ⟨h1.1, h1.2.1, ?_⟩
        unfold dlU
        rw [if_pos (by omega)]
        omega
    · intro t ht i hi8
      have ht := eTB t ht
      rw [htw t i ht hi8]
      rcases hs.tw ht hi8 with e | ⟨a1, a2, a3, a4⟩
      · exact Or.inl e
      · refine Or.inr ⟨a1, by rw [hH 2 (by decide) (by decide) (by decide)]; exact a2, by rw [hdU _ (by omega)]; exact a3, fun l hl => ?_⟩
        rw [hH 2 (by decide) (by decide) (by decide), hLF t i l ht hi8 hl (by have := a1.pos; omega)]
        exact (a4 l hl).move fun hy => hdU _ (by have := (a4 l hl).lead hy; omega)
  have hT : ∀ X, T (dlR w j) X + tc w X (tab w j) + (if w 5 = 1 then iv (w 6) X else 0) = T w X := by
    intro X
    have htc : ∀ t, TB w t → tc (dlR w j) X t = tc w X t := fun t ht => tc_congr (fun i hi8 => by rw [htw t i ht hi8]) (fun i hi8 h0 l hl => by rw [hLF t i l ht hi8 hl h0])
    have ek : kc (dlR w j) X = kc w X := by
      unfold kc
      rw [e4]
      exact sm_congr fun k hk => by rw [hct k hk]
    have es : sm (w 5 - 1) (fun m => tc (dlR w j) X (tab (dlR w j) m)) + tc w X (tab w j) = sm (w 5) fun m => tc w X (tab w m) := by
      have h1 := sm_del (f := fun m => tc w X (tab w m)) (j := j) (w 5 - 1) (by omega)
      rw [show w 5 - 1 + 1 = w 5 by omega] at h1
      rw [← h1]
      congr 1
      exact sm_congr fun m hm => by
        show tc (dlR w j) X (tab (dlR w j) m) = tc w X (tab w (if m < j then m else m + 1))
        rw [etab m hm]
        exact htc _ (tab_tb (by split <;> omega))
    have e7 : (if (if w 5 = 1 then 0 else w 6) = 0 then 0 else iv (if w 5 = 1 then 0 else w 6) X) + (if w 5 = 1 then iv (w 6) X else 0) = if w 6 = 0 then 0 else iv (w 6) X := by
      rw [if_neg h6]
      by_cases e : w 5 = 1
      · simp only [if_pos e, if_true]
        omega
      · simp only [if_neg e, if_neg h6]
        omega
    unfold T
    rw [e3, e4, e5, e6, ek, htc _ act_tb]
    omega
  refine ⟨hS, hT, (clo_inv hS ?_ (fun p => ?_) (fun X hX h0 => ?_)).1, hO⟩
  · refine ⟨by rw [hH 0 (by decide) (by decide) (by decide)]; exact g0, by rw [hH 1 (by decide) (by decide) (by decide)]; exact g1, by rw [hH 7 (by decide) (by decide) (by decide)]; exact g7, ?_, ?_⟩
    · rw [e5, e6]
      intro h1 m hm hm8
      split at h1
      · exact absurd rfl h1
      · next h2 =>
        rw [if_neg h2, hlist m hm8, if_neg (by omega)]
        split
        · exact gl h6 _ (by omega) (by omega)
        · rfl
    · rw [e5, e6]
      intro i m hi2 hm
      have e : (if w 5 = 1 then 0 else w 6) = w 6 := if_neg (by omega)
      rw [e, show 8 * w 6 + 2 * i + 1 = 8 * w 6 + (2 * i + 1) by omega, show 8 * w 6 + 2 * m + 1 = 8 * w 6 + (2 * m + 1) by omega, hlist _ (by omega), hlist _ (by omega)]
      have key : ∀ q, q < w 5 - 1 → (if 2 * q + 1 < 2 * j then w (8 * w 6 + (2 * q + 1)) else if 2 * q + 1 < 6 then w (8 * w 6 + (2 * q + 1 + 2)) else 0) = w (8 * w 6 + 2 * (if q < j then q else q + 1) + 1) := fun q hq => by
        by_cases hqj : q < j
        · rw [if_pos (by omega), if_pos hqj]
          congr 1
        · rw [if_neg (by omega), if_pos (by omega), if_neg hqj]
          congr 1
      rw [key i hi2, key m (by omega)]
      exact gn _ _ (by split <;> omega) (by split <;> split <;> omega)
  · unfold dlR
    have hb := hi.2.2.2.2
    split
    · have := hb 5; omega
    · split
      · split
        · omega
        · exact hb 6
      · split
        · split
          · exact hb _
          · split
            · exact hb _
            · omega
        · exact hb _
  · rw [e4, hct _ (by omega)]
    intro e
    have h1 := hi.noK hX e
    have h2 := hT X
    omega
theorem c_hput {j x : Nat} {w : Nat → Nat} (hw : h (10, k) = E w) (hj : j < 8) : Cl d MX0_put [vR (0, k), vI (nI 0), vI (nI j), vI (nI x)] h none (hup h (10, k) (E (up w j x))) := by
  have h1 := c_put (d := d) (c := 0) (x := x) hw (by decide) hj
  rw [show 8 * 0 + j = j by omega] at h1
  exact h1
/-- removeSnapshot's words are the closed ones -/
theorem dl_words (hi : Inv w u) {j : Nat} (hj : j < w 5) (hx : x = cS false w u (T w) (fun Y => tl w Y (tab w j) + iv (tab w j) Y))
    (h1 : ∀ p, p / 8 ≠ 0 → p / 8 ≠ w 6 → (w 5 = 1 → p ≠ cpl w (w 6)) → V p = x p) (h2 : w 5 = 1 → V (cpl w (w 6)) = 0) (h3 : w 5 = 1 → ∀ p, p / 8 = w 6 → V p = 0) (h4 : w 5 ≠ 1 → ∀ p, p / 8 = w 6 → V p = gapF x (w 6) (w 5) j p)
    (h5 : V 5 = w 5 - 1) (h6' : V 6 = if w 5 = 1 then 0 else w 6) (h7 : ∀ p, p < 8 → p ≠ 5 → p ≠ 6 → V p = x p) : V = clo (dlR w j) (dlU u j) := by
  have hs := hi.1
  have hact := hs.act
  have htj := hs.tab hj
  have hns := hs.ns
  have h6 := hns.2 (by omega)
  have hls := hs.list h6
  have hL1 := T_list1 hs h6
  obtain ⟨g0, g1, g7, gl, gn⟩ := hi.2.2.2.1
  obtain ⟨hS, hT, hI, hO⟩ := dl_spec hi hj
  have hco : CO u (fun X => tl w X (tab w j)) := CO.tls fun i hi8 => hs.tw (tab_tb hj) hi8
  have hx0 : ∀ X i, (u X < 4 ∨ X = 0) → i < 8 → x (8 * X + i) = w (8 * X + i) := fun X i hX hi8 => by
    rw [hx]
    refine cW_out (zS_false fun _ e => ?_) (by rw [ix_div hi8]; omega)
    rw [ix_div hi8] at e
    exfalso
    by_cases e2 : tl w X (tab w j) = 0
    · have h9 : iv (tab w j) X ≠ 0 := by omega
      have := iv_pos h9
      rw [← this] at hX
      omega
    · have := hco X e2
      omega
  have e4 : dlR w j 4 = w 4 := hO 4 (by decide) (by decide) (by omega)
  have ek : ∀ k, k < 8 → dlR w j (8 * w 4 + k) = w (8 * w 4 + k) := fun k hk => hO _ (by have := hs.ct; omega) (by have := hs.ct; omega) (by rw [ix_div hk]; intro e; have := hs.ct; rw [e] at this; omega)
  have ecpl : ∀ X, X < 64 → cpl (dlR w j) X = cpl w X := fun X hX => by unfold cpl; rw [e4, ek _ (by omega)]
  have ekp : ∀ p, kp (dlR w j) p ↔ kp w p := fun p => by
    constructor
    · rintro ⟨k, hk, h0, e⟩
      rw [e4, ek k hk] at h0 e
      exact ⟨k, hk, h0, e⟩
    · rintro ⟨k, hk, h0, e⟩
      exact ⟨k, hk, by rw [e4, ek k hk]; exact h0, by rw [e4, ek k hk]; exact e⟩
  have htl : tc w (w 6) (tab w j) = 0 := tc_none hs (tab_tb hj) (fun e => by rw [← e] at htj; omega) (by omega)
  refine eq_clo hS (fun X hX h0 => ?_) (fun p hp h0 => ?_) (fun p hp hk => ?_)
  · rw [e4, ek _ (by omega)] at h0
    have hin := cpl_in hs hX h0
    rw [ecpl X hX]
    have hTX := hT X
    by_cases e : w 5 = 1 ∧ X = w 6
    · rw [e.2, h2 e.1]
      rw [e.2, if_pos e.1, iv_self] at hTX
      omega
    · rw [h1 _ (by omega) (fun e => by rw [e] at hin; omega) (fun e1 e2 => e ⟨e1, cpl_inj hs hX hls.1 h0 (by intro e3; have := hi.noK hls.1 e3; omega) e2⟩), hx]
      have hq := cW_cpl (g := fun X => val false (T w X) (tl w X (tab w j) + iv (tab w j) X)) (Z := zS false (T w) (fun Y => tl w Y (tab w j) + iv (tab w j) Y)) hs hX h0 (zS_false (fun _ e => by
        exfalso
        have hk2 := hs.keep (show X / 8 < 8 by omega) h0
        by_cases e2 : tl w (w (8 * w 4 + X / 8)) (tab w j) = 0
        · have h9 : iv (tab w j) (w (8 * w 4 + X / 8)) ≠ 0 := by omega
          have := iv_pos h9
          rw [← this] at hk2
          omega
        · have := hco _ e2
          omega))
      have h9 : val false (T w X) (tl w X (tab w j) + iv (tab w j) X) = T (dlR w j) X := by
        have h10 : val false (T w X) (tl w X (tab w j) + iv (tab w j) X) = T w X - (tl w X (tab w j) + iv (tab w j) X) := rfl
        rw [h10]
        rw [tc_tl] at hTX
        have h11 : (if w 5 = 1 then iv (w 6) X else 0) = 0 := by
          split
          · next e1 => exact iv_ne fun e2 => e ⟨e1, e2.symm⟩
          · rfl
        omega
      rw [← h9]
      exact hq
  · have hTX := hT (p / 8)
    have hp0 : p / 8 ≠ 0 := fun e => by have := T_zero (dlR w j); rw [e] at h0; omega
    by_cases e : p / 8 = w 6
    · by_cases e1 : w 5 = 1
      · exact h3 e1 p e
      · rw [e, if_neg e1] at hTX
        rw [e] at h0
        omega
    · have h11 : (if w 5 = 1 then iv (w 6) (p / 8) else 0) = 0 := by
        split
        · exact iv_ne fun e2 => e e2.symm
        · rfl
      by_cases e2 : w 5 = 1 ∧ p = cpl w (w 6)
      · rw [e2.2]
        exact h2 e2.1
      · rw [h1 p hp0 e (fun e3 e4 => e2 ⟨e3, e4⟩), hx]
        by_cases h12 : tc w (p / 8) (tab w j) = 0
        · have h13 := hi.2.2.1 (p / 8) (by omega) (by omega) (p % 8) (by omega)
          rw [show 8 * (p / 8) + p % 8 = p by omega] at h13
          unfold cS cW
          split
          · rfl
          · split
            · next h14 =>
              have h15 := T_keep (w := w) (k := u (p / 8) - 16) (by omega) (by rw [h14.2.2.2]; exact h14.1)
              rw [h14.2.2.2] at h15
              omega
            · exact h13
        · unfold cS cW
          rw [if_pos]
          unfold zS
          rw [tc_tl] at h12 hTX
          simp only [Bool.not_false, Bool.true_and, decide_eq_true_eq]
          omega
  · rw [ekp] at hk
    by_cases hp0 : p / 8 = 0
    · by_cases q5 : p = 5
      · rw [q5, h5]
        exact (if_pos rfl).symm
      · by_cases q6 : p = 6
        · rw [q6, h6']
          have e6 : dlR w j 6 = if w 5 = 1 then 0 else w 6 := by
            unfold dlR
            rw [if_neg (by decide), if_pos rfl]
          exact e6.symm
        · rw [h7 p (by omega) q5 q6, hO p q5 q6 (by omega)]
          have := hx0 0 p (Or.inr rfl) (by omega)
          rwa [show 8 * 0 + p = p by omega] at this
    · by_cases e : p / 8 = w 6
      · by_cases e1 : w 5 = 1
        · exfalso
          have hTX := hT (p / 8)
          rw [e, if_pos e1, iv_self] at hTX
          rw [e] at hp
          omega
        · rw [h4 e1 p e]
          have hq : ∀ i, i < 8 → x (8 * w 6 + i) = w (8 * w 6 + i) := fun i hi8 => hx0 _ i (Or.inl (by omega)) hi8
          have hz : ∀ i, 2 * w 5 ≤ i → i < 8 → w (8 * w 6 + i) = 0 := gl h6
          obtain ⟨i, hi8, rfl⟩ : ∃ i, i < 8 ∧ p = 8 * w 6 + i := ⟨p % 8, by omega, by omega⟩
          have eg : gapF x (w 6) (w 5) j (8 * w 6 + i) = if i < 2 * j then x (8 * w 6 + i) else if i < 2 * w 5 - 2 then x (8 * w 6 + i + 2) else if i < 2 * w 5 then 0 else x (8 * w 6 + i) := by
            unfold gapF
            rw [if_pos e, ix_mod hi8]
          rw [eg, dlR_list h6 hi8]
          by_cases q1 : i < 2 * j
          · rw [if_pos q1, if_pos q1, hq i hi8]
          · rw [if_neg q1, if_neg q1]
            by_cases q2 : i < 2 * w 5 - 2
            · rw [if_pos q2, if_pos (by omega)]
              exact hq (i + 2) (by omega)
            · rw [if_neg q2]
              have e3 : (if i < 6 then w (8 * w 6 + (i + 2)) else 0) = 0 := by
                split
                · exact hz (i + 2) (by omega) (by omega)
                · rfl
              rw [e3]
              split
              · rfl
              · rw [hq i hi8]
                exact hz i (by omega) hi8
      · have hTX := hT (p / 8)
        have h11 : (if w 5 = 1 then iv (w 6) (p / 8) else 0) = 0 := by
          split
          · exact iv_ne fun e2 => e e2.symm
          · rfl
        rw [h1 p hp0 e (fun e1 e2 => hk (by rw [e2]; exact cpl_kp hls.1 (by intro e3; have := hi.noK hls.1 e3; omega))), hO p (by omega) (by omega) e, hx]
        unfold cS cW
        rw [if_neg, if_neg]
        · rintro ⟨a1, a2, a3, a4⟩
          exact hk ⟨u (p / 8) - 16, by omega, by rw [a4]; exact a1, a4.symm⟩
        · unfold zS
          rw [tc_tl] at hTX
          simp only [Bool.not_false, Bool.true_and, decide_eq_true_eq]
          rintro ⟨a1, a2⟩
          rcases hp with hp | hp
          · have h2 : T w (p / 8) ≠ 0 := by omega
            have := hs.T64 h2
            omega
          · omega
theorem c_removeSnapshot {j : Nat} (hw : h (10, k) = E w) (hi : Inv w u) (hj : j < w 5) : Cl (d + 5) MX1_removeSnapshot [vR (1, k), vI (nI j)] h none (hup h (10, k) (E (stl (dlR w j) (dlU u j)))) := by
  have hs := hi.1
  have hns := hs.ns
  have h6 := hns.2 (by omega)
  have hls := hs.list h6
  have htj := hs.tab hj
  have hact := hs.act
  have hL1 := T_list1 hs h6
  obtain ⟨hS, hT, hI, hO⟩ := dl_spec hi hj
  have hTle := fun X => T_le (w := w) hns.1 X
  have htt : ∀ X, tl w X (tab w j) + iv (tab w j) X ≤ T w X := fun X => by have := T_tc (w := w) (X := X) (tab_tb hj); rw [tc_tl] at this; omega
  have hco : CO u (fun X => tl w X (tab w j)) := CO.tls fun i hi8 => hs.tw (tab_tb hj) hi8
  have c1 := c_countTable (d := d + 1) (h := h) (k := k) (sg := false) (w := w) (u := u) (g := T w) (t := tab w j) (by rw [cS_0 hi]; exact hw) hs htj.2.1 (by omega) (fun i hi8 => hs.tw (tab_tb hj) hi8) (hi.kp (tab_tb hj)) (fun _ X => by have := htt X; omega) (fun X => by have := hTle X; omega)
  rw [show dlt false = -1 from rfl] at c1
  obtain ⟨q1, q2, q3⟩ := hco.kk hs
  have htl0 : tl w (tab w j) (tab w j) = 0 := Classical.byContradiction fun e => by have := hco _ e; omega
  have c2 := c_addS (d := d + 3) (h := hup h (10, k) (E (cS false w u (T w) fun X => tl w X (tab w j)))) (k := k) hup_at hs htj.1 htj.2.1 (by intro e; have := hi.noK htj.2.1 e; have := T_tab (tab_tb hj); omega) q1 q2 q3 (Or.inl (by omega)) (fun e => by have := hs.ct; rw [e] at htj; omega) (fun _ => by have := htt (tab w j); rw [iv_self] at this; omega) (by have := hTle (tab w j); omega)
  rw [show dlt false = -1 from rfl, hup_hup] at c2
  obtain ⟨x, hx⟩ : ∃ x, x = cS false w u (T w) (fun Y => tl w Y (tab w j) + iv (tab w j) Y) := ⟨_, rfl⟩
  rw [← hx] at c2
  have hx0 : ∀ X i, (u X < 4 ∨ X = 0) → i < 8 → x (8 * X + i) = w (8 * X + i) := fun X i hX hi8 => by
    rw [hx]
    refine cW_out (zS_false fun _ e => ?_) (by rw [ix_div hi8]; omega)
    rw [ix_div hi8] at e
    exfalso
    by_cases e2 : tl w X (tab w j) = 0
    · have h9 : iv (tab w j) X ≠ 0 := by omega
      have := iv_pos h9
      rw [← this] at hX
      omega
    · have := hco X e2
      omega
  have hxh : ∀ p, p < 8 → x p = w p := fun p hp => by have := hx0 0 p (Or.inr rfl) hp; rwa [show 8 * 0 + p = p by omega] at this
  have c3 := c_closeListGap (d := d + 2) (h := hup h (10, k) (E x)) (k := k) (x := x) (l := w 6) (n := w 5) (j := j) hup_at (hxh 6 (by decide)) (by omega) hls.1 (hxh 5 (by decide)) hns.1 hj
  rw [hup_hup] at c3
  have hgh : ∀ p, p < 8 → gapF x (w 6) (w 5) j p = w p := fun p hp => by unfold gapF; rw [if_neg (by omega)]; exact hxh p hp
  have c4 := c_tellFlags (d := d) (h := hup h (10, k) (E (clo (dlR w j) (dlU u j)))) (k := k) hup_at hI
  rw [hup_hup] at c4
  refine rnN 2 rfl ?_
  refine rnK rfl (c_snapshotTable hw hls.1 (show j < 4 by omega)) ?_
  refine rnN 4 rfl ?_
  refine rnK rfl (c1) ?_
  refine rnN 4 rfl ?_
  refine rnK rfl (c2) ?_
  refine rnN 2 rfl ?_
  refine rnK rfl (c3) ?_
  refine rnN 1 rfl ?_
  refine rnK rfl (c_snapshotCount hup_at) ?_
  rw [hgh 5 (by decide)]
  refine rnN 8 rfl ?_
  simp (disch := omega) only [nI_add, pk_mul, pk_sub, nd8, nd4, nsub8, nand63, nand7, nshr2, nI_clamp, E_at, hup_at, hup_hup]
  refine rnK rfl (c_hput (x := w 5 - 1) hup_at (show 5 < 8 by decide)) ?_
  rw [hup_hup]
  refine rnN 1 rfl ?_
  by_cases e1 : w 5 = 1
  · have hgh1 : ∀ p, p < 8 → gapF x (w 6) 1 j p = w p := fun p hp => by have := hgh p hp; rwa [e1] at this
    rw [e1]
    refine rnN 4 rfl ?_
    refine rnK rfl (c_snapshotList hup_at) ?_
    rw [up_ne (show (6 : Nat) ≠ 5 by decide), hgh1 6 (by decide)]
    refine rnN 1 rfl ?_
    have hk0 : w (8 * w 4 + w 6 / 8) ≠ 0 := fun e => by have := hi.noK hls.1 e; omega
    have hkc := hs.keep (show w 6 / 8 < 8 by omega) hk0
    obtain ⟨y, hy⟩ : ∃ y, y = up (gapF x (w 6) (w 5) j) 5 (w 5 - 1) := ⟨_, rfl⟩
    rw [e1] at hy
    rw [show (1 : Nat) - 1 = 0 from rfl] at hy ⊢
    rw [← hy]
    have hy4 : y 4 = w 4 := by rw [hy, up_ne (by decide), hgh1 4 (by decide)]
    have hyo : ∀ p, p ≠ 5 → p / 8 ≠ w 6 → y p = x p := fun p h1 h2 => by rw [hy, up_ne h1]; unfold gapF; rw [if_neg h2]
    have hyk : y (8 * w 4 + w 6 / 8) = w (8 * w 4 + w 6 / 8) := by
      have := hs.ct
      rw [hyo _ (by omega) (by rw [ix_div (by omega)]; intro e; rw [← e] at hls; omega)]
      exact hx0 _ _ (Or.inl (by omega)) (by omega)
    have ecy : cpl y (w 6) = cpl w (w 6) := by unfold cpl; rw [hy4, hyk]
    have hin := cpl_in hs hls.1 hk0
    have hyc : y (cpl w (w 6)) = 1 := by
      rw [hyo _ (by omega) (fun e => by rw [e] at hin; omega), hx]
      have hq := cW_cpl (g := fun X => val false (T w X) (tl w X (tab w j) + iv (tab w j) X)) (Z := zS false (T w) (fun Y => tl w Y (tab w j) + iv (tab w j) Y)) hs hls.1 hk0 (zS_false (fun _ e => by
        exfalso
        by_cases e2 : tl w (w (8 * w 4 + w 6 / 8)) (tab w j) = 0
        · have h9 : iv (tab w j) (w (8 * w 4 + w 6 / 8)) ≠ 0 := by omega
          have := iv_pos h9
          rw [← this] at hkc
          omega
        · have := hco _ e2
          omega))
      have h9 : val false (T w (w 6)) (tl w (w 6) (tab w j) + iv (tab w j) (w 6)) = 1 := by
        have h10 : val false (T w (w 6)) (tl w (w 6) (tab w j) + iv (tab w j) (w 6)) = T w (w 6) - (tl w (w 6) (tab w j) + iv (tab w j) (w 6)) := rfl
        have htl : tc w (w 6) (tab w j) = 0 := tc_none hs (tab_tb hj) (fun e => by rw [← e] at htj; omega) (by omega)
        rw [tc_tl] at htl
        rw [h10, hL1]
        omega
      rw [← h9]
      exact hq
    have c5 := c_addToCount (d := d + 3) (h := hup h (10, k) (E y)) (k := k) (w := y) (c := w 6) (dl := -1) (b := 0) hup_at hls.1 (by rw [hy4]; exact hs.ct.2.1) (by rw [hy4, hyk]; exact hkc.1) (by rw [cpl_eq, ecy, hyc]; exact pk_m1 0) (by decide)
    rw [hup_hup] at c5
    refine rnK rfl (c5) ?_
    refine rnN 5 rfl ?_
    refine rnK rfl (c_hput (x := 0) hup_at (show 6 < 8 by decide)) ?_
    rw [hup_hup]
    refine rnN 1 rfl ?_
    have ea : adc y (w 6) 0 = zc (setc y (w 6) 0) (w 6) := if_pos rfl
    have hz : ∀ p, zc (setc y (w 6) 0) (w 6) p = if p / 8 = w 6 then 0 else if p = cpl w (w 6) then 0 else y p := fun p => by
      unfold zc
      rw [setc_up, ecy]
      rfl
    have hV : up (adc y (w 6) 0) 6 0 = clo (dlR w j) (dlU u j) := by
      rw [ea]
      refine dl_words hi hj hx (fun p a1 a2 a3 => ?_) (fun _ => ?_) (fun _ p a1 => ?_) (fun a1 => absurd e1 a1) ?_ ?_ (fun p a1 a2 a3 => ?_)
      · rw [up_ne (by omega), hz, if_neg a2, if_neg (a3 e1), hyo p (by omega) a2]
      · rw [up_ne (by omega), hz]
        split
        · rfl
        · rw [if_pos rfl]
      · rw [up_ne (by omega), hz, if_pos a1]
      · rw [up_ne (by decide), hz, if_neg (by omega), if_neg (by omega), hy, up_at, e1]
      · rw [up_at, if_pos e1]
      · rw [up_ne a3, hz, if_neg (by omega), if_neg (by omega), hyo p a2 (by omega)]
    rw [hV]
    refine rnK rfl (c4) ?_
    exact rnR rfl
  · refine rnF (nI_ne0 (show 0 < w 5 - 1 by omega) (by omega)) rfl ?_
    refine rnN 1 rfl ?_
    have hV : up (gapF x (w 6) (w 5) j) 5 (w 5 - 1) = clo (dlR w j) (dlU u j) := by
      refine dl_words hi hj hx (fun p a1 a2 a3 => ?_) (fun a1 => absurd a1 e1) (fun a1 => absurd a1 e1) (fun _ p a1 => ?_) up_at ?_ (fun p a1 a2 a3 => ?_)
      · rw [up_ne (by omega)]
        unfold gapF
        rw [if_neg a2]
      · rw [up_ne (by omega)]
      · rw [up_ne (by decide), hgh 6 (by decide), if_neg e1]
      · rw [up_ne a2, hgh p a1, hxh p a1]
    rw [hV]
    refine rnK rfl (c4) ?_
    exact rnR rfl
end DL
end
section
/-! ===== addSnapshot ===== -/
/-- with a list, taken where there is none -/
def lgR (w : Nat → Nat) : Nat → Nat := up (tkW w) 6 (tkC w)
def lgW (w : Nat → Nat) : Nat → Nat := if w 5 = 0 then up (setc (tkW w) (tkC w) 1) 6 (tkC w) else w
/-- with a table more, that is like the active one -/
def snR (v : Nat → Nat) (c n name : Nat) : Nat → Nat := fun p => if p = 5 then n + 1 else if p = 8 * v 6 + 2 * n then c else if p = 8 * v 6 + 2 * n + 1 then name else if p / 8 = c then v (8 * v 3 + p % 8) else v p
section SN
variable {d k : Nat} {h : xH} {w v x u u' R V g : Nat → Nat}
theorem eq_cW0 (hs : Str R u) (h1 : ∀ X, X < 64 → R (8 * R 4 + X / 8) ≠ 0 → V (cpl R X) = g X) (h3 : ∀ p, ¬ kp R p → V p = R p) : V = cW R u g (fun _ => false) := by
  funext p
  unfold cW
  rw [if_neg (show ¬ (false = true) by decide)]
  by_cases e2 : p / 8 ≠ 0 ∧ 16 ≤ u (p / 8) ∧ u (p / 8) < 24 ∧ R (8 * R 4 + (u (p / 8) - 16)) = p / 8
  · rw [if_pos e2]
    obtain ⟨a1, a2, a3, a4⟩ := e2
    have h5 := h1 (8 * (u (p / 8) - 16) + p % 8) (by omega) (by rw [ix_div (by omega), a4]; exact a1)
    have e3 : cpl R (8 * (u (p / 8) - 16) + p % 8) = p := by
      unfold cpl
      rw [ix_div (by omega), ix_mod (by omega), a4]
      omega
    rw [e3] at h5
    exact h5
  · rw [if_neg e2]
    refine h3 p ?_
    rintro ⟨k, hk, h0, e3⟩
    have h5 := hs.keep hk h0
    rw [← e3] at h5
    exact e2 ⟨by omega, by omega, by omega, by rw [show u (p / 8) - 16 = k by omega]; exact e3.symm⟩
theorem cW_clo (hs : Str R u) (h1 : ∀ p, p < 512 → T R (p / 8) = 0 → R p = 0) (h2 : ∀ X, X < 64 → R (8 * R 4 + X / 8) ≠ 0 → g X = T R X) : cW R u g (fun _ => false) = clo R u := by
  refine eq_clo hs (fun X hX h0 => ?_) (fun p hp h0 => ?_) (fun p hp hk => ?_)
  · rw [cW_cpl hs hX h0 rfl]
    exact h2 X hX h0
  · unfold cW
    rw [if_neg (show ¬ (false = true) by decide), if_neg]
    · exact h1 p hp h0
    · rintro ⟨a1, a2, a3, a4⟩
      have h6 := T_keep (w := R) (k := u (p / 8) - 16) (by omega) (by rw [a4]; exact a1)
      rw [a4] at h6
      omega
  · unfold cW
    rw [if_neg (show ¬ (false = true) by decide), if_neg]
    rintro ⟨a1, a2, a3, a4⟩
    exact hk ⟨u (p / 8) - 16, by omega, by rw [a4]; exact a1, a4.symm⟩
theorem lg_spec (hi : Inv w u) (h60 : w 5 = 0 → w 6 = 0) (h5 : w 5 = 0) (hr : 1 ≤ rm w) : ∃ u1 u2, Inv (tkW w) u1 ∧ Str (lgR w) u2 ∧ lgW w = clo (lgR w) u2 ∧ Inv (lgW w) u2 ∧ (∀ p, p < 8 → p ≠ 6 → lgW w p = w p) ∧ lgW w 6 = tkC w ∧ 1 ≤ tkC w ∧ tkC w < 64 ∧ rm w - 1 ≤ rm (lgW w) ∧ (∀ p, p ≠ 6 → lgR w p = tkW w p) ∧ (∀ X, T (lgR w) X = T (tkW w) X + iv (tkC w) X) ∧ (∀ X, T (tkW w) X ≠ 0 → u2 X = u1 X) ∧ T (tkW w) (tkC w) = 0 := by
  obtain ⟨u1, ha, hu, hC1, hC2, hC3, hC4, hrm, hTT, hO, hH, hC5⟩ := tk_spec hi hr
  have hs := ha.1
  obtain ⟨v, hv⟩ : ∃ v, v = tkW w := ⟨_, rfl⟩
  obtain ⟨c, hc⟩ : ∃ c, c = tkC w := ⟨_, rfl⟩
  have elg : lgW w = up (setc v c 1) 6 c := by unfold lgW; rw [if_pos h5, hv, hc]
  have elr : lgR w = up v 6 c := by unfold lgR; rw [hv, hc]
  rw [elg, elr]
  rw [← hv] at ha hs hC3 hC4 hrm hTT hO hH
  rw [← hc] at hC1 hC2 hC3 hC4 hC5
  rw [← hv, ← hc]
  have hact := hs.act
  have hct := hs.ct
  have e5 : v 5 = 0 := by rw [hH 5 (by decide)]; exact h5
  have e6 : v 6 = 0 := by rw [hH 6 (by decide)]; exact h60 h5
  have hR : ∀ p, p ≠ 6 → up v 6 c p = v p := fun p hp => up_ne hp
  have hfr : ∀ X, T v X ≠ 0 → up u1 c 3 X = u1 X := fun X hX => u_fresh hC3 hX
  have hTB : ∀ t, TB (up v 6 c) t → t = v 3 := by
    rintro t (rfl | ⟨j, hj, -⟩)
    · exact hR 3 (by decide)
    · rw [hR 5 (by decide), e5] at hj
      omega
  have hTBv : ∀ t, TB v t → t = v 3 := by
    rintro t (rfl | ⟨j, hj, -⟩)
    · rfl
    · omega
  have hS : Str (up v 6 c) (up u1 c 3) := by
    refine ⟨by rw [hR 2 (by decide)]; exact hs.sz, ?_, ?_, ?_, ?_, ?_, ?_, ?_⟩
    · rw [hR 3 (by decide), hfr _ (by have := T_act (w := v); omega)]; exact hact
    · rw [hR 4 (by decide), hfr _ (by have := T_ct (w := v); omega)]; exact hct
    · rw [hR 5 (by decide), e5]; exact ⟨by omega, fun e => absurd rfl e⟩
    · intro _; rw [up_at, up_at]; exact ⟨hC2, rfl⟩
    · rw [hR 4 (by decide)]
      intro k hk h0
      rw [hR _ (by omega)] at h0 ⊢
      rw [hfr _ (by have := T_keep hk h0; omega)]
      exact hs.keep hk h0
    · intro j hj
      rw [hR 5 (by decide), e5] at hj
      omega
    · intro t ht i hi8
      have ht := hTB t ht
      subst ht
      rw [hR _ (by omega)]
      rcases hs.tw act_tb hi8 with e | ⟨a1, a2, a3, a4⟩
      · exact Or.inl e
      · have hp := a1.pos
        refine Or.inr ⟨a1, by rw [hR 2 (by decide)]; exact a2, by rw [hfr _ (by have := T_leaf act_tb hi8 (show v (8 * v 3 + i) / 4 ≠ 0 by omega); omega)]; exact a3, fun l hl => ?_⟩
        rw [hR 2 (by decide), hR _ (by omega)]
        exact (a4 l hl).move fun hy => hfr _ (by have := T_blk act_tb hi8 hl (show v (8 * v 3 + i) / 4 ≠ 0 by omega) hy; omega)
  have hT : ∀ X, T (up v 6 c) X = T v X + iv c X := by
    intro X
    have ek : kc (up v 6 c) X = kc v X := by
      unfold kc
      rw [hR 4 (by decide)]
      exact sm_congr fun k hk => by rw [hR _ (by omega)]
    have et : tc (up v 6 c) X (v 3) = tc v X (v 3) := tc_congr (fun i hi8 => by rw [hR _ (by omega)]) (fun i hi8 h0 j hj => by rw [hR _ (by omega)])
    unfold T
    rw [hR 3 (by decide), hR 4 (by decide), hR 5 (by decide), ek, et, e5, e6, up_at, if_pos rfl, if_neg (by omega)]
    simp only [sm]
    omega
  have hin := cpl_in hs hC2 (by rw [hH 4 (by decide)]; exact hC4)
  have hV : up (setc v c 1) 6 c = clo (up v 6 c) (up u1 c 3) := by
    have e4 : up v 6 c 4 = v 4 := hR 4 (by decide)
    have ek : ∀ k, k < 8 → up v 6 c (8 * v 4 + k) = v (8 * v 4 + k) := fun k hk => hR _ (by omega)
    have ecpl : ∀ X, X < 64 → cpl (up v 6 c) X = cpl v X := fun X hX => by unfold cpl; rw [e4, ek _ (by omega)]
    refine eq_clo hS (fun X hX h0 => ?_) (fun p hp h0 => ?_) (fun p hp hk => ?_)
    · rw [e4, ek _ (by omega)] at h0
      have h1 := cpl_in hs hX h0
      rw [ecpl X hX, up_ne (by omega), setc_up, hT]
      by_cases e : X = c
      · subst e
        rw [up_at, hC3, iv_self]
      · rw [up_ne (fun e2 => e (cpl_inj hs hX hC2 h0 (by rw [hH 4 (by decide)]; exact hC4) e2)), ha.cntAt hX h0, iv_ne (fun e2 => e e2.symm)]
        rfl
    · rw [hT] at h0
      have hp0 : p / 8 ≠ 0 := fun e => by have := T_zero v; rw [e] at h0; omega
      rw [up_ne (by omega), setc_at (fun e => by rw [e] at h0; omega)]
      have h1 := ha.2.2.1 (p / 8) (by omega) (by omega) (p % 8) (by omega)
      rwa [show 8 * (p / 8) + p % 8 = p by omega] at h1
    · by_cases e : p = 6
      · rw [e, up_at, up_at]
      · rw [up_ne e, up_ne e, setc_at]
        intro e2
        apply hk
        rw [e2]
        have h9 := cpl_kp hC2 (show v (8 * v 4 + c / 8) ≠ 0 by rw [hH 4 (by decide)]; exact hC4)
        obtain ⟨k, a1, a2, a3⟩ := h9
        exact ⟨k, a1, by rw [e4, ek k a1]; exact a2, by rw [e4, ek k a1]; exact a3⟩
  have hI : Inv (clo (up v 6 c) (up u1 c 3)) (up u1 c 3) := by
    refine (clo_inv hS ?_ (fun p => ?_) (fun X hX h0 => ?_)).1
    · obtain ⟨g0, g1, g7, gl, gn⟩ := ha.2.2.2.1
      refine ⟨by rw [hR 0 (by decide)]; exact g0, by rw [hR 1 (by decide)]; exact g1, by rw [hR 7 (by decide)]; exact g7, ?_, ?_⟩
      · rw [up_at]
        intro _ j hj hj8
        rw [hR _ (by omega)]
        exact ha.2.2.1 c hC2 hC3 j hj8
      · rw [hR 5 (by decide), e5]
        intro i j hi2
        omega
    · unfold up
      split
      · omega
      · exact ha.2.2.2.2 p
    · rw [hR 4 (by decide), hR _ (by omega)]
      rw [hT] at h0
      intro e
      have h1 := ha.noK hX e
      have h2 : c = X := iv_pos (show iv c X ≠ 0 by omega)
      subst h2
      rw [hH 4 (by decide)] at e
      exact hC4 e
  rw [← hV] at hI
  refine ⟨u1, up u1 c 3, ha, hS, hV, hI, fun p hp hp6 => ?_, up_at, hC1, hC2, ?_, hR, hT, hfr, hC3⟩
  · rw [up_ne hp6, setc_at (by omega), hH p hp]
  · have h1 := rm_less (v := up (setc v c 1) 6 c) ha hI hC2 hC3 (by rw [hV, (clo_agr hS).eT hS, hT, iv_self]; omega) (fun X hX => by rw [hV, (clo_agr hS).eT hS, hT, iv_ne (fun e => hX e.symm)]; rfl) (by rw [up_ne (by decide), setc_at (by omega)]) (fun k hk => by
      rw [up_ne (by omega), setc_at]
      intro e
      rw [← e, ix_div hk] at hin
      omega)
    rw [h1, hrm]
    exact Nat.le_refl _
end SN
section SN2
variable {d k : Nat} {h : xH} {w y v x u uy u' R V g : Nat → Nat}
theorem snR_5 {c n name : Nat} : snR v c n name 5 = n + 1 := if_pos rfl
theorem snR_l {c n name : Nat} (h6 : 1 ≤ v 6) : snR v c n name (8 * v 6 + 2 * n) = c ∧ snR v c n name (8 * v 6 + (2 * n + 1)) = name := by
  unfold snR
  exact ⟨by rw [if_neg (by omega), if_pos rfl], by rw [if_neg (by omega), if_neg (by omega), if_pos (by omega)]⟩
theorem snR_c {c n name i : Nat} (h6 : v 6 ≠ c) (hc : 1 ≤ c) (hn : n < 4) (hi : i < 8) : snR v c n name (8 * c + i) = v (8 * v 3 + i) := by
  unfold snR
  rw [if_neg (by omega), if_neg (by omega), if_neg (by omega), if_pos (by omega), ix_mod hi]
theorem snR_o {c n name p : Nat} (h5 : p ≠ 5) (h1 : p ≠ 8 * v 6 + 2 * n) (h2 : p ≠ 8 * v 6 + (2 * n + 1)) (hc : p / 8 ≠ c) : snR v c n name p = v p := by
  unfold snR
  rw [if_neg h5, if_neg h1, if_neg (by omega), if_neg hc]
theorem sn_spec (hi : Inv y uy) (h6 : y 6 ≠ 0) {name : Nat} (hn : y 5 < 4) (hr : 1 ≤ rm y) (hb : name < 4294967296) (hnm : ∀ i, i < y 5 → y (8 * y 6 + (2 * i + 1)) ≠ name) : ∃ u1 u3, Inv (tkW y) u1 ∧ Str (snR (tkW y) (tkC y) (y 5) name) u3 ∧ Inv (clo (snR (tkW y) (tkC y) (y 5) name) u3) u3 ∧ (∀ X, T (snR (tkW y) (tkC y) (y 5) name) X = T (tkW y) X + iv (tkC y) X + tl (tkW y) X (tkW y 3))
    ∧ (∀ X, T (tkW y) X ≠ 0 → u3 X = u1 X) ∧ u3 (tkC y) = 4 + y 5 ∧ 1 ≤ tkC y ∧ tkC y < 64 ∧ T (tkW y) (tkC y) = 0 ∧ tkW y (8 * tkW y 4 + tkC y / 8) ≠ 0 ∧ (∀ p, p < 8 → tkW y p = y p) := by
  obtain ⟨u1, ha, hu, hC1, hC2, hC3, hC4, hrm, hTT, hO, hH, hC5⟩ := tk_spec hi hr
  have hs := ha.1
  have hlw : ∀ i, i < 8 → tkW y (8 * y 6 + i) = y (8 * y 6 + i) := fun i hi8 => hO _ (by rw [ix_div hi8]; have := T_list h6; omega) (by rw [ix_div hi8]; intro e; have h1 := hi.1.list h6; have h2 := hi.1.ct; rw [e] at h1; omega)
  obtain ⟨v, hv⟩ : ∃ v, v = tkW y := ⟨_, rfl⟩
  obtain ⟨c, hc⟩ : ∃ c, c = tkC y := ⟨_, rfl⟩
  obtain ⟨n, hnd⟩ : ∃ n, n = y 5 := ⟨_, rfl⟩
  rw [← hv] at ha hs hC3 hC4 hrm hTT hO hH hlw
  rw [← hc] at hC1 hC2 hC3 hC4 hC5
  rw [← hnd] at hn hnm
  rw [← hv, ← hc, ← hnd]
  have hact := hs.act
  have hct := hs.ct
  have hns := hs.ns
  have e5 : v 5 = n := by rw [hH 5 (by decide), hnd]
  have e6 : v 6 = y 6 := hH 6 (by decide)
  have h6v : v 6 ≠ 0 := by rw [e6]; exact h6
  have hls := hs.list h6v
  have hne6 : v 6 ≠ c := ne_fresh hC3 (T_list h6v)
  have hne3 : v 3 ≠ c := ne_fresh hC3 T_act
  have hne4 : v 4 ≠ c := ne_fresh hC3 T_ct
  obtain ⟨g0, g1, g7, gl, gn⟩ := ha.2.2.2.1
  have hR : ∀ p, p ≠ 5 → p / 8 ≠ v 6 → p / 8 ≠ c → snR v c n name p = v p := fun p h1 h2 h3 => snR_o h1 (by omega) (by omega) h3
  have hH' : ∀ p, p < 8 → p ≠ 5 → snR v c n name p = v p := fun p h1 h2 => hR p h2 (by omega) (by omega)
  have hRl := snR_l (v := v) (c := c) (n := n) (name := name) (by omega)
  have hRc : ∀ i, i < 8 → snR v c n name (8 * c + i) = v (8 * v 3 + i) := fun i hi8 => snR_c hne6 hC1 hn hi8
  have hRli : ∀ i, i < 8 → i ≠ 2 * n → i ≠ 2 * n + 1 → snR v c n name (8 * v 6 + i) = v (8 * v 6 + i) := fun i h1 h2 h3 => snR_o (by omega) (by omega) (by omega) (by omega)
  have hcl : ∀ X i, i < 8 → T v X ≠ 0 → X ≠ v 6 → 1 ≤ X → snR v c n name (8 * X + i) = v (8 * X + i) := fun X i hi8 hX h1 h2 => hR _ (by omega) (by omega) (by rw [ix_div hi8]; exact ne_fresh hC3 (by omega))
  have hfr : ∀ X, T v X ≠ 0 → up u1 c (4 + n) X = u1 X := fun X hX => u_fresh hC3 hX
  have ek : ∀ k, k < 8 → snR v c n name (8 * v 4 + k) = v (8 * v 4 + k) := fun k hk => hcl _ k hk (by have := T_ct (w := v); omega) (fun e => by rw [e] at hct; omega) (by omega)
  have etw : ∀ t i, TB v t → i < 8 → snR v c n name (8 * t + i) = v (8 * t + i) := fun t i ht hi8 => by
    have h1 := hs.tb ht
    exact hcl _ i hi8 (by have := T_tab ht; omega) (fun e => by rw [e] at h1; omega) h1.1
  have elf : ∀ t i l, TB v t → i < 8 → l < 8 → v (8 * t + i) / 4 ≠ 0 → snR v c n name (8 * (v (8 * t + i) / 4) + l) = v (8 * (v (8 * t + i) / 4) + l) := fun t i l ht hi8 hl h0 => by
    have h1 := (hs.tw ht hi8).lead h0
    have h2 := h1.1.pos
    exact hcl _ l hl (by have := T_leaf ht hi8 h0; omega) (fun e => by rw [e] at h1; omega) h2.1
  have e6R : snR v c n name 6 = v 6 := hH' 6 (by decide) (by decide)
  have etab : ∀ j, j < n → tab (snR v c n name) j = tab v j := fun j hj => by
    unfold tab
    rw [e6R]
    exact hRli _ (by omega) (by omega) (by omega)
  have etn : tab (snR v c n name) n = c := by
    unfold tab
    rw [e6R]
    exact hRl.1
  have hTB : ∀ t, TB (snR v c n name) t → TB v t ∨ t = c := by
    rintro t (rfl | ⟨j, hj, rfl⟩)
    · exact Or.inl (Or.inl (hH' 3 (by decide) (by decide)))
    · rw [snR_5] at hj
      by_cases e : j = n
      · rw [e, etn]; exact Or.inr rfl
      · rw [etab j (by omega)]; exact Or.inl (tab_tb (by omega))
  have e2R : snR v c n name 2 = v 2 := hH' 2 (by decide) (by decide)
  have hLt : ∀ t i, TB v t → i < 8 → LOK (snR v c n name) (up u1 c (4 + n)) i (v (8 * t + i)) := fun t i ht hi8 => by
    rcases hs.tw ht hi8 with e | ⟨a1, a2, a3, a4⟩
    · exact Or.inl e
    · have hp := a1.pos
      refine Or.inr ⟨a1, by rw [e2R]; exact a2, by rw [hfr _ (by have := T_leaf ht hi8 (show v (8 * t + i) / 4 ≠ 0 by omega); omega)]; exact a3, fun l hl => ?_⟩
      rw [e2R, elf t i l ht hi8 hl (by omega)]
      exact (a4 l hl).move fun hy => hfr _ (by have := T_blk ht hi8 hl (show v (8 * t + i) / 4 ≠ 0 by omega) hy; omega)
  have hS : Str (snR v c n name) (up u1 c (4 + n)) := by
    refine ⟨by rw [e2R]; exact hs.sz, ?_, ?_, ?_, ?_, ?_, ?_, ?_⟩
    · rw [hH' 3 (by decide) (by decide), hfr _ (by have := T_act (w := v); omega)]; exact hact
    · rw [hH' 4 (by decide) (by decide), hfr _ (by have := T_ct (w := v); omega)]; exact hct
    · rw [snR_5, e6R]; exact ⟨by omega, fun _ => h6v⟩
    · intro _; rw [e6R, hfr _ (by have := T_list h6v; omega)]; exact hls
    · rw [hH' 4 (by decide) (by decide)]
      intro k hk h0
      rw [ek k hk] at h0 ⊢
      rw [hfr _ (by have := T_keep hk h0; omega)]
      exact hs.keep hk h0
    · intro j hj
      rw [snR_5] at hj
      by_cases e : j = n
      · rw [e, etn]; exact ⟨hC1, hC2, up_at⟩
      · rw [etab j (by omega), hfr _ (by have := T_tab (tab_tb (w := v) (j := j) (by omega)); omega)]
        exact hs.tab (by omega)
    · intro t ht i hi8
      rcases hTB t ht with ht | rfl
      · rw [etw t i ht hi8]; exact hLt t i ht hi8
      · rw [hRc i hi8]; exact hLt _ i act_tb hi8
  have hT : ∀ X, T (snR v c n name) X = T v X + iv c X + tl v X (v 3) := by
    intro X
    have ekc : kc (snR v c n name) X = kc v X := by
      unfold kc
      rw [hH' 4 (by decide) (by decide)]
      exact sm_congr fun k hk => by rw [ek k hk]
    have etc : ∀ t, TB v t → tc (snR v c n name) X t = tc v X t := fun t ht => tc_congr (fun i hi8 => by rw [etw t i ht hi8]) (fun i hi8 h0 l hl => by rw [elf t i l ht hi8 hl h0])
    have ecc : tc (snR v c n name) X c = iv c X + tl v X (v 3) := by
      rw [tc_tl]
      congr 1
      exact sm_congr fun i hi8 => by
        rw [hRc i hi8]
        exact lc_congr fun h0 l hl => by rw [elf _ i l act_tb hi8 hl h0]
    have es : sm n (fun j => tc (snR v c n name) X (tab (snR v c n name) j)) = sm n fun j => tc v X (tab v j) := sm_congr fun j hj => by rw [etab j hj, etc _ (tab_tb (by omega))]
    unfold T
    rw [hH' 3 (by decide) (by decide), hH' 4 (by decide) (by decide), snR_5, e6R, ekc, etc _ act_tb, sm_succ, es, etn, ecc, e5]
    omega
  have hI : Inv (clo (snR v c n name) (up u1 c (4 + n))) (up u1 c (4 + n)) := by
    refine (clo_inv hS ?_ (fun p => ?_) (fun X hX h0 => ?_)).1
    · refine ⟨by rw [hH' 0 (by decide) (by decide)]; exact g0, by rw [hH' 1 (by decide) (by decide)]; exact g1, by rw [hH' 7 (by decide) (by decide)]; exact g7, ?_, ?_⟩
      · rw [snR_5, e6R]
        intro _ j hj hj8
        rw [hRli _ hj8 (by omega) (by omega)]
        exact gl h6v j (by omega) hj8
      · rw [snR_5, e6R]
        intro i j hi2 hj
        rw [show 8 * v 6 + 2 * i + 1 = 8 * v 6 + (2 * i + 1) by omega, show 8 * v 6 + 2 * j + 1 = 8 * v 6 + (2 * j + 1) by omega, hRli _ (show 2 * j + 1 < 8 by omega) (by omega) (by omega)]
        by_cases e : i = n
        · rw [e, hRl.2, e6, hlw _ (by omega)]
          exact fun e2 => hnm j (by omega) e2.symm
        · rw [hRli _ (by omega) (by omega) (by omega)]
          exact gn i j (by omega) hj
    · unfold snR
      have hbv := ha.2.2.2.2
      split
      · omega
      · split
        · omega
        · split
          · exact hb
          · split
            · exact hbv _
            · exact hbv _
    · rw [hH' 4 (by decide) (by decide), ek _ (by omega)]
      rw [hT] at h0
      intro e
      have h1 := ha.noK hX e
      have h2 := T_tc (w := v) (X := X) act_tb
      rw [tc_tl] at h2
      have h3 : c = X := iv_pos (show iv c X ≠ 0 by omega)
      subst h3
      rw [hH 4 (by decide)] at e
      exact hC4 e
  exact ⟨u1, up u1 c (4 + n), ha, hS, hI, hT, hfr, up_at, hC1, hC2, hC3, by rw [hH 4 (by decide)]; exact hC4, hH⟩
theorem c_addSnapT {name j : Nat} (hw : h (10, k) = E w) (hi : Inv w u) (hn : name < 4294967296) (hj : j < w 5) (he : w (8 * w 6 + (2 * j + 1)) = name) (hl : ∀ i, i < j → w (8 * w 6 + (2 * i + 1)) ≠ name) : Cl (d + 5) MX1_addSnapshot [vR (1, k), vI (nI name)] h (some (vI (-4))) h := by
  have hns := hi.1.ns
  have hls := hi.1.list (hns.2 (by omega))
  refine rnN 1 rfl ?_
  refine rnK rfl (c_snapshotCount hw) ?_
  refine rnN 3 rfl ?_
  refine rnK rfl (c_namedT hw hls.1 hns.1 hj hi.2.2.2.2 hn he hl) ?_
  refine rnF (nI_pos (show j < 2147483648 by omega)) rfl ?_
  refine rnN 1 rfl ?_
  exact rnR rfl
theorem c_addSnapM {name : Nat} (hw : h (10, k) = E w) (hi : Inv w u) (hn : name < 4294967296) (h4 : w 5 = 4) (hl : ∀ i, i < w 5 → w (8 * w 6 + (2 * i + 1)) ≠ name) : Cl (d + 5) MX1_addSnapshot [vR (1, k), vI (nI name)] h (some (vI (-3))) h := by
  have hns := hi.1.ns
  have hls := hi.1.list (hns.2 (by omega))
  refine rnN 1 rfl ?_
  refine rnK rfl (c_snapshotCount hw) ?_
  refine rnN 3 rfl ?_
  refine rnK rfl (c_namedF hw hls.1 hns.1 hi.2.2.2.2 hn hl) ?_
  rw [h4]
  refine rnN 5 rfl ?_
  exact rnR rfl
/-- how many clusters a snapshot wants -/
def snN (w : Nat → Nat) : Nat := if w 5 = 0 then 2 else 1
theorem c_addSnapF {name : Nat} (hw : h (10, k) = E w) (hi : Inv w u) (hn : name < 4294967296) (h6 : w 6 < 64) (h4 : w 5 ≠ 4) (hl : ∀ i, i < w 5 → w (8 * w 6 + (2 * i + 1)) ≠ name) (hr : ¬ snN w ≤ rm w) : Cl (d + 5) MX1_addSnapshot [vR (1, k), vI (nI name)] h (some (vI (-2))) h := by
  have hns := hi.1.ns
  have hrm : rm w ≤ 64 := by unfold rm; omega
  refine rnN 1 rfl ?_
  refine rnK rfl (c_snapshotCount hw) ?_
  refine rnN 3 rfl ?_
  refine rnK rfl (c_namedF hw h6 hns.1 hi.2.2.2.2 hn hl) ?_
  refine rnN 3 rfl ?_
  refine rnF ((show ¬ nI (w 5) = nI 4 from fun e => h4 ((neq (by omega) (by decide)).mp e))) rfl ?_
  refine rnN 2 rfl ?_
  refine rnK rfl (c_room hw hi.cg) ?_
  refine rnN 1 rfl ?_
  unfold snN at hr
  by_cases e0 : w 5 = 0
  · rw [if_pos e0] at hr
    rw [e0]
    refine rnN 3 rfl ?_
    refine rnT (nI_lt (show 64 - inUse w - noKeep w < 2 from Nat.lt_of_not_le hr) (by decide)) rfl ?_
    refine rnN 1 rfl ?_
    exact rnR rfl
  · rw [if_neg e0] at hr
    refine rnF (nI_ne0 (show 0 < w 5 by omega) (by omega)) rfl ?_
    refine rnN 1 rfl ?_
    refine rnT (nI_lt (show 64 - inUse w - noKeep w < 1 from Nat.lt_of_not_le hr) (by decide)) rfl ?_
    refine rnN 1 rfl ?_
    exact rnR rfl
/-- the words behind addSnapshot, but for counts and marks -/
def snF (w : Nat → Nat) (name : Nat) : Nat → Nat := snR (tkW (lgW w)) (tkC (lgW w)) (lgW w 5) name
/-- from the taking of the table on -/
theorem sn_tail {y : Nat → Nat} {n name : Nat} (hw : h (10, k) = E y) (hi : Inv y uy) (h6 : y 6 ≠ 0) (h5 : y 5 = n) (hn : n < 4) (hr : 1 ≤ rm y) (hb : name < 4294967296) (hnm : ∀ i, i < y 5 → y (8 * y 6 + (2 * i + 1)) ≠ name) {u3 : Nat → Nat} (hS : Str (snR (tkW y) (tkC y) (y 5) name) u3) (hI : Inv (clo (snR (tkW y) (tkC y) (y 5) name) u3) u3) {o3 : Option xV} :
    Rn (d + 5) MX1_addSnapshot 67 [some (vR (1, k)), some (vI (nI name)), some (vI (nI n)), o3] [] h (some (vI (nI 0))) (hup h (10, k) (E (stl (snR (tkW y) (tkC y) (y 5) name) u3))) := by
  obtain ⟨u1, ha, hu, hC1, hC2, hC3, hC4, hrm, hTT, hO, hH, hC5⟩ := tk_spec hi hr
  obtain ⟨-, -, -, -, -, hT, -⟩ := sn_spec hi h6 (by omega) hr hb hnm
  have hs := ha.1
  have ht := c_take (d := d + 1) hw hi hr
  obtain ⟨v, hv⟩ : ∃ v, v = tkW y := ⟨_, rfl⟩
  obtain ⟨c, hc⟩ : ∃ c, c = tkC y := ⟨_, rfl⟩
  rw [← hv] at ha hs hC3 hC4 hrm hTT hO hH
  rw [← hc] at hC1 hC2 hC3 hC4 hC5
  rw [← hv, ← hc, h5] at hS hI hT
  rw [← hv, ← hc] at ht
  rw [← hv, ← hc, h5]
  have hact := hs.act
  have hct := hs.ct
  have e5 : v 5 = n := by rw [hH 5 (by decide), h5]
  have e6 : v 6 = y 6 := hH 6 (by decide)
  have h6v : v 6 ≠ 0 := by rw [e6]; exact h6
  have hls := hs.list h6v
  have hne6 : v 6 ≠ c := ne_fresh hC3 (T_list h6v)
  have hne3 : v 3 ≠ c := ne_fresh hC3 T_act
  have hne4 : v 4 ≠ c := ne_fresh hC3 T_ct
  have hne46 : v 4 ≠ v 6 := fun e => by rw [e] at hct; omega
  have hRl := snR_l (v := v) (c := c) (n := n) (name := name) (by omega)
  have hC4v : v (8 * v 4 + c / 8) ≠ 0 := by rw [hH 4 (by decide)]; exact hC4
  have hin := cpl_in hs hC2 hC4v
  have hcx : cpl v c / 8 ≠ c := fun e => by rw [e] at hin; exact hin.2.2.1 hC3
  -- the words ahead of countTable
  obtain ⟨xa, hxa⟩ : ∃ xa, xa = setc v c 1 := ⟨_, rfl⟩
  have xaO : ∀ p, p ≠ cpl v c → xa p = v p := fun p hp => by rw [hxa]; exact setc_at hp
  have xaA : xa (cpl v c) = 1 := by rw [hxa]; exact up_at
  obtain ⟨xb, hxb⟩ : ∃ xb, xb = cpc xa xa (v 3) c := ⟨_, rfl⟩
  have xbO : ∀ p, p / 8 ≠ c → xb p = xa p := fun p hp => by rw [hxb]; unfold cpc; rw [if_neg hp]
  have xbC : ∀ i, i < 8 → xb (8 * c + i) = xa (8 * v 3 + i) := fun i hi8 => by rw [hxb]; unfold cpc; rw [if_pos (by omega), ix_mod hi8]
  have hd3 : ∀ i, i < 8 → 8 * v 3 + i ≠ cpl v c := fun i hi8 e => by rw [← e, ix_div hi8] at hin; omega
  have hd6 : ∀ i, i < 8 → 8 * v 6 + i ≠ cpl v c := fun i hi8 e => by rw [← e, ix_div hi8] at hin; omega
  obtain ⟨xe, hxe⟩ : ∃ xe, xe = up (up (up xb (8 * v 6 + 2 * n) c) (8 * v 6 + (2 * n + 1)) name) 5 (n + 1) := ⟨_, rfl⟩
  have xb6 : xb 6 = v 6 := by rw [xbO _ (by omega), xaO _ (by omega)]
  have xb3 : xa 3 = v 3 := xaO _ (by omega)
  have hxeW : xe = cW (snR v c n name) u3 (fun X => T v X + iv c X) (fun _ => false) := by
    have e4 : snR v c n name 4 = v 4 := snR_o (by omega) (by omega) (by omega) (by omega)
    have ek : ∀ k, k < 8 → snR v c n name (8 * v 4 + k) = v (8 * v 4 + k) := fun k hk => snR_o (by omega) (by omega) (by omega) (by omega)
    have ecpl : ∀ X, X < 64 → cpl (snR v c n name) X = cpl v X := fun X hX => by unfold cpl; rw [e4, ek _ (by omega)]
    have hq : ∀ p, p ≠ cpl v c → xe p = snR v c n name p := fun p hp => by
      rw [hxe]
      by_cases q5 : p = 5
      · rw [q5, up_at, snR_5]
      · rw [up_ne q5]
        by_cases q1 : p = 8 * v 6 + (2 * n + 1)
        · rw [q1, up_at, hRl.2]
        · rw [up_ne q1]
          by_cases q2 : p = 8 * v 6 + 2 * n
          · rw [q2, up_at, hRl.1]
          · rw [up_ne q2]
            by_cases q3 : p / 8 = c
            · obtain ⟨i, hi8, rfl⟩ : ∃ i, i < 8 ∧ p = 8 * c + i := ⟨p % 8, by omega, by omega⟩
              rw [xbC i hi8, xaO _ (hd3 i hi8), snR_c hne6 hC1 hn hi8]
            · rw [xbO p q3, xaO p hp, snR_o q5 q2 q1 q3]
    refine eq_cW0 hS (fun X hX h0 => ?_) (fun p hk => hq p fun e => hk ?_)
    · rw [e4, ek _ (by omega)] at h0
      have h1 := cpl_in hs hX h0
      rw [ecpl X hX]
      by_cases e : X = c
      · rw [e, hC3, iv_self, hxe, up_ne (by omega), up_ne (fun e => hd6 (2 * n + 1) (by omega) e.symm), up_ne (fun e => hd6 (2 * n) (by omega) e.symm), xbO _ hcx, xaA]
      · have hne : cpl v X ≠ cpl v c := fun e2 => e (cpl_inj hs hX hC2 h0 hC4v e2)
        have hX8 : ∀ i, i < 8 → cpl v X ≠ 8 * v 6 + i := fun i hi8 e => by rw [e, ix_div hi8] at h1; omega
        rw [hq _ hne, snR_o (by omega) (hX8 _ (by omega)) (hX8 _ (by omega)) (fun e => by rw [e] at h1; omega), ha.cntAt hX h0, iv_ne (fun e2 => e e2.symm)]
        rfl
    · rw [e]
      obtain ⟨k, a1, a2, a3⟩ := cpl_kp hC2 hC4v
      exact ⟨k, a1, by rw [e4, ek k a1]; exact a2, by rw [e4, ek k a1]; exact a3⟩
  have htn : tab (snR v c n name) n = c := by
    unfold tab
    rw [snR_o (p := 6) (by omega) (by omega) (by omega) (by omega)]
    exact hRl.1
  have hTBc : TB (snR v c n name) c := Or.inr ⟨n, by rw [snR_5]; omega, htn.symm⟩
  have hu3 := hS.tab (j := n) (by rw [snR_5]; omega)
  rw [htn] at hu3
  have hRle := fun X => T_le (w := snR v c n name) hS.ns.1 X
  have htl : ∀ X, tl (snR v c n name) X c = tl v X (v 3) := fun X => by
    have e1 := hT X
    have e2 : tl (snR v c n name) X c + (T v X + iv c X) = tl v X (v 3) + (T v X + iv c X) := by
      have h1 : tl (snR v c n name) X c = tl v X (v 3) := sm_congr fun i hi8 => by
        rw [snR_c hne6 hC1 hn hi8]
        refine lc_congr fun h0 j hj => ?_
        have h2 := (hs.tw act_tb hi8).lead h0
        have h3 := h2.1.pos
        have h4 := T_leaf act_tb hi8 h0
        have h5 : v (8 * v 3 + i) / 4 ≠ v 6 := fun e => by rw [e] at h2; omega
        rw [snR_o (by omega) (by omega) (by omega) (by rw [ix_div hj]; exact ne_fresh hC3 h4)]
      omega
    omega
  have hkp : KP (snR v c n name) c := by
    have e4 : snR v c n name 4 = v 4 := snR_o (by omega) (by omega) (by omega) (by omega)
    have hk : ∀ X, X < 64 → 1 ≤ T v X → snR v c n name (8 * v 4 + X / 8) ≠ 0 := fun X hX h1 e => by
      rw [snR_o (by omega) (by omega) (by omega) (by omega)] at e
      have := ha.noK hX e
      omega
    have hTl : ∀ X, tl v X (v 3) ≤ T v X := fun X => by have := T_tc (w := v) (X := X) act_tb; rw [tc_tl] at this; omega
    have hled : ∀ X, X < 64 → tl (snR v c n name) X c ≠ 0 → snR v c n name (8 * snR v c n name 4 + X / 8) ≠ 0 := fun X hX h1 => by
      rw [e4]
      exact hk X hX (by rw [htl X] at h1; have := hTl X; omega)
    intro i hi8 h0
    have h1 := (hS.tw hTBc hi8).lead h0
    have hlc : ∀ X, lc (snR v c n name) X (snR v c n name (8 * c + i)) ≤ tl (snR v c n name) X c := fun X => sm_ge (n := 8) (f := fun i => lc (snR v c n name) X (snR v c n name (8 * c + i))) hi8
    refine ⟨hled _ h1.1.pos.2 ?_, fun j hj h2 => hled _ ((h1.2.2.2 j hj).lead h2).1.pos.2 ?_⟩
    · have h3 := hlc (snR v c n name (8 * c + i) / 4)
      rw [lc_ld] at h3
      unfold ld at h3
      rw [if_neg h0, iv_self] at h3
      omega
    · have h3 := hlc (snR v c n name (8 * (snR v c n name (8 * c + i) / 4) + j) / 4)
      rw [lc_ld, if_neg h0] at h3
      have h4 := sm_ge (n := 8) (f := fun j2 => ld (snR v c n name (8 * (snR v c n name (8 * c + i) / 4) + j2)) (snR v c n name (8 * (snR v c n name (8 * c + i) / 4) + j) / 4)) hj
      have h5 : ld (snR v c n name (8 * (snR v c n name (8 * c + i) / 4) + j)) (snR v c n name (8 * (snR v c n name (8 * c + i) / 4) + j) / 4) = 1 := by
        unfold ld
        rw [if_neg h2, iv_self]
      simp only [h5] at h4
      omega
  have c1 := c_countTable (d := d + 1) (h := hup h (10, k) (E xe)) (k := k) (sg := true) (w := snR v c n name) (u := u3) (g := fun X => T v X + iv c X) (t := c) (by
    rw [hup_at, hxeW]
    congr 1) hS hC2 (by omega) (fun i hi8 => hS.tw hTBc hi8) hkp (fun e => by cases e) (fun X => by have := hRle X; have := hT X; show T v X + iv c X + 100 < 1000; omega)
  have hfin : cS true (snR v c n name) u3 (fun X => T v X + iv c X) (fun X => tl (snR v c n name) X c) = clo (snR v c n name) u3 := by
    rw [cS_true]
    refine cW_clo hS (fun p hp h0 => ?_) (fun X hX h0 => ?_)
    · rw [hT] at h0
      have hp0 : p / 8 ≠ 0 := fun e => by have := T_zero v; rw [e] at h0; omega
      have hp6 : p / 8 ≠ v 6 := fun e => by have := T_list h6v; rw [e] at h0; omega
      have hpc : p / 8 ≠ c := fun e => by rw [e, iv_self] at h0; omega
      rw [snR_o (by omega) (by omega) (by omega) hpc]
      have h1 := ha.2.2.1 (p / 8) (by omega) (by omega) (p % 8) (by omega)
      rwa [show 8 * (p / 8) + p % 8 = p by omega] at h1
    · show T v X + iv c X + tl (snR v c n name) X c = _
      rw [hT, htl]
  rw [show dlt true = nI 1 from rfl, hup_hup, hfin] at c1
  have c2 := c_tellFlags (d := d) (h := hup h (10, k) (E (clo (snR v c n name) u3))) (k := k) hup_at hI
  rw [hup_hup] at c2
  have c3 := c_copySame (d := d + 3) (h := hup h (10, k) (E xa)) (k := k) hup_at hact.2.1 hC2 hne3
  rw [hup_hup, ← hxb] at c3
  rw [← hxa] at ht
  refine rnN 2 rfl ?_
  refine rnK rfl (ht) ?_
  refine rnN 6 rfl ?_
  refine rnK rfl (c_activeTable hup_at) ?_
  rw [xb3]
  refine rnN 1 rfl ?_
  refine rnK rfl (c3) ?_
  refine rnN 3 rfl ?_
  refine rnK rfl (c_snapshotList hup_at) ?_
  rw [xb6]
  refine rnN 4 rfl ?_
  simp (disch := omega) only [nI_add, pk_mul, pk_sub, nd8, nd4, nsub8, nand63, nand7, nshr2, nI_clamp, E_at, hup_at, hup_hup]
  refine rnK rfl (c_put hup_at hls.1 (show 2 * n < 8 by omega)) ?_
  rw [hup_hup]
  refine rnN 3 rfl ?_
  refine rnK rfl (c_snapshotList hup_at) ?_
  rw [up_ne (show 6 ≠ 8 * v 6 + 2 * n by omega), xb6]
  refine rnN 6 rfl ?_
  simp (disch := omega) only [nI_add, pk_mul, pk_sub, nd8, nd4, nsub8, nand63, nand7, nshr2, nI_clamp, E_at, hup_at, hup_hup]
  refine rnK rfl (c_put hup_at hls.1 (show 2 * n + 1 < 8 by omega)) ?_
  refine rnN 7 rfl ?_
  simp (disch := omega) only [nI_add, pk_mul, pk_sub, nd8, nd4, nsub8, nand63, nand7, nshr2, nI_clamp, E_at, hup_at, hup_hup]
  refine rnK rfl (c_hput hup_at (show 5 < 8 by decide)) ?_
  rw [hup_hup, ← hxe]
  refine rnN 3 rfl ?_
  refine rnK rfl (c1) ?_
  refine rnN 1 rfl ?_
  refine rnK rfl (c2) ?_
  refine rnN 1 rfl ?_
  exact rnR rfl
theorem c_addSnap {name : Nat} (hw : h (10, k) = E w) (hi : Inv w u) (h60 : w 5 = 0 → w 6 = 0) (hb : name < 4294967296) (h4 : w 5 ≠ 4) (hl : ∀ i, i < w 5 → w (8 * w 6 + (2 * i + 1)) ≠ name) (hr : snN w ≤ rm w) {u3 : Nat → Nat} (hS : Str (snF w name) u3) (hI : Inv (clo (snF w name) u3) u3) :
    Cl (d + 5) MX1_addSnapshot [vR (1, k), vI (nI name)] h (some (vI (nI 0))) (hup h (10, k) (E (stl (snF w name) u3))) := by
  have hns := hi.1.ns
  have hrm : rm w ≤ 64 := by unfold rm; omega
  have h6 : w 6 < 64 := by
    by_cases e : w 6 = 0
    · omega
    · exact (hi.1.list e).1
  refine rnN 1 rfl ?_
  refine rnK rfl (c_snapshotCount hw) ?_
  refine rnN 3 rfl ?_
  refine rnK rfl (c_namedF hw h6 hns.1 hi.2.2.2.2 hb hl) ?_
  refine rnN 3 rfl ?_
  refine rnF ((show ¬ nI (w 5) = nI 4 from fun e => h4 ((neq (by omega) (by decide)).mp e))) rfl ?_
  refine rnN 2 rfl ?_
  refine rnK rfl (c_room hw hi.cg) ?_
  refine rnN 1 rfl ?_
  unfold snN at hr
  by_cases e0 : w 5 = 0
  · rw [if_pos e0] at hr
    obtain ⟨u1, u2, ha, hS2, hV, hI2, hH, hC, hC1, hC2, hrm2, hO, hT, hfr, hz⟩ := lg_spec hi h60 e0 (by omega)
    have e5 : lgW w 5 = 0 := by rw [hH 5 (by decide) (by decide), e0]
    rw [e0]
    refine rnN 3 rfl ?_
    refine rnF ((nI_nlt (show 2 ≤ 64 - inUse w - noKeep w from hr) (by omega))) rfl ?_
    refine rnN 8 rfl ?_
    refine rnK rfl (c_take hw hi (by omega)) ?_
    refine rnK rfl (c_hput hup_at (show 6 < 8 by decide)) ?_
    have elg : up (setc (tkW w) (tkC w) 1) 6 (tkC w) = lgW w := by unfold lgW; rw [if_pos e0]
    rw [hup_hup, elg]
    have ht := sn_tail (d := d) (h := hup h (10, k) (E (lgW w))) (k := k) (n := 0) (name := name) (o3 := none) hup_at hI2 (by rw [hC]; omega) e5 (by decide) (by omega) hb (fun i hi2 => by rw [e5] at hi2; omega) hS hI
    rw [hup_hup] at ht
    exact ht
  · rw [if_neg e0] at hr
    have elg : lgW w = w := by unfold lgW; rw [if_neg e0]
    unfold snF at hS hI ⊢
    rw [elg] at hS hI ⊢
    refine rnF (nI_ne0 (show 0 < w 5 by omega) (by omega)) rfl ?_
    refine rnN 1 rfl ?_
    refine rnF ((nI_nlt (show 1 ≤ 64 - inUse w - noKeep w from hr) (by omega))) rfl ?_
    refine rnN 1 rfl ?_
    refine rnF (nI_ne0 (show 0 < w 5 by omega) (by omega)) rfl ?_
    exact sn_tail hw hi (hns.2 e0) rfl (by omega) hr hb hl hS hI
end SN2
end
section
/-! ===== the reference: its file's words, its counts ===== -/
/-- file g of the words M becomes v -/
def pf (M : Nat → Nat) (g : Nat) (v : Nat → Nat) : Nat → Nat := fun q => if q / 512 = g then v (q % 512) else M q
/-- the counts a in a row of ints -/
def cf (f : Nat → Int32) (a : Nat → Nat) : Nat → Int32 := fun c => if c < 64 then nI (a c) else f c
/-- -1, 0, 1, .. -/
def jm : Nat → Int32
  | 0 => -1
  | n + 1 => nI n
/-- the active table, the snapshots' tables -/
def tbn (w : Nat → Nat) : Nat → Nat
  | 0 => w 3
  | j + 1 => tab w j
section M0
variable {d g : Nat} {h : xH} {M w v u a : Nat → Nat} {f : Nat → Int32}
theorem hpt_def {h : xH} {p : xP} {i : Nat} {x : Int32} : hpt h p i x = hup h p (upd (h p) i x) := rfl
theorem h12_14 {h : xH} {f : Nat → Int32} : hup h (14, 0) f (12, 0) = h (12, 0) := hup_ne (by decide)
theorem h14_12 {h : xH} {f : Nat → Int32} : hup h (12, 0) f (14, 0) = h (14, 0) := hup_ne (by decide)
theorem h12_15 {h : xH} {f : Nat → Int32} : hup h (15, 0) f (12, 0) = h (12, 0) := hup_ne (by decide)
theorem h15_12 {h : xH} {f : Nat → Int32} : hup h (12, 0) f (15, 0) = h (15, 0) := hup_ne (by decide)
theorem h14_15 {h : xH} {f : Nat → Int32} : hup h (15, 0) f (14, 0) = h (14, 0) := hup_ne (by decide)
theorem h15_14 {h : xH} {f : Nat → Int32} : hup h (14, 0) f (15, 0) = h (15, 0) := hup_ne (by decide)
theorem pf_at {p : Nat} (hp : p < 512) : pf M g w (512 * g + p) = w p := by
  unfold pf
  rw [if_pos (by omega)]
  congr 1
  omega
theorem pf_at2 {c j : Nat} (hp : 8 * c + j < 512) : pf M g w (512 * g + 8 * c + j) = w (8 * c + j) := by
  rw [show 512 * g + 8 * c + j = 512 * g + (8 * c + j) by omega]
  exact pf_at hp
theorem pf_ne {g2 p : Nat} (hp : p < 512) (hg : g2 ≠ g) : pf M g w (512 * g2 + p) = M (512 * g2 + p) := by
  unfold pf
  rw [if_neg (by omega)]
theorem pf_up {p x : Nat} (hp : p < 512) : up (pf M g w) (512 * g + p) x = pf M g (up w p x) := by
  funext q
  simp only [up, pf]
  by_cases e : q = 512 * g + p
  · rw [if_pos e, if_pos (by omega), if_pos (by omega)]
  · rw [if_neg e]
    by_cases e2 : q / 512 = g
    · rw [if_pos e2, if_pos e2, if_neg (by omega)]
    · rw [if_neg e2, if_neg e2]
theorem pf_congr (h : ∀ p, p < 512 → v p = w p) : pf M g v = pf M g w := by
  funext q
  unfold pf
  split
  · exact h _ (by omega)
  · rfl
theorem pf_pf : pf (pf M g v) g w = pf M g w := by
  funext q
  unfold pf
  split <;> rfl
theorem cf_at {X : Nat} (h : X < 64) : cf f a X = nI (a X) := if_pos h
theorem cf_cf {b : Nat → Nat} : cf (cf f a) b = cf f b := by
  funext c
  unfold cf
  split <;> rfl
theorem cf_congr {b : Nat → Nat} (h : ∀ X, X < 64 → a X = b X) : cf f a = cf f b := by
  funext c
  unfold cf
  split
  · next hc => rw [h c hc]
  · rfl
theorem cf_inc {X : Nat} (h : X < 64) : upd (cf f a) X (nI (a X + 1)) = cf f (fun Y => a Y + iv X Y) := by
  funext c
  simp only [upd, cf]
  by_cases e : c = X
  · rw [if_pos e, if_pos (by omega), e, iv_self]
  · rw [if_neg e]
    split
    · rw [iv_ne (fun e2 => e e2.symm)]
      rfl
    · rfl
theorem jm_succ (n : Nat) : jm n + nI 1 = jm (n + 1) := by
  cases n with
  | zero => rfl
  | succ n => exact nI_add n 1
theorem jm_lt {n s : Nat} (hn : n < s + 1) (hs : s < 1000) : jm n < nI s := by
  cases n with
  | zero => exact Int32.lt_of_lt_of_le (show (-1 : Int32) < 0 by decide) (nI_pos' (by omega))
  | succ n => exact nI_lt (by omega) (by omega)
theorem jm_nlt {s : Nat} (hs : s < 1000) : ¬ jm (s + 1) < nI s := nI_nlt (Nat.le_refl _) (by omega)
theorem tbn_tb {n : Nat} (hn : n ≤ w 5) : TB w (tbn w n) := by
  cases n with
  | zero => exact act_tb
  | succ n => exact tab_tb (by omega)
theorem Str.l6 (hs : Str w u) : w 6 < 64 := by
  by_cases e : w 6 = 0
  · omega
  · exact (hs.list e).1
/-- the due counts, the tables in a row -/
theorem T_rows (w : Nat → Nat) (X : Nat) : T w X = (iv X 0 + iv (w 4) X + kc w X + if w 6 = 0 then 0 else iv (w 6) X) + sm (w 5 + 1) fun n => tc w X (tbn w n) := by
  have h1 : ∀ n, (sm (n + 1) fun n => tc w X (tbn w n)) = tc w X (w 3) + sm n fun j => tc w X (tab w j) := by
    intro n
    induction n with
    | zero => simp only [sm, tbn]; omega
    | succ n ih =>
      rw [sm_succ (n := n + 1), ih, sm_succ (n := n)]
      show _ + tc w X (tab w n) = _
      omega
  rw [h1]
  unfold T
  omega
theorem m_at {c : Nat} : Cl d MX4_at [vI (nI g), vI (nI c)] h (some (vI (nI (512 * g + 8 * c)))) h := by
  refine rnN 7 rfl ?_
  simp (disch := omega) only [nI_add, pk_mul, pk_sub, nd8, nd4, nsub8, nand63, nand7, nshr2, nI_clamp, E_at, hup_at, hup_hup]
  exact rnR rfl
theorem m_sizeOf (hw : h (12, 0) = E (pf M g w)) (hg : g < 4) : Cl d MX4_sizeOf [vR (4, 0), vI (nI g)] h (some (vI (nI (w 2)))) h := by
  refine rnN 7 rfl ?_
  simp (disch := omega) only [nI_add, pk_mul, pk_sub, nd8, nd4, nsub8, nand63, nand7, nshr2, nI_clamp, E_at, hup_at, hup_hup, hpt_def, pf_at, pf_at2, cf_at, h12_14, h14_12, h12_15, h15_12, h14_15, h15_14]
  refine rnC (inN (show 512 * g + 2 < 2048 by omega) (by decide)) rfl ?_
  simp (disch := omega) only [nI_add, pk_mul, pk_sub, nd8, nd4, nsub8, nand63, nand7, nshr2, nI_clamp, E_at, hup_at, hup_hup, hpt_def, pf_at, pf_at2, cf_at, h12_14, h14_12, h12_15, h15_12, h14_15, h15_14, hw]
  exact rnR rfl
theorem m_snapshots (hw : h (12, 0) = E (pf M g w)) (hg : g < 4) : Cl d MX4_snapshots [vR (4, 0), vI (nI g)] h (some (vI (nI (w 5)))) h := by
  refine rnN 7 rfl ?_
  simp (disch := omega) only [nI_add, pk_mul, pk_sub, nd8, nd4, nsub8, nand63, nand7, nshr2, nI_clamp, E_at, hup_at, hup_hup, hpt_def, pf_at, pf_at2, cf_at, h12_14, h14_12, h12_15, h15_12, h14_15, h15_14]
  refine rnC (inN (show 512 * g + 5 < 2048 by omega) (by decide)) rfl ?_
  simp (disch := omega) only [nI_add, pk_mul, pk_sub, nd8, nd4, nsub8, nand63, nand7, nshr2, nI_clamp, E_at, hup_at, hup_hup, hpt_def, pf_at, pf_at2, cf_at, h12_14, h14_12, h12_15, h15_12, h14_15, h15_14, hw]
  exact rnR rfl
theorem m_table {n : Nat} (hw : h (12, 0) = E (pf M g w)) (hg : g < 4) (h6 : w 6 < 64) (hn : n ≤ 4) : Cl (d + 1) MX4_table [vR (4, 0), vI (nI g), vI (jm n)] h (some (vI (nI (512 * g + 8 * tbn w n)))) h := by
  refine rnN 8 rfl ?_
  simp (disch := omega) only [nI_add, pk_mul, pk_sub, nd8, nd4, nsub8, nand63, nand7, nshr2, nI_clamp, E_at, hup_at, hup_hup, hpt_def, pf_at, pf_at2, cf_at, h12_14, h14_12, h12_15, h15_12, h14_15, h15_14]
  refine rnC (inN (show 512 * g + 6 < 2048 by omega) (by decide)) rfl ?_
  simp (disch := omega) only [nI_add, pk_mul, pk_sub, nd8, nd4, nsub8, nand63, nand7, nshr2, nI_clamp, E_at, hup_at, hup_hup, hpt_def, pf_at, pf_at2, cf_at, h12_14, h14_12, h12_15, h15_12, h14_15, h15_14, hw]
  refine rnK rfl (m_at) ?_
  refine rnN 3 rfl ?_
  cases n with
  | zero =>
    refine rnN 8 rfl ?_
    simp (disch := omega) only [nI_add, pk_mul, pk_sub, nd8, nd4, nsub8, nand63, nand7, nshr2, nI_clamp, E_at, hup_at, hup_hup, hpt_def, pf_at, pf_at2, cf_at, h12_14, h14_12, h12_15, h15_12, h14_15, h15_14]
    refine rnC (inN (show 512 * g + 3 < 2048 by omega) (by decide)) rfl ?_
    simp (disch := omega) only [nI_add, pk_mul, pk_sub, nd8, nd4, nsub8, nand63, nand7, nshr2, nI_clamp, E_at, hup_at, hup_hup, hpt_def, pf_at, pf_at2, cf_at, h12_14, h14_12, h12_15, h15_12, h14_15, h15_14, hw]
    refine rnN 1 rfl ?_
    refine rnK rfl (m_at) ?_
    exact rnR rfl
  | succ n =>
    rw [show jm (n + 1) = nI n from rfl]
    refine rnF (nI_pos (show n < 2147483648 by omega)) rfl ?_
    refine rnN 7 rfl ?_
    simp (disch := omega) only [nI_add, pk_mul, pk_sub, nd8, nd4, nsub8, nand63, nand7, nshr2, nI_clamp, E_at, hup_at, hup_hup, hpt_def, pf_at, pf_at2, cf_at, h12_14, h14_12, h12_15, h15_12, h14_15, h15_14]
    refine rnC (inN (show 512 * g + 8 * w 6 + 2 * n < 2048 by omega) (by decide)) rfl ?_
    simp (disch := omega) only [nI_add, pk_mul, pk_sub, nd8, nd4, nsub8, nand63, nand7, nshr2, nI_clamp, E_at, hup_at, hup_hup, hpt_def, pf_at, pf_at2, cf_at, h12_14, h14_12, h12_15, h15_12, h14_15, h15_14, hw]
    refine rnK rfl (m_at) ?_
    exact rnR rfl
theorem m_countLeaf {l : Nat} (hw : h (12, 0) = E (pf M g w)) (hc : h (14, 0) = cf f a) (hg : g < 4) (hl : l < 64) (hb : ∀ j, j < 8 → w (8 * l + j) < 256) : Cl d MX4_countLeaf [vR (4, 0), vI (nI (512 * g + 8 * l))] h none (hup h (14, 0) (cf f fun X => a X + sm 8 fun j => bc X (w (8 * l + j)))) := by
  refine rnN 2 rfl ?_
  refine rnH (hup_self (f := cf f fun X => a X + sm 0 fun j => bc X (w (8 * l + j))) hc).symm ?_
  have go := lpN 8 (fun i => ∀ o3 : Option xV, Rn d MX4_countLeaf 2 [some (vR (4, 0)), some (vI (nI (512 * g + 8 * l))), some (vI (nI i)), o3] [] (hup h (14, 0) (cf f fun X => a X + sm i fun j => bc X (w (8 * l + j)))) none (hup h (14, 0) (cf f fun X => a X + sm 8 fun j => bc X (w (8 * l + j))))) (fun i hi K => ?_) ?_
  · exact go none
  · intro o3
    have hbi := hb i hi
    refine rnN 2 rfl ?_
    refine rnT (nI_lt hi (by decide)) rfl ?_
    refine rnN 5 rfl ?_
    simp (disch := omega) only [nI_add, pk_mul, pk_sub, nd8, nd4, nsub8, nand63, nand7, nshr2, nI_clamp, E_at, hup_at, hup_hup, hpt_def, pf_at, pf_at2, cf_at, h12_14, h14_12, h12_15, h15_12, h14_15, h15_14]
    refine rnC (inN (show 512 * g + 8 * l + i < 2048 by omega) (by decide)) rfl ?_
    simp (disch := omega) only [nI_add, pk_mul, pk_sub, nd8, nd4, nsub8, nand63, nand7, nshr2, nI_clamp, E_at, hup_at, hup_hup, hpt_def, pf_at, pf_at2, cf_at, h12_14, h14_12, h12_15, h15_12, h14_15, h15_14, hw]
    refine rnN 4 rfl ?_
    simp (disch := omega) only [nI_add, pk_mul, pk_sub, nd8, nd4, nsub8, nand63, nand7, nshr2, nI_clamp, E_at, hup_at, hup_hup, hpt_def, pf_at, pf_at2, cf_at, h12_14, h14_12, h12_15, h15_12, h14_15, h15_14]
    by_cases h0 : w (8 * l + i) / 4 = 0
    · rw [h0]
      refine rnN 3 rfl ?_
      simp (disch := omega) only [nI_add, pk_mul, pk_sub, nd8, nd4, nsub8, nand63, nand7, nshr2, nI_clamp, E_at, hup_at, hup_hup, hpt_def, pf_at, pf_at2, cf_at, h12_14, h14_12, h12_15, h15_12, h14_15, h15_14]
      refine rnH ?_ (K _)
      congr 2
      funext X
      rw [sm_succ]
      unfold bc
      rw [if_pos h0]
      rfl
    · refine rnT ((n0lt (show w (8 * l + i) / 4 < 2147483648 by omega)).mpr (by omega)) rfl ?_
      refine rnN 4 rfl ?_
      refine rnC (inN (show w (8 * l + i) / 4 < 64 by omega) (by decide)) rfl ?_
      simp (disch := omega) only [nI_add, pk_mul, pk_sub, nd8, nd4, nsub8, nand63, nand7, nshr2, nI_clamp, E_at, hup_at, hup_hup, hpt_def, pf_at, pf_at2, cf_at, h12_14, h14_12, h12_15, h15_12, h14_15, h15_14]
      refine rnN 2 rfl ?_
      simp (disch := omega) only [nI_add, pk_mul, pk_sub, nd8, nd4, nsub8, nand63, nand7, nshr2, nI_clamp, E_at, hup_at, hup_hup, hpt_def, pf_at, pf_at2, cf_at, h12_14, h14_12, h12_15, h15_12, h14_15, h15_14]
      refine rnC (inN (show w (8 * l + i) / 4 < 64 by omega) (by decide)) rfl ?_
      simp (disch := omega) only [nI_add, pk_mul, pk_sub, nd8, nd4, nsub8, nand63, nand7, nshr2, nI_clamp, E_at, hup_at, hup_hup, hpt_def, pf_at, pf_at2, cf_at, h12_14, h14_12, h12_15, h15_12, h14_15, h15_14]
      rw [cf_inc (show w (8 * l + i) / 4 < 64 by omega)]
      refine rnN 2 rfl ?_
      simp (disch := omega) only [nI_add, pk_mul, pk_sub, nd8, nd4, nsub8, nand63, nand7, nshr2, nI_clamp, E_at, hup_at, hup_hup, hpt_def, pf_at, pf_at2, cf_at, h12_14, h14_12, h12_15, h15_12, h14_15, h15_14]
      refine rnH ?_ (K _)
      congr 2
      funext X
      rw [sm_succ]
      unfold bc
      rw [if_neg h0]
      omega
  · intro o3
    refine rnN 3 rfl ?_
    exact rnR rfl
end M0
end
section
/-! ===== the reference: recount, marked, leastFree ===== -/
section RC
variable {d g : Nat} {h : xH} {M w v u a : Nat → Nat} {f : Nat → Int32}
theorem m_recount (hw : h (12, 0) = E (pf M g w)) (hg : g < 4) (hs : Str w u) : Cl (d + 2) MX4_recount [vR (4, 0), vI (nI g)] h none (hup h (14, 0) (cf (h (14, 0)) (T w))) := by
  have h6 := hs.l6
  have hct := hs.ct
  have hact := hs.act
  have hns := hs.ns
  obtain ⟨f, hf⟩ : ∃ f, f = h (14, 0) := ⟨_, rfl⟩
  rw [← hf]
  refine rnN 2 rfl ?_
  refine rnH (hup_self (f := fun c => if c < 0 then nI 0 else f c) (by rw [← hf]; funext c; rw [if_neg (by omega)])).symm ?_
  refine lpN 64 (fun i => Rn (d + 2) MX4_recount 2 [some (vR (4, 0)), some (vI (nI g)), some (vI (nI i)), none, none, none, none] [] (hup h (14, 0) fun c => if c < i then nI 0 else f c) none (hup h (14, 0) (cf f (T w)))) (fun i hi K => ?_) ?_
  · refine rnN 2 rfl ?_
    refine rnT (nI_lt hi (by decide)) rfl ?_
    refine rnN 4 rfl ?_
    refine rnC (inN (show i < 64 by omega) (by decide)) rfl ?_
    simp (disch := omega) only [nI_add, pk_mul, pk_sub, nd8, nd4, nsub8, nand63, nand7, nshr2, nI_clamp, E_at, hup_at, hup_hup, hpt_def, pf_at, pf_at2, cf_at, h12_14, h14_12, h12_15, h15_12, h14_15, h15_14]
    refine rnN 2 rfl ?_
    simp (disch := omega) only [nI_add, pk_mul, pk_sub, nd8, nd4, nsub8, nand63, nand7, nshr2, nI_clamp, E_at, hup_at, hup_hup, hpt_def, pf_at, pf_at2, cf_at, h12_14, h14_12, h12_15, h15_12, h14_15, h15_14]
    refine rnH ?_ K
    congr 1
    funext c
    simp only [upd]
    by_cases e : c = i
    · rw [if_pos e, if_pos (by omega)]
    · rw [if_neg e]
      by_cases e2 : c < i
      · rw [if_pos e2, if_pos (by omega)]
      · rw [if_neg e2, if_neg (by omega)]
  refine rnN 3 rfl ?_
  have e0 : (fun c => if c < 64 then nI 0 else f c) = cf f fun _ => 0 := rfl
  rw [e0]
  refine rnN 4 rfl ?_
  refine rnC (inN (show 0 < 64 by omega) (by decide)) rfl ?_
  simp (disch := omega) only [nI_add, pk_mul, pk_sub, nd8, nd4, nsub8, nand63, nand7, nshr2, nI_clamp, E_at, hup_at, hup_hup, hpt_def, pf_at, pf_at2, cf_at, h12_14, h14_12, h12_15, h15_12, h14_15, h15_14]
  have e1 : upd (cf f fun _ => 0) 0 (nI 1) = cf f fun X => iv X 0 := by
    have h1 := cf_inc (f := f) (a := fun _ => 0) (X := 0) (by decide)
    rw [show (0 : Nat) + 1 = 1 from rfl] at h1
    rw [h1]
    refine cf_congr fun X _ => ?_
    show 0 + iv 0 X = iv X 0
    unfold iv
    by_cases e : X = 0
    · rw [if_pos e, if_pos e.symm]
    · rw [if_neg e, if_neg (fun e2 => e e2.symm)]
  rw [e1]
  refine rnN 7 rfl ?_
  simp (disch := omega) only [nI_add, pk_mul, pk_sub, nd8, nd4, nsub8, nand63, nand7, nshr2, nI_clamp, E_at, hup_at, hup_hup, hpt_def, pf_at, pf_at2, cf_at, h12_14, h14_12, h12_15, h15_12, h14_15, h15_14]
  refine rnC (inN (show 512 * g + 4 < 2048 by omega) (by decide)) rfl ?_
  simp (disch := omega) only [nI_add, pk_mul, pk_sub, nd8, nd4, nsub8, nand63, nand7, nshr2, nI_clamp, E_at, hup_at, hup_hup, hpt_def, pf_at, pf_at2, cf_at, h12_14, h14_12, h12_15, h15_12, h14_15, h15_14, hw]
  refine rnN 5 rfl ?_
  refine rnC (inN (show w 4 < 64 by omega) (by decide)) rfl ?_
  simp (disch := omega) only [nI_add, pk_mul, pk_sub, nd8, nd4, nsub8, nand63, nand7, nshr2, nI_clamp, E_at, hup_at, hup_hup, hpt_def, pf_at, pf_at2, cf_at, h12_14, h14_12, h12_15, h15_12, h14_15, h15_14]
  refine rnN 2 rfl ?_
  simp (disch := omega) only [nI_add, pk_mul, pk_sub, nd8, nd4, nsub8, nand63, nand7, nshr2, nI_clamp, E_at, hup_at, hup_hup, hpt_def, pf_at, pf_at2, cf_at, h12_14, h14_12, h12_15, h15_12, h14_15, h15_14]
  refine rnC (inN (show w 4 < 64 by omega) (by decide)) rfl ?_
  simp (disch := omega) only [nI_add, pk_mul, pk_sub, nd8, nd4, nsub8, nand63, nand7, nshr2, nI_clamp, E_at, hup_at, hup_hup, hpt_def, pf_at, pf_at2, cf_at, h12_14, h14_12, h12_15, h15_12, h14_15, h15_14]
  rw [cf_inc (show w 4 < 64 by omega)]
  refine rnN 2 rfl ?_
  -- the count table
  have lp1 := lpN 8 (fun i => ∀ o4 : Option xV, Rn (d + 2) MX4_recount 53 [some (vR (4, 0)), some (vI (nI g)), some (vI (nI (w 4))), some (vI (nI i)), o4, none, none] [] (hup h (14, 0) (cf f fun X => iv X 0 + iv (w 4) X + sm i fun k => if w (8 * w 4 + k) = 0 then 0 else iv (w (8 * w 4 + k)) X)) none (hup h (14, 0) (cf f (T w)))) (fun i hi K => ?_) ?_
  · exact lp1 none
  · intro o4
    have hk := hs.keepLt hi
    refine rnN 2 rfl ?_
    refine rnT (nI_lt hi (by decide)) rfl ?_
    refine rnN 4 rfl ?_
    refine rnK rfl (m_at) ?_
    refine rnN 2 rfl ?_
    simp (disch := omega) only [nI_add, pk_mul, pk_sub, nd8, nd4, nsub8, nand63, nand7, nshr2, nI_clamp, E_at, hup_at, hup_hup, hpt_def, pf_at, pf_at2, cf_at, h12_14, h14_12, h12_15, h15_12, h14_15, h15_14]
    refine rnC (inN (show 512 * g + 8 * w 4 + i < 2048 by omega) (by decide)) rfl ?_
    simp (disch := omega) only [nI_add, pk_mul, pk_sub, nd8, nd4, nsub8, nand63, nand7, nshr2, nI_clamp, E_at, hup_at, hup_hup, hpt_def, pf_at, pf_at2, cf_at, h12_14, h14_12, h12_15, h15_12, h14_15, h15_14, hw]
    refine rnN 2 rfl ?_
    by_cases h0 : w (8 * w 4 + i) = 0
    · rw [h0]
      refine rnN 3 rfl ?_
      simp (disch := omega) only [nI_add, pk_mul, pk_sub, nd8, nd4, nsub8, nand63, nand7, nshr2, nI_clamp, E_at, hup_at, hup_hup, hpt_def, pf_at, pf_at2, cf_at, h12_14, h14_12, h12_15, h15_12, h14_15, h15_14]
      refine rnH ?_ (K _)
      congr 2
      funext X
      rw [sm_succ, if_pos h0]
      rfl
    · refine rnF (nI_ne0 (show 0 < w (8 * w 4 + i) by omega) (by omega)) rfl ?_
      refine rnN 4 rfl ?_
      refine rnC (inN hk (by decide)) rfl ?_
      simp (disch := omega) only [nI_add, pk_mul, pk_sub, nd8, nd4, nsub8, nand63, nand7, nshr2, nI_clamp, E_at, hup_at, hup_hup, hpt_def, pf_at, pf_at2, cf_at, h12_14, h14_12, h12_15, h15_12, h14_15, h15_14]
      refine rnN 2 rfl ?_
      simp (disch := omega) only [nI_add, pk_mul, pk_sub, nd8, nd4, nsub8, nand63, nand7, nshr2, nI_clamp, E_at, hup_at, hup_hup, hpt_def, pf_at, pf_at2, cf_at, h12_14, h14_12, h12_15, h15_12, h14_15, h15_14]
      refine rnC (inN hk (by decide)) rfl ?_
      simp (disch := omega) only [nI_add, pk_mul, pk_sub, nd8, nd4, nsub8, nand63, nand7, nshr2, nI_clamp, E_at, hup_at, hup_hup, hpt_def, pf_at, pf_at2, cf_at, h12_14, h14_12, h12_15, h15_12, h14_15, h15_14]
      rw [cf_inc hk]
      refine rnN 2 rfl ?_
      simp (disch := omega) only [nI_add, pk_mul, pk_sub, nd8, nd4, nsub8, nand63, nand7, nshr2, nI_clamp, E_at, hup_at, hup_hup, hpt_def, pf_at, pf_at2, cf_at, h12_14, h14_12, h12_15, h15_12, h14_15, h15_14]
      refine rnH ?_ (K _)
      congr 2
      funext X
      rw [sm_succ, if_neg h0]
      omega
  intro o4
  refine rnN 3 rfl ?_
  have ekc : (fun X => iv X 0 + iv (w 4) X + sm 8 fun k => if w (8 * w 4 + k) = 0 then 0 else iv (w (8 * w 4 + k)) X) = fun X => iv X 0 + iv (w 4) X + kc w X := rfl
  rw [ekc]
  refine rnN 7 rfl ?_
  simp (disch := omega) only [nI_add, pk_mul, pk_sub, nd8, nd4, nsub8, nand63, nand7, nshr2, nI_clamp, E_at, hup_at, hup_hup, hpt_def, pf_at, pf_at2, cf_at, h12_14, h14_12, h12_15, h15_12, h14_15, h15_14]
  refine rnC (inN (show 512 * g + 6 < 2048 by omega) (by decide)) rfl ?_
  simp (disch := omega) only [nI_add, pk_mul, pk_sub, nd8, nd4, nsub8, nand63, nand7, nshr2, nI_clamp, E_at, hup_at, hup_hup, hpt_def, pf_at, pf_at2, cf_at, h12_14, h14_12, h12_15, h15_12, h14_15, h15_14, hw]
  -- the tables
  have lp2 : ∀ n, n ≤ w 5 + 1 → (Rn (d + 2) MX4_recount 135 [some (vR (4, 0)), some (vI (nI g)), some (vI (nI (w 4))), some (vI (jm n)), o4, none, none] [] (hup h (14, 0) (cf f fun X => (iv X 0 + iv (w 4) X + kc w X + if w 6 = 0 then 0 else iv (w 6) X) + sm n fun n => tc w X (tbn w n))) none (hup h (14, 0) (cf f (T w)))) → True := fun _ _ _ => trivial
  have lp3 := lpN (w 5 + 1) (fun n => ∀ o4 o5 o6 : Option xV, Rn (d + 2) MX4_recount 135 [some (vR (4, 0)), some (vI (nI g)), some (vI (nI (w 4))), some (vI (jm n)), o4, o5, o6] [] (hup h (14, 0) (cf f fun X => (iv X 0 + iv (w 4) X + kc w X + if w 6 = 0 then 0 else iv (w 6) X) + sm n fun n => tc w X (tbn w n))) none (hup h (14, 0) (cf f (T w)))) (fun n hn K => ?_) ?_
  · have lst : (fun X => (iv X 0 + iv (w 4) X + kc w X + if w 6 = 0 then 0 else iv (w 6) X) + sm 0 fun n => tc w X (tbn w n)) = fun X => iv X 0 + iv (w 4) X + kc w X + if w 6 = 0 then 0 else iv (w 6) X := rfl
    have lp4 := lp3 o4 none none
    rw [lst] at lp4
    by_cases h0 : w 6 = 0
    · rw [h0]
      refine rnN 3 rfl ?_
      refine rnH ?_ lp4
      congr 2
      funext X
      rw [if_pos h0]
      rfl
    · refine rnF (nI_ne0 (show 0 < w 6 by omega) (by omega)) rfl ?_
      refine rnN 9 rfl ?_
      simp (disch := omega) only [nI_add, pk_mul, pk_sub, nd8, nd4, nsub8, nand63, nand7, nshr2, nI_clamp, E_at, hup_at, hup_hup, hpt_def, pf_at, pf_at2, cf_at, h12_14, h14_12, h12_15, h15_12, h14_15, h15_14]
      refine rnC (inN (show 512 * g + 6 < 2048 by omega) (by decide)) rfl ?_
      simp (disch := omega) only [nI_add, pk_mul, pk_sub, nd8, nd4, nsub8, nand63, nand7, nshr2, nI_clamp, E_at, hup_at, hup_hup, hpt_def, pf_at, pf_at2, cf_at, h12_14, h14_12, h12_15, h15_12, h14_15, h15_14, hw]
      refine rnN 1 rfl ?_
      refine rnC (inN h6 (by decide)) rfl ?_
      simp (disch := omega) only [nI_add, pk_mul, pk_sub, nd8, nd4, nsub8, nand63, nand7, nshr2, nI_clamp, E_at, hup_at, hup_hup, hpt_def, pf_at, pf_at2, cf_at, h12_14, h14_12, h12_15, h15_12, h14_15, h15_14]
      refine rnN 2 rfl ?_
      simp (disch := omega) only [nI_add, pk_mul, pk_sub, nd8, nd4, nsub8, nand63, nand7, nshr2, nI_clamp, E_at, hup_at, hup_hup, hpt_def, pf_at, pf_at2, cf_at, h12_14, h14_12, h12_15, h15_12, h14_15, h15_14]
      refine rnC (inN h6 (by decide)) rfl ?_
      simp (disch := omega) only [nI_add, pk_mul, pk_sub, nd8, nd4, nsub8, nand63, nand7, nshr2, nI_clamp, E_at, hup_at, hup_hup, hpt_def, pf_at, pf_at2, cf_at, h12_14, h14_12, h12_15, h15_12, h14_15, h15_14]
      rw [cf_inc h6]
      refine rnN 2 rfl ?_
      refine rnH ?_ lp4
      congr 2
      funext X
      rw [if_neg h0]
  · intro o4 o5 o6
    have htb := tbn_tb (w := w) (n := n) (by omega)
    have ht := hs.tb htb
    refine rnN 3 rfl ?_
    refine rnK rfl (m_snapshots ((h12_14).trans hw) hg) ?_
    refine rnT (jm_lt hn (by omega)) rfl ?_
    refine rnN 3 rfl ?_
    refine rnK rfl (m_table ((h12_14).trans hw) hg h6 (show n ≤ 4 by omega)) ?_
    refine rnN 11 rfl ?_
    simp (disch := omega) only [nI_add, pk_mul, pk_sub, nd8, nd4, nsub8, nand63, nand7, nshr2, nI_clamp, E_at, hup_at, hup_hup, hpt_def, pf_at, pf_at2, cf_at, h12_14, h14_12, h12_15, h15_12, h14_15, h15_14]
    rw [show (512 * g + 8 * tbn w n - 512 * g) / 8 = tbn w n by omega]
    refine rnC (inN ht.2.1 (by decide)) rfl ?_
    simp (disch := omega) only [nI_add, pk_mul, pk_sub, nd8, nd4, nsub8, nand63, nand7, nshr2, nI_clamp, E_at, hup_at, hup_hup, hpt_def, pf_at, pf_at2, cf_at, h12_14, h14_12, h12_15, h15_12, h14_15, h15_14]
    refine rnN 2 rfl ?_
    simp (disch := omega) only [nI_add, pk_mul, pk_sub, nd8, nd4, nsub8, nand63, nand7, nshr2, nI_clamp, E_at, hup_at, hup_hup, hpt_def, pf_at, pf_at2, cf_at, h12_14, h14_12, h12_15, h15_12, h14_15, h15_14]
    refine rnC (inN ht.2.1 (by decide)) rfl ?_
    simp (disch := omega) only [nI_add, pk_mul, pk_sub, nd8, nd4, nsub8, nand63, nand7, nshr2, nI_clamp, E_at, hup_at, hup_hup, hpt_def, pf_at, pf_at2, cf_at, h12_14, h14_12, h12_15, h15_12, h14_15, h15_14]
    rw [cf_inc ht.2.1]
    refine rnN 2 rfl ?_
    have lp5 := lpN 8 (fun i => ∀ o6 : Option xV, Rn (d + 2) MX4_recount 175 [some (vR (4, 0)), some (vI (nI g)), some (vI (nI (w 4))), some (vI (jm n)), some (vI (nI (512 * g + 8 * tbn w n))), some (vI (nI i)), o6] [] (hup h (14, 0) (cf f fun X => ((iv X 0 + iv (w 4) X + kc w X + if w 6 = 0 then 0 else iv (w 6) X) + sm n fun n => tc w X (tbn w n)) + iv (tbn w n) X + sm i fun i => lc w X (w (8 * tbn w n + i)))) none (hup h (14, 0) (cf f (T w)))) (fun i hi K2 => ?_) ?_
    · exact lp5 _
    · intro o6
      have hL := hs.tw htb hi
      have hlt := hL.lt
      refine rnN 2 rfl ?_
      refine rnT (nI_lt hi (by decide)) rfl ?_
      refine rnN 5 rfl ?_
      simp (disch := omega) only [nI_add, pk_mul, pk_sub, nd8, nd4, nsub8, nand63, nand7, nshr2, nI_clamp, E_at, hup_at, hup_hup, hpt_def, pf_at, pf_at2, cf_at, h12_14, h14_12, h12_15, h15_12, h14_15, h15_14]
      refine rnC (inN (show 512 * g + 8 * tbn w n + i < 2048 by omega) (by decide)) rfl ?_
      simp (disch := omega) only [nI_add, pk_mul, pk_sub, nd8, nd4, nsub8, nand63, nand7, nshr2, nI_clamp, E_at, hup_at, hup_hup, hpt_def, pf_at, pf_at2, cf_at, h12_14, h14_12, h12_15, h15_12, h14_15, h15_14, hw]
      refine rnN 4 rfl ?_
      simp (disch := omega) only [nI_add, pk_mul, pk_sub, nd8, nd4, nsub8, nand63, nand7, nshr2, nI_clamp, E_at, hup_at, hup_hup, hpt_def, pf_at, pf_at2, cf_at, h12_14, h14_12, h12_15, h15_12, h14_15, h15_14]
      by_cases h0 : w (8 * tbn w n + i) / 4 = 0
      · rw [h0]
        refine rnN 3 rfl ?_
        simp (disch := omega) only [nI_add, pk_mul, pk_sub, nd8, nd4, nsub8, nand63, nand7, nshr2, nI_clamp, E_at, hup_at, hup_hup, hpt_def, pf_at, pf_at2, cf_at, h12_14, h14_12, h12_15, h15_12, h14_15, h15_14]
        refine rnH ?_ (K2 _)
        congr 2
        funext X
        rw [sm_succ]
        have e2 : lc w X (w (8 * tbn w n + i)) = 0 := by unfold lc; rw [if_pos h0]
        rw [e2]
        rfl
      · have hl := (hL.lead h0).1.pos
        refine rnT ((n0lt (show w (8 * tbn w n + i) / 4 < 2147483648 by omega)).mpr (by omega)) rfl ?_
        refine rnN 4 rfl ?_
        refine rnC (inN hl.2 (by decide)) rfl ?_
        simp (disch := omega) only [nI_add, pk_mul, pk_sub, nd8, nd4, nsub8, nand63, nand7, nshr2, nI_clamp, E_at, hup_at, hup_hup, hpt_def, pf_at, pf_at2, cf_at, h12_14, h14_12, h12_15, h15_12, h14_15, h15_14]
        refine rnN 2 rfl ?_
        simp (disch := omega) only [nI_add, pk_mul, pk_sub, nd8, nd4, nsub8, nand63, nand7, nshr2, nI_clamp, E_at, hup_at, hup_hup, hpt_def, pf_at, pf_at2, cf_at, h12_14, h14_12, h12_15, h15_12, h14_15, h15_14]
        refine rnC (inN hl.2 (by decide)) rfl ?_
        simp (disch := omega) only [nI_add, pk_mul, pk_sub, nd8, nd4, nsub8, nand63, nand7, nshr2, nI_clamp, E_at, hup_at, hup_hup, hpt_def, pf_at, pf_at2, cf_at, h12_14, h14_12, h12_15, h15_12, h14_15, h15_14]
        rw [cf_inc hl.2]
        refine rnN 3 rfl ?_
        refine rnK rfl (m_at) ?_
        have hcl := m_countLeaf (d := d + 1) (h := hup h (14, 0) (cf f fun Y => (((iv Y 0 + iv (w 4) Y + kc w Y + if w 6 = 0 then 0 else iv (w 6) Y) + sm n fun n => tc w Y (tbn w n)) + iv (tbn w n) Y + sm i fun i => lc w Y (w (8 * tbn w n + i))) + iv (w (8 * tbn w n + i) / 4) Y)) (M := M) (w := w) (l := w (8 * tbn w n + i) / 4) ((h12_14).trans hw) hup_at hg hl.2 (fun j hj => ((hL.lead h0).2.2.2 j hj).lt)
        rw [hup_hup] at hcl
        refine rnK rfl (hcl) ?_
        refine rnN 2 rfl ?_
        simp (disch := omega) only [nI_add, pk_mul, pk_sub, nd8, nd4, nsub8, nand63, nand7, nshr2, nI_clamp, E_at, hup_at, hup_hup, hpt_def, pf_at, pf_at2, cf_at, h12_14, h14_12, h12_15, h15_12, h14_15, h15_14]
        refine rnH ?_ (K2 _)
        congr 2
        funext X
        rw [sm_succ (n := i)]
        have e2 : lc w X (w (8 * tbn w n + i)) = iv (w (8 * tbn w n + i) / 4) X + sm 8 fun j => bc X (w (8 * (w (8 * tbn w n + i) / 4) + j)) := by unfold lc; rw [if_neg h0]
        rw [e2]
        omega
    · intro o6
      refine rnN 3 rfl ?_
      refine rnN 2 rfl ?_
      rw [jm_succ]
      refine rnH ?_ (K _ _ _)
      congr 2
      funext X
      rw [sm_succ (n := n)]
      have e3 : tc w X (tbn w n) = iv (tbn w n) X + sm 8 fun i => lc w X (w (8 * tbn w n + i)) := rfl
      rw [e3]
      omega
  · intro o4 o5 o6
    refine rnN 3 rfl ?_
    refine rnK rfl (m_snapshots ((h12_14).trans hw) hg) ?_
    refine rnF (jm_nlt (by omega)) rfl ?_
    refine rnH ?_ (rnR rfl)
    congr 2
    funext X
    exact (T_rows w X).symm
theorem m_marked {x : Nat} (hc : h (14, 0) = cf f (T w)) (h5 : w 5 ≤ 4) (hx : x < 256) : Cl d MX4_marked [vR (4, 0), vI (nI x)] h (some (vI (nI (mk w x)))) h := by
  refine rnN 5 rfl ?_
  simp (disch := omega) only [nI_add, pk_mul, pk_sub, nd8, nd4, nsub8, nand63, nand7, nshr2, nI_clamp, E_at, hup_at, hup_hup, hpt_def, pf_at, pf_at2, cf_at, h12_14, h14_12, h12_15, h15_12, h14_15, h15_14]
  by_cases h0 : x / 4 = 0
  · rw [h0]
    refine rnN 3 rfl ?_
    rw [mk_flat h0]
    exact rnR rfl
  · refine rnF (nI_ne0 (show 0 < x / 4 by omega) (by omega)) rfl ?_
    refine rnN 6 rfl ?_
    simp (disch := omega) only [nI_add, pk_mul, pk_sub, nd8, nd4, nsub8, nand63, nand7, nshr2, nI_clamp, E_at, hup_at, hup_hup, hpt_def, pf_at, pf_at2, cf_at, h12_14, h14_12, h12_15, h15_12, h14_15, h15_14]
    refine rnC (inN (show x / 4 < 64 by omega) (by decide)) rfl ?_
    simp (disch := omega) only [nI_add, pk_mul, pk_sub, nd8, nd4, nsub8, nand63, nand7, nshr2, nI_clamp, E_at, hup_at, hup_hup, hpt_def, pf_at, pf_at2, cf_at, h12_14, h14_12, h12_15, h15_12, h14_15, h15_14, hc]
    refine rnN 1 rfl ?_
    rw [mk_lead h0]
    have hT := T_le (w := w) h5 (x / 4)
    by_cases h1 : T w (x / 4) = 1
    · rw [h1, if_pos rfl]
      refine rnN 4 rfl ?_
      simp (disch := omega) only [nI_add, pk_mul, pk_sub, nd8, nd4, nsub8, nand63, nand7, nshr2, nI_clamp, E_at, hup_at, hup_hup, hpt_def, pf_at, pf_at2, cf_at, h12_14, h14_12, h12_15, h15_12, h14_15, h15_14]
      exact rnR rfl
    · rw [if_neg h1]
      refine rnF ((show ¬ nI (T w (x / 4)) = nI 1 from fun e => h1 ((neq (by omega) (by decide)).mp e))) rfl ?_
      refine rnN 2 rfl ?_
      simp (disch := omega) only [nI_add, pk_mul, pk_sub, nd8, nd4, nsub8, nand63, nand7, nshr2, nI_clamp, E_at, hup_at, hup_hup, hpt_def, pf_at, pf_at2, cf_at, h12_14, h14_12, h12_15, h15_12, h14_15, h15_14]
      exact rnR rfl
theorem m_leastFreeT {c : Nat} (hc : h (14, 0) = cf f (T w)) (h5 : w 5 ≤ 4) (h1 : c < 64) (h2 : T w c = 0) (h3 : ∀ x, x < c → T w x ≠ 0) : Cl d MX4_leastFree [vR (4, 0)] h (some (vI (nI c))) h := by
  refine rnN 2 rfl ?_
  refine lpN c (fun i => Rn d MX4_leastFree 2 [some (vR (4, 0)), some (vI (nI i))] [] h (some (vI (nI c))) h) (fun i hi K => ?_) ?_
  · have hT := T_le (w := w) h5 i
    refine rnN 2 rfl ?_
    refine rnT (nI_lt (show i < 64 by omega) (by decide)) rfl ?_
    refine rnN 3 rfl ?_
    refine rnC (inN (show i < 64 by omega) (by decide)) rfl ?_
    simp (disch := omega) only [nI_add, pk_mul, pk_sub, nd8, nd4, nsub8, nand63, nand7, nshr2, nI_clamp, E_at, hup_at, hup_hup, hpt_def, pf_at, pf_at2, cf_at, h12_14, h14_12, h12_15, h15_12, h14_15, h15_14, hc]
    refine rnF (nI_ne0 (show 0 < T w i by have := h3 i hi; omega) (by omega)) rfl ?_
    refine rnN 2 rfl ?_
    simp (disch := omega) only [nI_add, pk_mul, pk_sub, nd8, nd4, nsub8, nand63, nand7, nshr2, nI_clamp, E_at, hup_at, hup_hup, hpt_def, pf_at, pf_at2, cf_at, h12_14, h14_12, h12_15, h15_12, h14_15, h15_14]
    exact K
  · refine rnN 2 rfl ?_
    refine rnT (nI_lt h1 (by decide)) rfl ?_
    refine rnN 3 rfl ?_
    refine rnC (inN h1 (by decide)) rfl ?_
    simp (disch := omega) only [nI_add, pk_mul, pk_sub, nd8, nd4, nsub8, nand63, nand7, nshr2, nI_clamp, E_at, hup_at, hup_hup, hpt_def, pf_at, pf_at2, cf_at, h12_14, h14_12, h12_15, h15_12, h14_15, h15_14, hc]
    rw [h2]
    refine rnN 2 rfl ?_
    exact rnR rfl
theorem m_leastFreeF (hc : h (14, 0) = cf f (T w)) (h5 : w 5 ≤ 4) (h3 : ∀ x, x < 64 → T w x ≠ 0) : Cl d MX4_leastFree [vR (4, 0)] h (some (vI (-1))) h := by
  refine rnN 2 rfl ?_
  refine lpN 64 (fun i => Rn d MX4_leastFree 2 [some (vR (4, 0)), some (vI (nI i))] [] h (some (vI (-1))) h) (fun i hi K => ?_) ?_
  · have hT := T_le (w := w) h5 i
    refine rnN 2 rfl ?_
    refine rnT (nI_lt hi (by decide)) rfl ?_
    refine rnN 3 rfl ?_
    refine rnC (inN hi (by decide)) rfl ?_
    simp (disch := omega) only [nI_add, pk_mul, pk_sub, nd8, nd4, nsub8, nand63, nand7, nshr2, nI_clamp, E_at, hup_at, hup_hup, hpt_def, pf_at, pf_at2, cf_at, h12_14, h14_12, h12_15, h15_12, h14_15, h15_14, hc]
    refine rnF (nI_ne0 (show 0 < T w i by have := h3 i hi; omega) (by omega)) rfl ?_
    refine rnN 2 rfl ?_
    simp (disch := omega) only [nI_add, pk_mul, pk_sub, nd8, nd4, nsub8, nand63, nand7, nshr2, nI_clamp, E_at, hup_at, hup_hup, hpt_def, pf_at, pf_at2, cf_at, h12_14, h14_12, h12_15, h15_12, h14_15, h15_14]
    exact K
  · refine rnN 4 rfl ?_
    exact rnR rfl
end RC
end
section
/-! ===== the reference: settle ===== -/
/-- the reference's file and counts -/
def mh (h : xH) (f : Nat → Int32) (N : Nat → Nat) : xH := hup (hup h (14, 0) f) (12, 0) (E N)
/-- counts told and free clusters wiped, below n -/
def cB (w u : Nat → Nat) (n : Nat) : Nat → Nat := fun p => if p / 8 < n ∧ T w (p / 8) = 0 then 0 else if p / 8 ≠ 0 ∧ 16 ≤ u (p / 8) ∧ u (p / 8) < 24 ∧ w (8 * w 4 + (u (p / 8) - 16)) = p / 8 ∧ 8 * (u (p / 8) - 16) + p % 8 < n then T w (8 * (u (p / 8) - 16) + p % 8) else w p
/-- the words of P marked anew -/
def fP (P : Nat → Bool) (w y : Nat → Nat) : Nat → Nat := fun p => if P p = true then mk w (y p) else y p
def Pa (P : Nat → Bool) (q : Nat) : Nat → Bool := fun p => P p || Nat.beq p q
def POK (u : Nat → Nat) (P : Nat → Bool) : Prop := ∀ p, P p = true → 1 ≤ p / 8 ∧ p / 8 < 64 ∧ TL u (p / 8)
def Cv (w : Nat → Nat) (P : Nat → Bool) (n i : Nat) : Prop := P (8 * tbn w n + i) = true ∧ (w (8 * tbn w n + i) / 4 ≠ 0 → ∀ j, j < 8 → P (8 * (w (8 * tbn w n + i) / 4) + j) = true)
section SE
variable {d g : Nat} {h : xH} {M N w v u a y : Nat → Nat} {f : Nat → Int32} {P : Nat → Bool}
theorem mh_12 : mh h f N (12, 0) = E N := hup_at
theorem mh_14 : mh h f N (14, 0) = f := by
  unfold mh
  rw [h14_12]
  exact hup_at
theorem mh_mh {f' : Nat → Int32} {N' : Nat → Nat} : mh (mh h f N) f' N' = mh h f' N' := by
  funext q
  unfold mh hup
  by_cases h1 : q = (12, 0)
  · simp only [if_pos h1]
  · by_cases h2 : q = (14, 0)
    · simp only [if_neg h1, if_pos h2]
    · simp only [if_neg h1, if_neg h2]
theorem mh_o {q : xP} (h1 : q ≠ (12, 0)) (h2 : q ≠ (14, 0)) : mh h f N q = h q := by
  unfold mh
  rw [hup_ne h1, hup_ne h2]
theorem mh_12u {N' : Nat → Nat} : hup (mh h f N) (12, 0) (E N') = mh h f N' := hup_hup
theorem mh_14u {f' : Nat → Int32} : hup (mh h f N) (14, 0) f' = mh h f' N := by
  funext q
  unfold mh hup
  by_cases h1 : q = (12, 0)
  · subst h1
    rfl
  · by_cases h2 : q = (14, 0)
    · simp only [if_neg h1, if_pos h2]
    · simp only [if_neg h1, if_neg h2]
theorem mh_eq (e : h (12, 0) = E N) : hup h (14, 0) f = mh h f N := by
  funext q
  unfold mh hup
  by_cases h1 : q = (12, 0)
  · subst h1
    exact e
  · simp only [if_neg h1]
theorem mhpt {i x : Nat} : hpt (mh h f N) (12, 0) i (nI x) = mh h f (up N i x) := by
  rw [hpt_E mh_12, mh_12u]
theorem Pa_at {q : Nat} : Pa P q q = true := by
  unfold Pa
  simp [Nat.beq_refl]
theorem Pa_ne {q p : Nat} (e : p ≠ q) : Pa P q p = P p := by
  unfold Pa
  have e2 : Nat.beq p q = false := by
    cases hb : Nat.beq p q with
    | false => rfl
    | true => exact absurd (Nat.eq_of_beq_eq_true hb) e
  rw [e2, Bool.or_false]
theorem fP_step {q : Nat} : up (fP P w y) q (mk w (fP P w y q)) = fP (Pa P q) w y := by
  funext p
  simp only [up, fP]
  by_cases e : p = q
  · subst e
    rw [if_pos rfl, if_pos Pa_at]
    split
    · exact mk_mk _ _
    · rfl
  · rw [if_neg e, Pa_ne e]
theorem Pa_mono {q p : Nat} (h1 : P p = true) : Pa P q p = true := by
  unfold Pa
  rw [h1, Bool.true_or]
theorem POK.add {q : Nat} (hP : POK u P) (h1 : 1 ≤ q / 8 ∧ q / 8 < 64 ∧ TL u (q / 8)) : POK u (Pa P q) := fun p hp => by
  unfold Pa at hp
  rcases Bool.or_eq_true _ _ ▸ hp with h | h
  · exact hP p h
  · rw [Nat.eq_of_beq_eq_true h]; exact h1
theorem fP_agr (hs : Str w u) (hP : POK u P) : Agr (fP P w (clo w u)) w u := fun p hT hu => by
  unfold fP
  rw [clo_out hs hT hu]
  by_cases e : P p = true
  · have h1 := hP p e
    rw [if_pos e]
    by_cases h0 : w p / 4 = 0
    · exact Or.inl (mk_flat h0)
    · exact Or.inr ⟨h1.1, h1.2.2, h0, mk_div _ _, mk_mod h0⟩
  · rw [if_neg e]
    exact Or.inl rfl
theorem Agr.etbn {v w u : Nat → Nat} (ha : Agr v w u) (hs : Str w u) {n : Nat} (hn : n ≤ w 5) : tbn v n = tbn w n := by
  cases n with
  | zero => exact ha.hdr (by decide)
  | succ n => exact ha.etab hs (by omega)
theorem mk_lt {x : Nat} (h : x < 256) : mk w x < 256 := by
  unfold mk
  split
  · exact h
  · split <;> omega
theorem mk_z {x : Nat} : mk w x = 0 ↔ x = 0 := by
  unfold mk
  split
  · exact Iff.rfl
  · next h0 => constructor <;> intro e <;> omega
theorem cB_0 : cB w u 0 = w := by
  funext p
  unfold cB
  rw [if_neg (by omega), if_neg (by omega)]
theorem cB_64 (hs : Str w u) : cB w u 64 = clo w u := by
  funext p
  unfold cB clo cW
  by_cases e : p / 8 < 64 ∧ T w (p / 8) = 0
  · rw [if_pos e, if_pos (decide_eq_true e)]
  · rw [if_neg e, if_neg (fun z => e (of_decide_eq_true z))]
    by_cases e2 : p / 8 ≠ 0 ∧ 16 ≤ u (p / 8) ∧ u (p / 8) < 24 ∧ w (8 * w 4 + (u (p / 8) - 16)) = p / 8
    · rw [if_pos e2, if_pos (by omega)]
    · rw [if_neg e2, if_neg (fun z => e2 ⟨z.1, z.2.1, z.2.2.1, z.2.2.2.1⟩)]
theorem cB_out (hs : Str w u) {n p : Nat} (hT : T w (p / 8) ≠ 0) (hu : p / 8 = 0 ∨ u (p / 8) < 16 ∨ 24 ≤ u (p / 8)) : cB w u n p = w p := by
  unfold cB
  rw [if_neg (fun e => hT e.2), if_neg (by omega)]
/-- the count of cluster n is told -/
def cB1 (w u : Nat → Nat) (n : Nat) : Nat → Nat := if w (8 * w 4 + n / 8) = 0 then cB w u n else up (cB w u n) (cpl w n) (T w n)
theorem cB_step (hs : Str w u) {n p : Nat} (hn : n < 64) : cB w u (n + 1) p = if p / 8 = n ∧ T w n = 0 then 0 else cB1 w u n p := by
  unfold cB1
  by_cases hz : p / 8 = n ∧ T w n = 0
  · rw [if_pos hz]
    unfold cB
    rw [if_pos (by rw [hz.1]; exact ⟨by omega, hz.2⟩)]
  · rw [if_neg hz]
    by_cases hk : w (8 * w 4 + n / 8) = 0
    · rw [if_pos hk]
      unfold cB
      by_cases e : p / 8 < n ∧ T w (p / 8) = 0
      · rw [if_pos e, if_pos ⟨by omega, e.2⟩]
      · rw [if_neg e, if_neg (fun z => by
          by_cases e3 : p / 8 = n
          · exact hz ⟨e3, by rw [← e3]; exact z.2⟩
          · exact e ⟨by omega, z.2⟩)]
        by_cases e2 : p / 8 ≠ 0 ∧ 16 ≤ u (p / 8) ∧ u (p / 8) < 24 ∧ w (8 * w 4 + (u (p / 8) - 16)) = p / 8 ∧ 8 * (u (p / 8) - 16) + p % 8 < n
        · rw [if_pos e2, if_pos ⟨e2.1, e2.2.1, e2.2.2.1, e2.2.2.2.1, by omega⟩]
        · rw [if_neg e2, if_neg (fun z => by
            by_cases e3 : 8 * (u (p / 8) - 16) + p % 8 = n
            · have e4 : n / 8 = u (p / 8) - 16 := by omega
              rw [e4] at hk
              exact z.1 (z.2.2.2.1.symm.trans hk)
            · exact e2 ⟨z.1, z.2.1, z.2.2.1, z.2.2.2.1, by omega⟩)]
    · rw [if_neg hk]
      have hin := cpl_in hs hn hk
      have hkp := hs.keep (show n / 8 < 8 by omega) hk
      have h8 : cpl w n / 8 = w (8 * w 4 + n / 8) := by unfold cpl; omega
      have h9 : cpl w n % 8 = n % 8 := by unfold cpl; omega
      by_cases ep : p = cpl w n
      · rw [ep, up_at]
        unfold cB
        rw [if_neg (fun z => hin.2.2.1 z.2), if_pos]
        · congr 1
          rw [h8, h9, hkp.2]
          omega
        · rw [h8, h9, hkp.2]
          refine ⟨hk, by omega, by omega, ?_, by omega⟩
          rw [show 16 + n / 8 - 16 = n / 8 by omega]
      · rw [up_ne ep]
        unfold cB
        by_cases e : p / 8 < n ∧ T w (p / 8) = 0
        · rw [if_pos e, if_pos ⟨by omega, e.2⟩]
        · rw [if_neg e, if_neg (fun z => by
            by_cases e3 : p / 8 = n
            · exact hz ⟨e3, by rw [← e3]; exact z.2⟩
            · exact e ⟨by omega, z.2⟩)]
          by_cases e2 : p / 8 ≠ 0 ∧ 16 ≤ u (p / 8) ∧ u (p / 8) < 24 ∧ w (8 * w 4 + (u (p / 8) - 16)) = p / 8 ∧ 8 * (u (p / 8) - 16) + p % 8 < n
          · rw [if_pos e2, if_pos ⟨e2.1, e2.2.1, e2.2.2.1, e2.2.2.2.1, by omega⟩]
          · rw [if_neg e2, if_neg (fun z => by
              by_cases e3 : 8 * (u (p / 8) - 16) + p % 8 = n
              · apply ep
                unfold cpl
                rw [show n / 8 = u (p / 8) - 16 by omega, z.2.2.2.1]
                omega
              · exact e2 ⟨z.1, z.2.1, z.2.2.1, z.2.2.2.1, by omega⟩)]
/-- settling, from its marks on -/
theorem st_marks (hg : g < 4) (hs : Str w u) {o2 : Option xV} : ∀ o3 o4 o5 o6 : Option xV, Rn (d + 3) MX4_settle 122 [some (vR (4, 0)), some (vI (nI g)), o2, some (vI (jm 0)), o3, o4, o5, o6] [] (mh h (cf f (T w)) (pf M g (clo w u))) none (mh h (cf f (T w)) (pf M g (stl w u))) := by
  have hns := hs.ns
  have hy : ∀ t i, TB w t → i < 8 → clo w u (8 * t + i) = w (8 * t + i) := fun t i ht hi => clo_out hs (by rw [ix_div hi]; have := T_tab ht; omega) (by rw [ix_div hi]; have := (hs.tb ht).2.2; omega)
  have hyl : ∀ t i j, TB w t → i < 8 → j < 8 → w (8 * t + i) / 4 ≠ 0 → clo w u (8 * (w (8 * t + i) / 4) + j) = w (8 * (w (8 * t + i) / 4) + j) := fun t i j ht hi hj h0 => clo_out hs (by rw [ix_div hj]; have := T_leaf ht hi h0; omega) (by rw [ix_div hj]; have := ((hs.tw ht hi).lead h0).2.2.1; omega)
  have hfin : ∀ P, POK u P → (∀ n, n < w 5 + 1 → ∀ i, i < 8 → Cv w P n i) → fP P w (clo w u) = stl w u := by
    intro P hP hC
    funext p
    unfold stl fP
    have hTc := fun X => (clo_agr hs).eT hs X
    by_cases e : P p = true
    · rw [if_pos e, flg_in (hP p e), mk_congr hTc]
    · rw [if_neg e]
      by_cases e2 : 1 ≤ p / 8 ∧ p / 8 < 64 ∧ TL u (p / 8)
      · rw [flg_in e2]
        by_cases hT : T w (p / 8) = 0
        · rw [clo_free (by omega) hT]
          rfl
        · exfalso
          rcases TL_role hs e2.1 e2.2.2 hT with h4 | ⟨t, i, ht, h5, h6, h7⟩
          · obtain ⟨n, hn, hne⟩ : ∃ n, n < w 5 + 1 ∧ p / 8 = tbn w n := by
              rcases h4 with h4 | ⟨j, hj, h4⟩
              · exact ⟨0, by omega, h4⟩
              · exact ⟨j + 1, by omega, h4⟩
            have h8 := (hC n hn (p % 8) (by omega)).1
            rw [← hne, show 8 * (p / 8) + p % 8 = p by omega] at h8
            exact e h8
          · obtain ⟨n, hn, hne⟩ : ∃ n, n < w 5 + 1 ∧ t = tbn w n := by
              rcases ht with ht | ⟨j, hj, ht⟩
              · exact ⟨0, by omega, ht⟩
              · exact ⟨j + 1, by omega, ht⟩
            rw [hne] at h6 h7
            have h8 := (hC n hn i h5).2 h6 (p % 8) (by omega)
            rw [← h7, show 8 * (p / 8) + p % 8 = p by omega] at h8
            exact e h8
      · rw [flg_out e2]
  have go := lpN (w 5 + 1) (fun n => ∀ P, POK u P → (∀ m, m < n → ∀ i, i < 8 → Cv w P m i) → ∀ o3 o4 o5 o6 : Option xV, Rn (d + 3) MX4_settle 122 [some (vR (4, 0)), some (vI (nI g)), o2, some (vI (jm n)), o3, o4, o5, o6] [] (mh h (cf f (T w)) (pf M g (fP P w (clo w u)))) none (mh h (cf f (T w)) (pf M g (stl w u)))) (fun n hn K => ?_) ?_
  · intro o3 o4 o5 o6
    have h0 := go (fun _ => false) (fun p hp => by cases hp) (fun m hm => by omega) o3 o4 o5 o6
    have e : fP (fun _ => false) w (clo w u) = clo w u := by
      funext p
      unfold fP
      exact if_neg (fun e => by cases e)
    rw [e] at h0
    exact h0
  · intro P hP hC o3 o4 o5 o6
    have ha := fP_agr hs hP
    have htb := tbn_tb (w := w) (n := n) (by omega)
    have ht := hs.tb htb
    have hTLt : ∀ i, i < 8 → 1 ≤ (8 * tbn w n + i) / 8 ∧ (8 * tbn w n + i) / 8 < 64 ∧ TL u ((8 * tbn w n + i) / 8) := fun i hi => by rw [ix_div hi]; exact ⟨ht.1, ht.2.1, by unfold TL; omega⟩
    refine rnN 3 rfl ?_
    refine rnK rfl (m_snapshots mh_12 hg) ?_
    rw [ha.hdr (by decide)]
    refine rnT (jm_lt hn (by omega)) rfl ?_
    refine rnN 3 rfl ?_
    refine rnK rfl (m_table mh_12 hg (by rw [ha.hdr (by decide)]; exact hs.l6) (show n ≤ 4 by omega)) ?_
    rw [ha.etbn hs (by omega)]
    refine rnN 3 rfl ?_
    have lp := lpN 8 (fun i => ∀ P, POK u P → (∀ m, m < n → ∀ i, i < 8 → Cv w P m i) → (∀ l, l < i → Cv w P n l) → ∀ o5 o6 : Option xV, Rn (d + 3) MX4_settle 142 [some (vR (4, 0)), some (vI (nI g)), o2, some (vI (jm n)), some (vI (nI (512 * g + 8 * tbn w n))), some (vI (nI i)), o5, o6] [] (mh h (cf f (T w)) (pf M g (fP P w (clo w u)))) none (mh h (cf f (T w)) (pf M g (stl w u)))) (fun i hi K2 => ?_) ?_
    · exact lp P hP hC (fun l hl => by omega) _ _
    · intro P hP hC hC2 o5 o6
      have ha := fP_agr hs hP
      have hL := hs.tw htb hi
      have hLb := hL.lt
      obtain ⟨x, hx⟩ : ∃ x, x = fP P w (clo w u) (8 * tbn w n + i) := ⟨_, rfl⟩
      have hxw : x = w (8 * tbn w n + i) ∨ x = mk w (w (8 * tbn w n + i)) := by
        rw [hx]
        unfold fP
        rw [hy _ i htb hi]
        split
        · exact Or.inr rfl
        · exact Or.inl rfl
      have hxb : x < 256 := by
        rcases hxw with e | e
        · rw [e]; exact hLb
        · rw [e]; exact mk_lt hLb
      have hx4 : x / 4 = w (8 * tbn w n + i) / 4 := by
        rcases hxw with e | e
        · rw [e]
        · rw [e, mk_div]
      have hxz : x = 0 ↔ w (8 * tbn w n + i) = 0 := by
        rcases hxw with e | e
        · rw [e]
        · rw [e, mk_z]
      refine rnN 2 rfl ?_
      refine rnT (nI_lt hi (by decide)) rfl ?_
      refine rnN 6 rfl ?_
      simp (disch := omega) only [nI_add, pk_mul, pk_sub, nd8, nd4, nsub8, nand63, nand7, nshr2, nI_clamp, E_at, hup_at, hup_hup, hpt_def, pf_at, pf_at2, cf_at, h12_14, h14_12, h12_15, h15_12, h14_15, h15_14]
      refine rnC (inN (show 512 * g + 8 * tbn w n + i < 2048 by omega) (by decide)) rfl ?_
      simp (disch := omega) only [nI_add, pk_mul, pk_sub, nd8, nd4, nsub8, nand63, nand7, nshr2, nI_clamp, E_at, hup_at, hup_hup, hpt_def, pf_at, pf_at2, cf_at, h12_14, h14_12, h12_15, h15_12, h14_15, h15_14, mh_12]
      rw [← hx]
      refine rnN 2 rfl ?_
      simp (disch := omega) only [nI_add, pk_mul, pk_sub, nd8, nd4, nsub8, nand63, nand7, nshr2, nI_clamp, E_at, hup_at, hup_hup, hpt_def, pf_at, pf_at2, cf_at, h12_14, h14_12, h12_15, h15_12, h14_15, h15_14]
      refine rnK rfl (m_at) ?_
      refine rnN 12 rfl ?_
      simp (disch := omega) only [nI_add, pk_mul, pk_sub, nd8, nd4, nsub8, nand63, nand7, nshr2, nI_clamp, E_at, hup_at, hup_hup, hpt_def, pf_at, pf_at2, cf_at, h12_14, h14_12, h12_15, h15_12, h14_15, h15_14]
      refine rnC (inN (show 512 * g + 8 * tbn w n + i < 2048 by omega) (by decide)) rfl ?_
      simp (disch := omega) only [nI_add, pk_mul, pk_sub, nd8, nd4, nsub8, nand63, nand7, nshr2, nI_clamp, E_at, hup_at, hup_hup, hpt_def, pf_at, pf_at2, cf_at, h12_14, h14_12, h12_15, h15_12, h14_15, h15_14, mh_12]
      rw [← hx]
      refine rnK rfl (m_marked (w := w) mh_14 (by omega) hxb) ?_
      refine rnC (inN (show 512 * g + 8 * tbn w n + i < 2048 by omega) (by decide)) rfl ?_
      simp (disch := omega) only [nI_clamp, mhpt]
      rw [show 512 * g + 8 * tbn w n + i = 512 * g + (8 * tbn w n + i) by omega, pf_up (show 8 * tbn w n + i < 512 by omega), hx, fP_step]
      rw [hx] at hx4
      rw [hx4]
      refine rnN 2 rfl ?_
      have hP1 := hP.add (hTLt i hi)
      by_cases hw0 : w (8 * tbn w n + i) = 0
      · -- no leaf
        have hq : fP (Pa P (8 * tbn w n + i)) w (clo w u) (8 * tbn w n + i) = 0 := by
          unfold fP
          rw [if_pos Pa_at, hy _ i htb hi, hw0]
          rfl
        refine rnN 3 rfl ?_
        refine rnN 5 rfl ?_
        simp (disch := omega) only [nI_add, pk_mul, pk_sub, nd8, nd4, nsub8, nand63, nand7, nshr2, nI_clamp, E_at, hup_at, hup_hup, hpt_def, pf_at, pf_at2, cf_at, h12_14, h14_12, h12_15, h15_12, h14_15, h15_14]
        refine rnC (inN (show 512 * g + 8 * tbn w n + i < 2048 by omega) (by decide)) rfl ?_
        simp (disch := omega) only [nI_add, pk_mul, pk_sub, nd8, nd4, nsub8, nand63, nand7, nshr2, nI_clamp, E_at, hup_at, hup_hup, hpt_def, pf_at, pf_at2, cf_at, h12_14, h14_12, h12_15, h15_12, h14_15, h15_14, mh_12]
        rw [hq]
        refine rnN 3 rfl ?_
        simp (disch := omega) only [nI_add, pk_mul, pk_sub, nd8, nd4, nsub8, nand63, nand7, nshr2, nI_clamp, E_at, hup_at, hup_hup, hpt_def, pf_at, pf_at2, cf_at, h12_14, h14_12, h12_15, h15_12, h14_15, h15_14]
        refine K2 _ hP1 (fun m hm l hl => ⟨Pa_mono (hC m hm l hl).1, fun h0 j hj => Pa_mono ((hC m hm l hl).2 h0 j hj)⟩) (fun l hl => ?_) _ _
        by_cases e : l = i
        · subst e
          exact ⟨Pa_at, fun h0 => absurd (by rw [hw0]) h0⟩
        · have := hC2 l (by omega)
          exact ⟨Pa_mono this.1, fun h0 j hj => Pa_mono (this.2 h0 j hj)⟩
      · have h0 : w (8 * tbn w n + i) / 4 ≠ 0 := fun e => hw0 (hL.zero e)
        have hl := hL.lead h0
        have hlp := hl.1.pos
        obtain ⟨l, hld⟩ : ∃ l, l = w (8 * tbn w n + i) / 4 := ⟨_, rfl⟩
        have hTLl : ∀ j, j < 8 → 1 ≤ (8 * l + j) / 8 ∧ (8 * l + j) / 8 < 64 ∧ TL u ((8 * l + j) / 8) := fun j hj => by rw [ix_div hj, hld]; exact ⟨hlp.1, hlp.2, by unfold TL; omega⟩
        rw [← hld]
        have lp2 := lpN 8 (fun k => ∀ P2, POK u P2 → (∀ p, Pa P (8 * tbn w n + i) p = true → P2 p = true) → (∀ j, j < k → P2 (8 * l + j) = true) → Rn (d + 3) MX4_settle 194 [some (vR (4, 0)), some (vI (nI g)), o2, some (vI (jm n)), some (vI (nI (512 * g + 8 * tbn w n))), some (vI (nI i)), some (vI (nI (512 * g + 8 * l))), some (vI (nI k))] [] (mh h (cf f (T w)) (pf M g (fP P2 w (clo w u)))) none (mh h (cf f (T w)) (pf M g (stl w u)))) (fun k hk K3 => ?_) ?_
        · exact lp2 _ hP1 (fun p hp => hp) (fun j hj => by omega)
        · intro P2 hP2 hsub hdn
          have hxn : fP P2 w (clo w u) (8 * tbn w n + i) ≠ 0 := by
            unfold fP
            rw [hy _ i htb hi]
            split
            · exact fun e => hw0 (mk_z.mp e)
            · exact hw0
          have hxl : fP P2 w (clo w u) (8 * tbn w n + i) < 256 := by
            unfold fP
            rw [hy _ i htb hi]
            split
            · exact mk_lt hLb
            · exact hLb
          have hBl := (hl.2.2.2 k hk).lt
          have hzl : fP P2 w (clo w u) (8 * l + k) < 256 := by
            unfold fP
            rw [hld, hyl _ i k htb hi hk h0]
            split
            · exact mk_lt hBl
            · exact hBl
          refine rnN 2 rfl ?_
          refine rnT (nI_lt hk (by decide)) rfl ?_
          refine rnN 5 rfl ?_
          simp (disch := omega) only [nI_add, pk_mul, pk_sub, nd8, nd4, nsub8, nand63, nand7, nshr2, nI_clamp, E_at, hup_at, hup_hup, hpt_def, pf_at, pf_at2, cf_at, h12_14, h14_12, h12_15, h15_12, h14_15, h15_14]
          refine rnC (inN (show 512 * g + 8 * tbn w n + i < 2048 by omega) (by decide)) rfl ?_
          simp (disch := omega) only [nI_add, pk_mul, pk_sub, nd8, nd4, nsub8, nand63, nand7, nshr2, nI_clamp, E_at, hup_at, hup_hup, hpt_def, pf_at, pf_at2, cf_at, h12_14, h14_12, h12_15, h15_12, h14_15, h15_14, mh_12]
          refine rnF (nI_ne0 (Nat.pos_of_ne_zero hxn) (by omega)) rfl ?_
          refine rnN 11 rfl ?_
          simp (disch := omega) only [nI_add, pk_mul, pk_sub, nd8, nd4, nsub8, nand63, nand7, nshr2, nI_clamp, E_at, hup_at, hup_hup, hpt_def, pf_at, pf_at2, cf_at, h12_14, h14_12, h12_15, h15_12, h14_15, h15_14]
          refine rnC (inN (show 512 * g + 8 * l + k < 2048 by omega) (by decide)) rfl ?_
          simp (disch := omega) only [nI_add, pk_mul, pk_sub, nd8, nd4, nsub8, nand63, nand7, nshr2, nI_clamp, E_at, hup_at, hup_hup, hpt_def, pf_at, pf_at2, cf_at, h12_14, h14_12, h12_15, h15_12, h14_15, h15_14, mh_12]
          refine rnK rfl (m_marked (w := w) mh_14 (by omega) hzl) ?_
          refine rnC (inN (show 512 * g + 8 * l + k < 2048 by omega) (by decide)) rfl ?_
          simp (disch := omega) only [nI_clamp, mhpt]
          rw [show 512 * g + 8 * l + k = 512 * g + (8 * l + k) by omega, pf_up (show 8 * l + k < 512 by omega), fP_step]
          refine rnN 2 rfl ?_
          simp (disch := omega) only [nI_add, pk_mul, pk_sub, nd8, nd4, nsub8, nand63, nand7, nshr2, nI_clamp, E_at, hup_at, hup_hup, hpt_def, pf_at, pf_at2, cf_at, h12_14, h14_12, h12_15, h15_12, h14_15, h15_14]
          refine K3 _ (hP2.add (hTLl k hk)) (fun p hp => Pa_mono (hsub p hp)) (fun j hj => ?_)
          by_cases e : j = k
          · rw [e]; exact Pa_at
          · exact Pa_mono (hdn j (by omega))
        · intro P2 hP2 hsub hdn
          refine rnN 3 rfl ?_
          refine rnN 2 rfl ?_
          simp (disch := omega) only [nI_add, pk_mul, pk_sub, nd8, nd4, nsub8, nand63, nand7, nshr2, nI_clamp, E_at, hup_at, hup_hup, hpt_def, pf_at, pf_at2, cf_at, h12_14, h14_12, h12_15, h15_12, h14_15, h15_14]
          refine K2 _ hP2 (fun m hm q hq => ⟨hsub _ (Pa_mono (hC m hm q hq).1), fun h0 j hj => hsub _ (Pa_mono ((hC m hm q hq).2 h0 j hj))⟩) (fun q hq => ?_) _ _
          by_cases e : q = i
          · subst e
            exact ⟨hsub _ Pa_at, fun _ j hj => by rw [← hld]; exact hdn j hj⟩
          · have := hC2 q (by omega)
            exact ⟨hsub _ (Pa_mono this.1), fun h0 j hj => hsub _ (Pa_mono (this.2 h0 j hj))⟩
    · intro P hP hC hC2 o5 o6
      refine rnN 3 rfl ?_
      refine rnN 2 rfl ?_
      rw [jm_succ]
      refine K _ hP (fun m hm i hi => ?_) _ _ _ _
      by_cases e : m = n
      · rw [e]; exact hC2 i hi
      · exact hC m (by omega) i hi
  · intro P hP hC o3 o4 o5 o6
    have ha := fP_agr hs hP
    refine rnN 3 rfl ?_
    refine rnK rfl (m_snapshots mh_12 hg) ?_
    rw [ha.hdr (by decide)]
    refine rnF (jm_nlt (by omega)) rfl ?_
    rw [← hfin P hP hC]
    exact rnR rfl
end SE
section SE2
variable {d g : Nat} {h : xH} {M N w v u a y : Nat → Nat} {f : Nat → Int32} {P : Nat → Bool}
theorem m_settle (hw : h (12, 0) = E (pf M g w)) (hg : g < 4) (hs : Str w u) : Cl (d + 3) MX4_settle [vR (4, 0), vI (nI g)] h none (mh h (cf (h (14, 0)) (T w)) (pf M g (stl w u))) := by
  have hns := hs.ns
  have hct := hs.ct
  obtain ⟨f, hf⟩ : ∃ f, f = h (14, 0) := ⟨_, rfl⟩
  rw [← hf]
  have hrc := m_recount (d := d) (M := M) hw hg hs
  rw [← hf, mh_eq hw] at hrc
  have hckt : ∀ n k, k < 8 → cB w u n (8 * w 4 + k) = w (8 * w 4 + k) := fun n k hk => cB_out hs (by rw [ix_div hk]; have := T_ct (w := w); omega) (by rw [ix_div hk]; omega)
  refine rnN 2 rfl ?_
  refine rnK rfl (hrc) ?_
  refine rnN 8 rfl ?_
  simp (disch := omega) only [nI_add, pk_mul, pk_sub, nd8, nd4, nsub8, nand63, nand7, nshr2, nI_clamp, E_at, hup_at, hup_hup, hpt_def, pf_at, pf_at2, cf_at, h12_14, h14_12, h12_15, h15_12, h14_15, h15_14]
  refine rnC (inN (show 512 * g + 4 < 2048 by omega) (by decide)) rfl ?_
  simp (disch := omega) only [nI_add, pk_mul, pk_sub, nd8, nd4, nsub8, nand63, nand7, nshr2, nI_clamp, E_at, hup_at, hup_hup, hpt_def, pf_at, pf_at2, cf_at, h12_14, h14_12, h12_15, h15_12, h14_15, h15_14, mh_12]
  refine rnK rfl (m_at) ?_
  refine rnN 3 rfl ?_
  rw [show pf M g w = pf M g (cB w u 0) by rw [cB_0]]
  have go := lpN 64 (fun n => ∀ o4 o5 o6 o7 : Option xV, Rn (d + 3) MX4_settle 24 [some (vR (4, 0)), some (vI (nI g)), some (vI (nI (512 * g + 8 * w 4))), some (vI (nI n)), o4, o5, o6, o7] [] (mh h (cf f (T w)) (pf M g (cB w u n))) none (mh h (cf f (T w)) (pf M g (stl w u)))) (fun n hn K => ?_) ?_
  · exact go none none none none
  · intro o4 o5 o6 o7
    have hTn := T_le (w := w) hns.1 n
    have hkl := hs.keepLt (k := n / 8) (by omega)
    -- the wiping
    have hz : ∀ o4, Rn (d + 3) MX4_settle 75 [some (vR (4, 0)), some (vI (nI g)), some (vI (nI (512 * g + 8 * w 4))), some (vI (nI n)), o4, o5, o6, o7] [] (mh h (cf f (T w)) (pf M g (cB1 w u n))) none (mh h (cf f (T w)) (pf M g (stl w u))) := by
      intro o4
      have hK : Rn (d + 3) MX4_settle 24 [some (vR (4, 0)), some (vI (nI g)), some (vI (nI (512 * g + 8 * w 4))), some (vI (nI (n + 1))), some (vI (nI 8)), o5, o6, o7] [] (mh h (cf f (T w)) (pf M g (cB w u (n + 1)))) none (mh h (cf f (T w)) (pf M g (stl w u))) := K _ _ _ _
      by_cases h0 : T w n = 0
      · refine rnN 2 rfl ?_
        have e0 : pf M g (cB1 w u n) = pf M g fun p => if p / 8 = n ∧ p % 8 < 0 then 0 else cB1 w u n p := pf_congr fun p _ => by rw [if_neg (by omega)]
        rw [e0]
        refine lpN 8 (fun k => Rn (d + 3) MX4_settle 78 [some (vR (4, 0)), some (vI (nI g)), some (vI (nI (512 * g + 8 * w 4))), some (vI (nI n)), some (vI (nI k)), o5, o6, o7] [] (mh h (cf f (T w)) (pf M g fun p => if p / 8 = n ∧ p % 8 < k then 0 else cB1 w u n p)) none (mh h (cf f (T w)) (pf M g (stl w u)))) (fun k hk K2 => ?_) ?_
        · refine rnN 2 rfl ?_
          refine rnT (nI_lt hk (by decide)) rfl ?_
          refine rnN 3 rfl ?_
          refine rnC (inN hn (by decide)) rfl ?_
          simp (disch := omega) only [nI_add, pk_mul, pk_sub, nd8, nd4, nsub8, nand63, nand7, nshr2, nI_clamp, E_at, hup_at, hup_hup, hpt_def, pf_at, pf_at2, cf_at, h12_14, h14_12, h12_15, h15_12, h14_15, h15_14, mh_14]
          rw [h0]
          refine rnN 5 rfl ?_
          refine rnK rfl (m_at) ?_
          refine rnN 3 rfl ?_
          simp (disch := omega) only [nI_add, pk_mul, pk_sub, nd8, nd4, nsub8, nand63, nand7, nshr2, nI_clamp, E_at, hup_at, hup_hup, hpt_def, pf_at, pf_at2, cf_at, h12_14, h14_12, h12_15, h15_12, h14_15, h15_14]
          refine rnC (inN (show 512 * g + 8 * n + k < 2048 by omega) (by decide)) rfl ?_
          simp (disch := omega) only [nI_clamp, mhpt]
          rw [show 512 * g + 8 * n + k = 512 * g + (8 * n + k) by omega, pf_up (show 8 * n + k < 512 by omega)]
          refine rnN 2 rfl ?_
          simp (disch := omega) only [nI_add, pk_mul, pk_sub, nd8, nd4, nsub8, nand63, nand7, nshr2, nI_clamp, E_at, hup_at, hup_hup, hpt_def, pf_at, pf_at2, cf_at, h12_14, h14_12, h12_15, h15_12, h14_15, h15_14]
          refine rnH ?_ K2
          congr 2
          funext p
          simp only [up]
          by_cases e : p = 8 * n + k
          · rw [if_pos e, if_pos (by omega)]
          · rw [if_neg e]
            by_cases e2 : p / 8 = n ∧ p % 8 < k
            · rw [if_pos e2, if_pos (by omega)]
            · rw [if_neg e2, if_neg (by omega)]
        · refine rnN 3 rfl ?_
          refine rnN 2 rfl ?_
          simp (disch := omega) only [nI_add, pk_mul, pk_sub, nd8, nd4, nsub8, nand63, nand7, nshr2, nI_clamp, E_at, hup_at, hup_hup, hpt_def, pf_at, pf_at2, cf_at, h12_14, h14_12, h12_15, h15_12, h14_15, h15_14]
          refine rnH ?_ hK
          congr 1
          refine pf_congr fun p hp => ?_
          rw [cB_step hs hn]
          by_cases e : p / 8 = n
          · rw [if_pos (show p / 8 = n ∧ p % 8 < 8 by omega), if_pos ⟨e, h0⟩]
          · rw [if_neg (by omega), if_neg (fun z => e z.1)]
      · have hK0 : Rn (d + 3) MX4_settle 24 [some (vR (4, 0)), some (vI (nI g)), some (vI (nI (512 * g + 8 * w 4))), some (vI (nI (n + 1))), some (vI (nI 0)), o5, o6, o7] [] (mh h (cf f (T w)) (pf M g (cB w u (n + 1)))) none (mh h (cf f (T w)) (pf M g (stl w u))) := K _ _ _ _
        refine rnN 8 rfl ?_
        refine rnC (inN hn (by decide)) rfl ?_
        simp (disch := omega) only [nI_add, pk_mul, pk_sub, nd8, nd4, nsub8, nand63, nand7, nshr2, nI_clamp, E_at, hup_at, hup_hup, hpt_def, pf_at, pf_at2, cf_at, h12_14, h14_12, h12_15, h15_12, h14_15, h15_14, mh_14]
        refine rnF (nI_ne0 (show 0 < T w n by omega) (by omega)) rfl ?_
        refine rnN 2 rfl ?_
        simp (disch := omega) only [nI_add, pk_mul, pk_sub, nd8, nd4, nsub8, nand63, nand7, nshr2, nI_clamp, E_at, hup_at, hup_hup, hpt_def, pf_at, pf_at2, cf_at, h12_14, h14_12, h12_15, h15_12, h14_15, h15_14]
        refine rnH ?_ hK0
        congr 1
        refine pf_congr fun p hp => ?_
        rw [cB_step hs hn, if_neg (fun z => h0 z.2)]
    refine rnN 2 rfl ?_
    refine rnT (nI_lt hn (by decide)) rfl ?_
    refine rnN 7 rfl ?_
    simp (disch := omega) only [nI_add, pk_mul, pk_sub, nd8, nd4, nsub8, nand63, nand7, nshr2, nI_clamp, E_at, hup_at, hup_hup, hpt_def, pf_at, pf_at2, cf_at, h12_14, h14_12, h12_15, h15_12, h14_15, h15_14]
    refine rnC (inN (show 512 * g + 8 * w 4 + n / 8 < 2048 by omega) (by decide)) rfl ?_
    simp (disch := omega) only [nI_add, pk_mul, pk_sub, nd8, nd4, nsub8, nand63, nand7, nshr2, nI_clamp, E_at, hup_at, hup_hup, hpt_def, pf_at, pf_at2, cf_at, h12_14, h14_12, h12_15, h15_12, h14_15, h15_14, mh_12]
    rw [hckt n _ (by omega)]
    by_cases hk : w (8 * w 4 + n / 8) = 0
    · rw [hk]
      refine rnN 1 rfl ?_
      have e1 : cB w u n = cB1 w u n := by unfold cB1; rw [if_pos hk]
      rw [e1]
      exact hz _
    · refine rnF (nI_ne0 (show 0 < w (8 * w 4 + n / 8) by omega) (by omega)) rfl ?_
      refine rnN 10 rfl ?_
      simp (disch := omega) only [nI_add, pk_mul, pk_sub, nd8, nd4, nsub8, nand63, nand7, nshr2, nI_clamp, E_at, hup_at, hup_hup, hpt_def, pf_at, pf_at2, cf_at, h12_14, h14_12, h12_15, h15_12, h14_15, h15_14]
      refine rnC (inN (show 512 * g + 8 * w 4 + n / 8 < 2048 by omega) (by decide)) rfl ?_
      simp (disch := omega) only [nI_add, pk_mul, pk_sub, nd8, nd4, nsub8, nand63, nand7, nshr2, nI_clamp, E_at, hup_at, hup_hup, hpt_def, pf_at, pf_at2, cf_at, h12_14, h14_12, h12_15, h15_12, h14_15, h15_14, mh_12]
      rw [hckt n _ (by omega)]
      refine rnK rfl (m_at) ?_
      refine rnN 7 rfl ?_
      simp (disch := omega) only [nI_add, pk_mul, pk_sub, nd8, nd4, nsub8, nand63, nand7, nshr2, nI_clamp, E_at, hup_at, hup_hup, hpt_def, pf_at, pf_at2, cf_at, h12_14, h14_12, h12_15, h15_12, h14_15, h15_14]
      refine rnC (inN hn (by decide)) rfl ?_
      simp (disch := omega) only [nI_add, pk_mul, pk_sub, nd8, nd4, nsub8, nand63, nand7, nshr2, nI_clamp, E_at, hup_at, hup_hup, hpt_def, pf_at, pf_at2, cf_at, h12_14, h14_12, h12_15, h15_12, h14_15, h15_14, mh_14]
      refine rnC (inN (show 512 * g + 8 * w (8 * w 4 + n / 8) + n % 8 < 2048 by omega) (by decide)) rfl ?_
      simp (disch := omega) only [nI_clamp, mhpt]
      rw [show 512 * g + 8 * w (8 * w 4 + n / 8) + n % 8 = 512 * g + cpl w n by unfold cpl; omega, pf_up (show cpl w n < 512 by unfold cpl; omega)]
      have e1 : up (cB w u n) (cpl w n) (T w n) = cB1 w u n := by unfold cB1; rw [if_neg hk]
      rw [e1]
      exact hz _
  · intro o4 o5 o6 o7
    refine rnN 3 rfl ?_
    refine rnN 2 rfl ?_
    rw [cB_64 hs]
    exact st_marks hg hs _ _ _ _
end SE2
end
section
/-! ===== the reference: take, room ===== -/
section MT
variable {d g : Nat} {h : xH} {M N w V u u' : Nat → Nat} {f : Nat → Int32}
theorem sm_lt {n i : Nat} {f g : Nat → Nat} (h : ∀ i, i < n → f i ≤ g i) (hi : i < n) (h2 : f i < g i) : sm n f < sm n g := by
  induction n with
  | zero => omega
  | succ n ih =>
    rw [sm_succ, sm_succ]
    have h3 := h n (by omega)
    by_cases e : i = n
    · subst e
      have h4 := sm_le (n := i) (f := f) (g := g) (fun j hj => h j (by omega))
      omega
    · have h4 := ih (fun j hj => h j (by omega)) (by omega)
      omega
theorem rm_all (hi : Inv V u) (hr : rm V = 0) : ∀ x, x < 64 → T V x ≠ 0 := by
  intro x hx h0
  have h1 := noKeep_le V
  have h2 : noKeep V + inUse V < 64 := by
    unfold noKeep inUse
    rw [show (64 : Nat) = 8 * 8 from rfl, sm_grp, ← sm_add]
    have hg1 : ∀ k, (sm 8 fun j => if 0 < cnt V (8 * k + j) then 1 else 0) ≤ 8 := fun k => by
      have e := sm_le (n := 8) (f := fun j => if 0 < cnt V (8 * k + j) then 1 else 0) (g := fun _ => 1) (fun j _ => by
        show (if 0 < cnt V (8 * k + j) then 1 else 0) ≤ 1
        split <;> omega)
      rw [sm_const] at e
      omega
    have hg2 : ∀ k, V (8 * V 4 + k) = 0 → (sm 8 fun j => if 0 < cnt V (8 * k + j) then 1 else 0) = 0 := fun k hk => sm_zero fun j hj => by
      have e : cnt V (8 * k + j) = 0 := by
        unfold cnt
        rw [ix_div hj, if_pos hk]
      rw [e]
      rfl
    have h3 := sm_lt (n := 8) (i := x / 8) (f := fun i => (if V (8 * V 4 + i) = 0 then 1 else 0) + sm 8 fun j => if 0 < cnt V (8 * i + j) then 1 else 0) (g := fun _ => 8) (fun k hk => by
      show (if V (8 * V 4 + k) = 0 then 1 else 0) + (sm 8 fun j => if 0 < cnt V (8 * k + j) then 1 else 0) ≤ 8
      have := hg1 k
      split
      · next e => rw [hg2 k e]; omega
      · omega) (by omega) (by
      show (if V (8 * V 4 + x / 8) = 0 then 1 else 0) + (sm 8 fun j => if 0 < cnt V (8 * (x / 8) + j) then 1 else 0) < 8
      split
      · next e => rw [hg2 _ e]; omega
      · have h4 := sm_lt (n := 8) (i := x % 8) (f := fun j => if 0 < cnt V (8 * (x / 8) + j) then 1 else 0) (g := fun _ => 1) (fun j _ => by
          show (if 0 < cnt V (8 * (x / 8) + j) then 1 else 0) ≤ 1
          split <;> omega) (by omega) (by
          show (if 0 < cnt V (8 * (x / 8) + x % 8) then 1 else 0) < 1
          rw [show 8 * (x / 8) + x % 8 = x by omega, hi.2.1 x hx, h0]
          decide)
        rw [sm_const] at h4
        omega)
    rw [sm_const] at h3
    exact h3
  unfold rm at hr
  omega
theorem rm_grp (hi : Inv w u) : (sm 8 fun k => if w (8 * w 4 + k) = 0 then 7 else sm 8 fun j => if T w (8 * k + j) = 0 then 1 else 0) = rm w := by
  have h1 : (sm 8 fun k => if w (8 * w 4 + k) = 0 then 7 else sm 8 fun j => if T w (8 * k + j) = 0 then 1 else 0) + (inUse w + noKeep w) = 64 := by
    unfold noKeep inUse
    rw [show sm 64 (fun c => if 0 < cnt w c then 1 else 0) = sm (8 * 8) fun c => if 0 < cnt w c then 1 else 0 from rfl, sm_grp, ← sm_add, ← sm_add]
    have h2 := sm_congr (n := 8) (f := fun i => (if w (8 * w 4 + i) = 0 then 7 else sm 8 fun j => if T w (8 * i + j) = 0 then 1 else 0) + ((sm 8 fun j => if 0 < cnt w (8 * i + j) then 1 else 0) + if w (8 * w 4 + i) = 0 then 1 else 0)) (g := fun _ => 8) (fun k hk => by
      show (if w (8 * w 4 + k) = 0 then 7 else sm 8 fun j => if T w (8 * k + j) = 0 then 1 else 0) + ((sm 8 fun j => if 0 < cnt w (8 * k + j) then 1 else 0) + if w (8 * w 4 + k) = 0 then 1 else 0) = 8
      by_cases e : w (8 * w 4 + k) = 0
      · rw [if_pos e, if_pos e]
        have h3 : (sm 8 fun j => if 0 < cnt w (8 * k + j) then 1 else 0) = 0 := sm_zero fun j hj => by
          have e2 : cnt w (8 * k + j) = 0 := by
            unfold cnt
            rw [ix_div hj, if_pos e]
          rw [e2]
          rfl
        rw [h3]
      · rw [if_neg e, if_neg e, Nat.add_zero, ← sm_add]
        have h3 := sm_congr (n := 8) (f := fun j => (if T w (8 * k + j) = 0 then 1 else 0) + if 0 < cnt w (8 * k + j) then 1 else 0) (g := fun _ => 1) (fun j hj => by
          show (if T w (8 * k + j) = 0 then 1 else 0) + (if 0 < cnt w (8 * k + j) then 1 else 0) = 1
          rw [hi.2.1 (8 * k + j) (by omega)]
          by_cases e2 : T w (8 * k + j) = 0
          · rw [if_pos e2, if_neg (by omega)]
          · rw [if_neg e2, if_pos (by omega)])
        rw [h3, sm_const])
    rw [h2, sm_const]
  unfold rm
  omega
theorem m_room (hw : h (12, 0) = E (pf M g w)) (hg : g < 4) (hi : Inv w u) : Cl (d + 3) MX4_room [vR (4, 0), vI (nI g)] h (some (vI (nI (rm w)))) (mh h (cf (h (14, 0)) (T w)) (pf M g w)) := by
  have hs := hi.1
  have hct := hs.ct
  have hns := hs.ns
  have hrc := m_recount (d := d) (M := M) hw hg hs
  rw [mh_eq hw] at hrc
  obtain ⟨f, hf⟩ : ∃ f, f = h (14, 0) := ⟨_, rfl⟩
  rw [← hf] at hrc ⊢
  refine rnN 2 rfl ?_
  refine rnK rfl (hrc) ?_
  refine rnN 4 rfl ?_
  have go := lpN 8 (fun k => ∀ o4 o5 : Option xV, Rn (d + 3) MX4_room 9 [some (vR (4, 0)), some (vI (nI g)), some (vI (nI (sm k fun k => if w (8 * w 4 + k) = 0 then 7 else sm 8 fun j => if T w (8 * k + j) = 0 then 1 else 0))), some (vI (nI k)), o4, o5] [] (mh h (cf f (T w)) (pf M g w)) (some (vI (nI (rm w)))) (mh h (cf f (T w)) (pf M g w))) (fun k hk K => ?_) ?_
  · exact go none none
  · intro o4 o5
    have hkl := hs.keepLt hk
    refine rnN 2 rfl ?_
    refine rnT (nI_lt hk (by decide)) rfl ?_
    refine rnN 4 rfl ?_
    have lp := lpN 8 (fun j => Rn (d + 3) MX4_room 21 [some (vR (4, 0)), some (vI (nI g)), some (vI (nI (sm k fun k => if w (8 * w 4 + k) = 0 then 7 else sm 8 fun j => if T w (8 * k + j) = 0 then 1 else 0))), some (vI (nI k)), some (vI (nI (sm j fun j => if T w (8 * k + j) = 0 then 1 else 0))), some (vI (nI j))] [] (mh h (cf f (T w)) (pf M g w)) (some (vI (nI (rm w)))) (mh h (cf f (T w)) (pf M g w))) (fun j hj K2 => ?_) ?_
    · exact lp
    · have hT := T_le (w := w) hns.1 (8 * k + j)
      refine rnN 2 rfl ?_
      refine rnT (nI_lt hj (by decide)) rfl ?_
      refine rnN 7 rfl ?_
      simp (disch := omega) only [nI_add, pk_mul, pk_sub, nd8, nd4, nsub8, nand63, nand7, nshr2, nI_clamp, E_at, hup_at, hup_hup, hpt_def, pf_at, pf_at2, cf_at, h12_14, h14_12, h12_15, h15_12, h14_15, h15_14]
      refine rnC (inN (show 8 * k + j < 64 by omega) (by decide)) rfl ?_
      simp (disch := omega) only [nI_add, pk_mul, pk_sub, nd8, nd4, nsub8, nand63, nand7, nshr2, nI_clamp, E_at, hup_at, hup_hup, hpt_def, pf_at, pf_at2, cf_at, h12_14, h14_12, h12_15, h15_12, h14_15, h15_14, mh_14]
      rw [sm_succ] at K2
      by_cases h0 : T w (8 * k + j) = 0
      · rw [h0]
        refine rnN 5 rfl ?_
        refine rnN 3 rfl ?_
        simp (disch := omega) only [nI_add, pk_mul, pk_sub, nd8, nd4, nsub8, nand63, nand7, nshr2, nI_clamp, E_at, hup_at, hup_hup, hpt_def, pf_at, pf_at2, cf_at, h12_14, h14_12, h12_15, h15_12, h14_15, h15_14]
        rw [if_pos h0] at K2
        exact K2
      · refine rnF (nI_ne0 (show 0 < T w (8 * k + j) by omega) (by omega)) rfl ?_
        refine rnN 1 rfl ?_
        refine rnN 3 rfl ?_
        simp (disch := omega) only [nI_add, pk_mul, pk_sub, nd8, nd4, nsub8, nand63, nand7, nshr2, nI_clamp, E_at, hup_at, hup_hup, hpt_def, pf_at, pf_at2, cf_at, h12_14, h14_12, h12_15, h15_12, h14_15, h15_14]
        rw [if_neg h0] at K2
        exact K2
    · refine rnN 3 rfl ?_
      refine rnN 11 rfl ?_
      simp (disch := omega) only [nI_add, pk_mul, pk_sub, nd8, nd4, nsub8, nand63, nand7, nshr2, nI_clamp, E_at, hup_at, hup_hup, hpt_def, pf_at, pf_at2, cf_at, h12_14, h14_12, h12_15, h15_12, h14_15, h15_14]
      refine rnC (inN (show 512 * g + 4 < 2048 by omega) (by decide)) rfl ?_
      simp (disch := omega) only [nI_add, pk_mul, pk_sub, nd8, nd4, nsub8, nand63, nand7, nshr2, nI_clamp, E_at, hup_at, hup_hup, hpt_def, pf_at, pf_at2, cf_at, h12_14, h14_12, h12_15, h15_12, h14_15, h15_14, mh_12]
      refine rnK rfl (m_at) ?_
      refine rnN 2 rfl ?_
      simp (disch := omega) only [nI_add, pk_mul, pk_sub, nd8, nd4, nsub8, nand63, nand7, nshr2, nI_clamp, E_at, hup_at, hup_hup, hpt_def, pf_at, pf_at2, cf_at, h12_14, h14_12, h12_15, h15_12, h14_15, h15_14]
      refine rnC (inN (show 512 * g + 8 * w 4 + k < 2048 by omega) (by decide)) rfl ?_
      simp (disch := omega) only [nI_add, pk_mul, pk_sub, nd8, nd4, nsub8, nand63, nand7, nshr2, nI_clamp, E_at, hup_at, hup_hup, hpt_def, pf_at, pf_at2, cf_at, h12_14, h14_12, h12_15, h15_12, h14_15, h15_14, mh_12]
      rw [sm_succ (n := k)] at K
      by_cases h0 : w (8 * w 4 + k) = 0
      · rw [h0]
        refine rnN 3 rfl ?_
        refine rnN 4 rfl ?_
        simp (disch := omega) only [nI_add, pk_mul, pk_sub, nd8, nd4, nsub8, nand63, nand7, nshr2, nI_clamp, E_at, hup_at, hup_hup, hpt_def, pf_at, pf_at2, cf_at, h12_14, h14_12, h12_15, h15_12, h14_15, h15_14]
        rw [if_pos h0] at K
        exact K _ _
      · refine rnF (nI_ne0 (show 0 < w (8 * w 4 + k) by omega) (by omega)) rfl ?_
        refine rnN 1 rfl ?_
        refine rnN 4 rfl ?_
        simp (disch := omega) only [nI_add, pk_mul, pk_sub, nd8, nd4, nsub8, nand63, nand7, nshr2, nI_clamp, E_at, hup_at, hup_hup, hpt_def, pf_at, pf_at2, cf_at, h12_14, h14_12, h12_15, h15_12, h14_15, h15_14]
        rw [if_neg h0] at K
        exact K _ _
  · intro o4 o5
    rw [rm_grp hi]
    refine rnN 4 rfl ?_
    exact rnR rfl
/-! a file and its settled words -/
theorem fl_rm (hi : Inv V u) : rm (flg V u) = rm V := by
  obtain ⟨h1, h2, h3⟩ := flg_inv hi
  have ha := flg_agr V u
  unfold rm
  rw [inUse_T h1, inUse_T hi]
  have e1 : noKeep (flg V u) = noKeep V := by
    unfold noKeep
    rw [ha.hdr (by decide)]
    exact sm_congr fun k hk => by rw [ha.ctw hi.1 hk]
  rw [e1, sm_congr (n := 64) (f := fun c => if 0 < T (flg V u) c then 1 else 0) (g := fun c => if 0 < T V c then 1 else 0) (fun c _ => by simp only [h2])]
theorem addK_agr (hi : Inv V u) {c : Nat} (h1 : 1 ≤ c) (h2 : c < 64) (hz : T V c = 0) (hk : V (8 * V 4 + c / 8) = 0) : Agr (up (flg V u) (8 * V 4 + c / 8) c) (addK V c) (up u c (16 + c / 8)) := by
  obtain ⟨ha, hT, hO⟩ := addK_inv hi h1 h2 hz hk
  have hct := hi.1.ct
  have hne4 : V 4 ≠ c := ne_fresh hz T_ct
  intro p hTp hu
  by_cases e : p = 8 * V 4 + c / 8
  · left
    rw [e, up_at]
    unfold addK
    rw [up_ne (by omega), up_at]
  · by_cases e2 : p / 8 = c
    · rw [e2, up_at] at hu
      omega
    · rw [hT, iv_ne (fun e3 => e2 e3.symm), Nat.add_zero] at hTp
      rw [up_ne e2] at hu
      rw [up_ne e, hO p e e2]
      rcases flg_agr V u p hTp hu with q | ⟨q1, q2, q3⟩
      · exact Or.inl q
      · refine Or.inr ⟨q1, ?_, q3⟩
        unfold TL
        rw [up_ne e2]
        exact q2
theorem m_takeT (hw : h (12, 0) = E (pf M g (flg V u))) (hg : g < 4) (hi : Inv V u) (hr : 1 ≤ rm V) (hi1 : Inv (tkW V) u') : ∃ f', Cl (d + 4) MX4_take [vR (4, 0), vI (nI g)] h (some (vI (nI (tkC V)))) (mh h f' (pf M g (flg (tkW V) u'))) := by
  obtain ⟨hfi, hfT, -⟩ := flg_inv hi
  have hs := hfi.1
  have hct := hi.1.ct
  have hns := hs.ns
  have hag := flg_agr V u
  have hfree := lf_free hi (rm_pos hr)
  obtain ⟨q1, q2, q3, q4⟩ := lf_LF V
  have hrc := m_recount (d := d + 1) (M := M) hw hg hs
  rw [mh_eq hw] at hrc
  have hlf : ∀ x, x < lf V → T V x ≠ 0 := fun x hx => by
    by_cases e : x = 0
    · rw [e]; have := T_zero V; omega
    · have := q3 x (by omega) hx
      rw [hi.2.1 x (by omega)] at this
      omega
  have hl1 := m_leastFreeT (d := d + 3) (h := mh h (cf (h (14, 0)) (T (flg V u))) (pf M g (flg V u))) (w := flg V u) (c := lf V) mh_14 hns.1 (by omega) (by rw [hfT]; exact hfree) (fun x hx => by rw [hfT]; exact hlf x hx)
  have e4 : flg V u 4 = V 4 := hag.hdr (by decide)
  have ek : flg V u (8 * V 4 + lf V / 8) = V (8 * V 4 + lf V / 8) := hag.ctw hi.1 (by omega)
  have hkl := hi.1.keepLt (k := lf V / 8) (by omega)
  by_cases hk : V (8 * V 4 + lf V / 8) = 0
  · have e : tkW V = addK V (lf V) := if_pos hk
    obtain ⟨ha, hT, hO⟩ := addK_inv hi q1 (by omega) hfree hk
    have hC : tkC V = lf (addK V (lf V)) := by unfold tkC; rw [e]
    have hag2 := addK_agr hi q1 (by omega) hfree hk
    have hsR := hag2.eS ha.1
    have hTR := fun X => hag2.eT ha.1 X
    have hst := m_settle (d := d) (h := mh h (cf (h (14, 0)) (T (flg V u))) (pf M g (up (flg V u) (8 * V 4 + lf V / 8) (lf V)))) (M := M) mh_12 hg hsR
    rw [mh_mh, mh_14] at hst
    have hfin : pf M g (stl (up (flg V u) (8 * V 4 + lf V / 8) (lf V)) (up u (lf V) (16 + lf V / 8))) = pf M g (flg (tkW V) u') := by
      rw [e] at hi1
      rw [e, ← flg_u ha hi1]
      exact pf_congr (stl_agr ha hag2)
    rw [hfin] at hst
    have hrk := addK_rm hi q1 (by omega) hfree hk
    have hz2 := lf_free ha (rm_pos (by rw [hrk]; exact hr))
    obtain ⟨g1, g2, g3, g4⟩ := lf_LF (addK V (lf V))
    have hl2 := m_leastFreeT (d := d + 3) (h := mh h (cf (cf (h (14, 0)) (T (flg V u))) (T (up (flg V u) (8 * V 4 + lf V / 8) (lf V)))) (pf M g (flg (tkW V) u'))) (w := up (flg V u) (8 * V 4 + lf V / 8) (lf V)) (c := lf (addK V (lf V))) mh_14 hsR.ns.1 (by omega) (by rw [hTR]; exact hz2) (fun x hx => by
      rw [hTR]
      by_cases e : x = 0
      · rw [e]; have := T_zero (addK V (lf V)); omega
      · have := g3 x (by omega) hx
        rw [ha.2.1 x (by omega)] at this
        omega)
    refine ⟨cf (cf (h (14, 0)) (T (flg V u))) (T (up (flg V u) (8 * V 4 + lf V / 8) (lf V))), ?_⟩
    refine rnN 2 rfl ?_
    refine rnK rfl (hrc) ?_
    refine rnN 1 rfl ?_
    refine rnK rfl (hl1) ?_
    refine rnN 2 rfl ?_
    refine rnF (nI_pos (show lf V < 2147483648 by omega)) rfl ?_
    refine rnN 8 rfl ?_
    simp (disch := omega) only [nI_add, pk_mul, pk_sub, nd8, nd4, nsub8, nand63, nand7, nshr2, nI_clamp, E_at, hup_at, hup_hup, hpt_def, pf_at, pf_at2, cf_at, h12_14, h14_12, h12_15, h15_12, h14_15, h15_14]
    refine rnC (inN (show 512 * g + 4 < 2048 by omega) (by decide)) rfl ?_
    simp (disch := omega) only [nI_add, pk_mul, pk_sub, nd8, nd4, nsub8, nand63, nand7, nshr2, nI_clamp, E_at, hup_at, hup_hup, hpt_def, pf_at, pf_at2, cf_at, h12_14, h14_12, h12_15, h15_12, h14_15, h15_14, mh_12]
    rw [e4]
    refine rnK rfl (m_at) ?_
    refine rnN 8 rfl ?_
    simp (disch := omega) only [nI_add, pk_mul, pk_sub, nd8, nd4, nsub8, nand63, nand7, nshr2, nI_clamp, E_at, hup_at, hup_hup, hpt_def, pf_at, pf_at2, cf_at, h12_14, h14_12, h12_15, h15_12, h14_15, h15_14]
    refine rnC (inN (show 512 * g + 8 * V 4 + lf V / 8 < 2048 by omega) (by decide)) rfl ?_
    simp (disch := omega) only [nI_add, pk_mul, pk_sub, nd8, nd4, nsub8, nand63, nand7, nshr2, nI_clamp, E_at, hup_at, hup_hup, hpt_def, pf_at, pf_at2, cf_at, h12_14, h14_12, h12_15, h15_12, h14_15, h15_14, mh_12]
    rw [ek, hk]
    refine rnN 5 rfl ?_
    refine rnC (inN (show 512 * g + 8 * V 4 + lf V / 8 < 2048 by omega) (by decide)) rfl ?_
    simp (disch := omega) only [nI_clamp, mhpt]
    rw [show 512 * g + 8 * V 4 + lf V / 8 = 512 * g + (8 * V 4 + lf V / 8) by omega, pf_up (show 8 * V 4 + lf V / 8 < 512 by omega)]
    refine rnN 2 rfl ?_
    refine rnK rfl (hst) ?_
    refine rnN 1 rfl ?_
    refine rnK rfl (hl2) ?_
    refine rnN 2 rfl ?_
    rw [hC]
    exact rnR rfl
  · have e : tkW V = V := if_neg hk
    have hC : tkC V = lf V := by unfold tkC; rw [e]
    rw [e] at hi1
    rw [e, hC, ← flg_u hi hi1]
    refine ⟨cf (h (14, 0)) (T (flg V u)), ?_⟩
    refine rnN 2 rfl ?_
    refine rnK rfl (hrc) ?_
    refine rnN 1 rfl ?_
    refine rnK rfl (hl1) ?_
    refine rnN 2 rfl ?_
    refine rnF (nI_pos (show lf V < 2147483648 by omega)) rfl ?_
    refine rnN 8 rfl ?_
    simp (disch := omega) only [nI_add, pk_mul, pk_sub, nd8, nd4, nsub8, nand63, nand7, nshr2, nI_clamp, E_at, hup_at, hup_hup, hpt_def, pf_at, pf_at2, cf_at, h12_14, h14_12, h12_15, h15_12, h14_15, h15_14]
    refine rnC (inN (show 512 * g + 4 < 2048 by omega) (by decide)) rfl ?_
    simp (disch := omega) only [nI_add, pk_mul, pk_sub, nd8, nd4, nsub8, nand63, nand7, nshr2, nI_clamp, E_at, hup_at, hup_hup, hpt_def, pf_at, pf_at2, cf_at, h12_14, h14_12, h12_15, h15_12, h14_15, h15_14, mh_12]
    rw [e4]
    refine rnK rfl (m_at) ?_
    refine rnN 8 rfl ?_
    simp (disch := omega) only [nI_add, pk_mul, pk_sub, nd8, nd4, nsub8, nand63, nand7, nshr2, nI_clamp, E_at, hup_at, hup_hup, hpt_def, pf_at, pf_at2, cf_at, h12_14, h14_12, h12_15, h15_12, h14_15, h15_14]
    refine rnC (inN (show 512 * g + 8 * V 4 + lf V / 8 < 2048 by omega) (by decide)) rfl ?_
    simp (disch := omega) only [nI_add, pk_mul, pk_sub, nd8, nd4, nsub8, nand63, nand7, nshr2, nI_clamp, E_at, hup_at, hup_hup, hpt_def, pf_at, pf_at2, cf_at, h12_14, h14_12, h12_15, h15_12, h14_15, h15_14, mh_12]
    rw [ek]
    refine rnF (nI_ne0 (show 0 < V (8 * V 4 + lf V / 8) by omega) (by omega)) rfl ?_
    refine rnN 1 rfl ?_
    exact rnR rfl
theorem m_takeF (hw : h (12, 0) = E (pf M g (flg V u))) (hg : g < 4) (hi : Inv V u) (hr : rm V = 0) : ∃ f', Cl (d + 4) MX4_take [vR (4, 0), vI (nI g)] h (some (vI (-1))) (mh h f' (pf M g (flg V u))) := by
  obtain ⟨hfi, hfT, -⟩ := flg_inv hi
  have hs := hfi.1
  have hrc := m_recount (d := d + 1) (M := M) hw hg hs
  rw [mh_eq hw] at hrc
  have hl1 := m_leastFreeF (d := d + 3) (h := mh h (cf (h (14, 0)) (T (flg V u))) (pf M g (flg V u))) (w := flg V u) mh_14 hs.ns.1 (fun x hx => by rw [hfT]; exact rm_all hi hr x hx)
  refine ⟨cf (h (14, 0)) (T (flg V u)), ?_⟩
  refine rnN 2 rfl ?_
  refine rnK rfl (hrc) ?_
  refine rnN 1 rfl ?_
  refine rnK rfl (hl1) ?_
  refine rnN 4 rfl ?_
  exact rnR rfl
end MT
end
section
/-! ===== the reference: what a table says of a block, what is shown; whether a leaf or a cluster is lacking ===== -/
/-- what n images below show of a block's word k -/
def shB (W : Nat → Nat → Nat) : Nat → Nat → Nat → Nat
  | 0, _, _ => 0
  | j + 1, b, k => if awd (W j) b / 4 = 0 then (if awd (W j) b = 0 then shB W j b k else 0) else W j (8 * (awd (W j) b / 4) + k)
section MR
variable {d g : Nat} {h : xH} {M N w V u u' : Nat → Nat} {f : Nat → Int32} {W U : Nat → Nat → Nat}
theorem sh_B (W : Nat → Nat → Nat) (k y a : Nat) : sh W k y a = if y / 4 = 0 then (if y = 0 then shB W k (a / 8) (a % 8) else 0) else W k (8 * (y / 4) + a % 8) := by
  have key : ∀ k y, sh W k y a = if y / 4 = 0 then (if y = 0 then shB W k (a / 8) (a % 8) else 0) else W k (8 * (y / 4) + a % 8) := by
    intro k
    induction k with
    | zero =>
      intro y
      simp only [sh, shB]
      split
      · split <;> rfl
      · rfl
    | succ k ih =>
      intro y
      rw [sh]
      split
      · split
        · rw [ih, shB]
        · rfl
      · rfl
  exact key k y
theorem pf_self {j : Nat} {v : Nat → Nat} (e : ∀ p, p < 512 → N (512 * j + p) = v p) : pf N j v = N := by
  funext q
  unfold pf
  split
  · next hq =>
    rw [← e _ (Nat.mod_lt _ (by decide))]
    congr 1
    omega
  · rfl
theorem m_slot {t b : Nat} (hw : h (12, 0) = E (pf M g w)) (hg : g < 4) (hs : Str w u) (ht : TB w t) (hb : b < 64) : Cl (d + 1) MX4_slot [vR (4, 0), vI (nI g), vI (nI (512 * g + 8 * t)), vI (nI b)] h (some (vI (if w (8 * t + b / 8) / 4 = 0 then -1 else nI (512 * g + 8 * (w (8 * t + b / 8) / 4) + b % 8)))) h := by
  have h1 := hs.tb ht
  have h2 := (hs.tw ht (show b / 8 < 8 by omega)).lt
  refine rnN 7 rfl ?_
  simp (disch := omega) only [nI_add, pk_mul, pk_sub, nd8, nd4, nsub8, nand63, nand7, nshr2, nI_clamp, E_at, hup_at, hup_hup, hpt_def, pf_at, pf_at2, cf_at, h12_14, h14_12, h12_15, h15_12, h14_15, h15_14]
  refine rnC (inN (show 512 * g + 8 * t + b / 8 < 2048 by omega) (by decide)) rfl ?_
  simp (disch := omega) only [nI_add, pk_mul, pk_sub, nd8, nd4, nsub8, nand63, nand7, nshr2, nI_clamp, E_at, hup_at, hup_hup, hpt_def, pf_at, pf_at2, cf_at, h12_14, h14_12, h12_15, h15_12, h14_15, h15_14, hw]
  refine rnN 4 rfl ?_
  simp (disch := omega) only [nI_add, pk_mul, pk_sub, nd8, nd4, nsub8, nand63, nand7, nshr2, nI_clamp, E_at, hup_at, hup_hup, hpt_def, pf_at, pf_at2, cf_at, h12_14, h14_12, h12_15, h15_12, h14_15, h15_14]
  by_cases h0 : w (8 * t + b / 8) / 4 = 0
  · rw [h0, if_pos rfl]
    refine rnN 3 rfl ?_
    exact rnR rfl
  · rw [if_neg h0]
    refine rnF (nI_ne0 (show 0 < w (8 * t + b / 8) / 4 by omega) (by omega)) rfl ?_
    refine rnN 2 rfl ?_
    refine rnK rfl (m_at) ?_
    refine rnN 4 rfl ?_
    simp (disch := omega) only [nI_add, pk_mul, pk_sub, nd8, nd4, nsub8, nand63, nand7, nshr2, nI_clamp, E_at, hup_at, hup_hup, hpt_def, pf_at, pf_at2, cf_at, h12_14, h14_12, h12_15, h15_12, h14_15, h15_14]
    exact rnR rfl
theorem m_entry {t b : Nat} (hw : h (12, 0) = E (pf M g w)) (hg : g < 4) (hs : Str w u) (ht : TB w t) (hb : b < 64) : Cl (d + 2) MX4_entry [vR (4, 0), vI (nI g), vI (nI (512 * g + 8 * t)), vI (nI b)] h (some (vI (nI (bwd w t b)))) h := by
  have h2 := hs.tw ht (show b / 8 < 8 by omega)
  refine rnN 4 rfl ?_
  refine rnK rfl (m_slot hw hg hs ht hb) ?_
  unfold bwd
  by_cases h0 : w (8 * t + b / 8) / 4 = 0
  · rw [if_pos h0, if_pos h0]
    refine rnN 5 rfl ?_
    exact rnR rfl
  · have hl := (h2.lead h0).1.pos
    rw [if_neg h0, if_neg h0]
    refine rnN 2 rfl ?_
    refine rnF (nI_pos (show 512 * g + 8 * (w (8 * t + b / 8) / 4) + b % 8 < 2147483648 by omega)) rfl ?_
    refine rnN 3 rfl ?_
    refine rnC (inN (show 512 * g + 8 * (w (8 * t + b / 8) / 4) + b % 8 < 2048 by omega) (by decide)) rfl ?_
    simp (disch := omega) only [nI_add, pk_mul, pk_sub, nd8, nd4, nsub8, nand63, nand7, nshr2, nI_clamp, E_at, hup_at, hup_hup, hpt_def, pf_at, pf_at2, cf_at, h12_14, h14_12, h12_15, h15_12, h14_15, h15_14, hw]
    exact rnR rfl
theorem jm_pred (n : Nat) : jm (n + 1) + (-1) = jm n := by
  cases n with
  | zero => rfl
  | succ n => exact pk_m1 n
theorem m_shows {t b k nb : Nat} (hw : h (12, 0) = E (pf M g w)) (hg : g < 4) (hs : Str w u) (ht : TB w t) (hb : b < 64) (hk : k < 8) (hnb : nb ≤ 3) (hW : ∀ j, j < nb → j ≠ g ∧ Str (W j) (U j) ∧ ∀ p, p < 512 → M (512 * j + p) = W j p) :
    Cl (d + 3) MX4_shows [vR (4, 0), vI (nI g), vI (nI (512 * g + 8 * t)), vI (jm nb), vI (nI b), vI (nI k)] h (some (vI (nI (if bwd w t b / 4 = 0 then (if bwd w t b = 0 then shB W nb b k else 0) else w (8 * (bwd w t b / 4) + k))))) h := by
  have hB := hs.bok ht hb
  have hBl := hB.lt
  -- the last part
  have last : ∀ (y : Nat) (o7 o8 : Option xV), y < 256 → Rn (d + 3) MX4_shows 83 [some (vR (4, 0)), some (vI (nI g)), some (vI (nI (512 * g + 8 * t))), some (vI (jm nb)), some (vI (nI b)), some (vI (nI k)), some (vI (nI y)), o7, o8] [] h (some (vI (nI (if y / 4 = 0 then 0 else w (8 * (y / 4) + k))))) h := by
    intro y o7 o8 hy
    refine rnN 3 rfl ?_
    simp (disch := omega) only [nI_add, pk_mul, pk_sub, nd8, nd4, nsub8, nand63, nand7, nshr2, nI_clamp, E_at, hup_at, hup_hup, hpt_def, pf_at, pf_at2, cf_at, h12_14, h14_12, h12_15, h15_12, h14_15, h15_14]
    by_cases h0 : y / 4 = 0
    · rw [h0, if_pos rfl]
      refine rnN 2 rfl ?_
      exact rnR rfl
    · rw [if_neg h0]
      refine rnT ((n0lt (show y / 4 < 2147483648 by omega)).mpr (by omega)) rfl ?_
      refine rnN 6 rfl ?_
      simp (disch := omega) only [nI_add, pk_mul, pk_sub, nd8, nd4, nsub8, nand63, nand7, nshr2, nI_clamp, E_at, hup_at, hup_hup, hpt_def, pf_at, pf_at2, cf_at, h12_14, h14_12, h12_15, h15_12, h14_15, h15_14]
      refine rnK rfl (m_at) ?_
      refine rnN 2 rfl ?_
      simp (disch := omega) only [nI_add, pk_mul, pk_sub, nd8, nd4, nsub8, nand63, nand7, nshr2, nI_clamp, E_at, hup_at, hup_hup, hpt_def, pf_at, pf_at2, cf_at, h12_14, h14_12, h12_15, h15_12, h14_15, h15_14]
      refine rnC (inN (show 512 * g + 8 * (y / 4) + k < 2048 by omega) (by decide)) rfl ?_
      simp (disch := omega) only [nI_add, pk_mul, pk_sub, nd8, nd4, nsub8, nand63, nand7, nshr2, nI_clamp, E_at, hup_at, hup_hup, hpt_def, pf_at, pf_at2, cf_at, h12_14, h14_12, h12_15, h15_12, h14_15, h15_14, hw]
      refine rnN 1 rfl ?_
      exact rnR rfl
  have loop : ∀ (n : Nat) (o8 : Option xV), n ≤ nb → Rn (d + 3) MX4_shows 13 [some (vR (4, 0)), some (vI (nI g)), some (vI (nI (512 * g + 8 * t))), some (vI (jm nb)), some (vI (nI b)), some (vI (nI k)), some (vI (nI 0)), some (vI (jm n)), o8] [] h (some (vI (nI (shB W n b k)))) h := by
    intro n
    induction n with
    | zero =>
      intro o8 _
      refine rnN 2 rfl ?_
      exact last 0 _ _ (by decide)
    | succ n ih =>
      intro o8 hn
      obtain ⟨hng, hsn, hMn⟩ := hW n (by omega)
      have hwn : h (12, 0) = E (pf (pf M g w) n (W n)) := by
        rw [hw, pf_self (N := pf M g w) (j := n) (v := W n) (fun p hp => by rw [pf_ne hp hng]; exact hMn p hp)]
      have hBn := hsn.bok act_tb hb
      have hBnl := hBn.lt
      refine rnN 1 rfl ?_
      rw [show jm (n + 1) = nI n from rfl]
      refine rnF (nI_pos (show n < 2147483648 by omega)) rfl ?_
      refine rnN 5 rfl ?_
      refine rnK rfl (m_table (n := 0) hwn (show n < 4 by omega) hsn.l6 (by decide)) ?_
      rw [show tbn (W n) 0 = W n 3 from rfl]
      refine rnN 5 rfl ?_
      refine rnK rfl (m_entry hwn (show n < 4 by omega) hsn act_tb hb) ?_
      rw [show bwd (W n) (W n 3) b = awd (W n) b from rfl]
      have hal : awd (W n) b < 256 := hBnl
      refine rnN 4 rfl ?_
      simp (disch := omega) only [nI_add, pk_mul, pk_sub, nd8, nd4, nsub8, nand63, nand7, nshr2, nI_clamp, E_at, hup_at, hup_hup, hpt_def, pf_at, pf_at2, cf_at, h12_14, h14_12, h12_15, h15_12, h14_15, h15_14]
      rw [shB]
      by_cases h0 : awd (W n) b / 4 = 0
      · rw [if_pos h0, h0]
        refine rnN 1 rfl ?_
        rcases hBn.flat h0 with e | e
        · have e : awd (W n) b = 0 := e
          rw [if_pos e, e]
          refine rnN 3 rfl ?_
          refine rnN 1 rfl ?_
          rw [show nI n + -1 = jm n from jm_pred n]
          refine rnN 1 rfl ?_
          exact ih _ (by omega)
        · have e : awd (W n) b = 2 := e
          rw [if_neg (by omega), e]
          refine rnN 4 rfl ?_
          exact rnR rfl
      · rw [if_neg h0]
        have hlp := (hBn.lead (show bwd (W n) (W n 3) b / 4 ≠ 0 from h0)).1.pos
        have hlp2 : awd (W n) b / 4 < 64 := hlp.2
        refine rnT ((n0lt (show awd (W n) b / 4 < 2147483648 by omega)).mpr (by omega)) rfl ?_
        refine rnN 6 rfl ?_
        simp (disch := omega) only [nI_add, pk_mul, pk_sub, nd8, nd4, nsub8, nand63, nand7, nshr2, nI_clamp, E_at, hup_at, hup_hup, hpt_def, pf_at, pf_at2, cf_at, h12_14, h14_12, h12_15, h15_12, h14_15, h15_14]
        refine rnK rfl (m_at) ?_
        refine rnN 2 rfl ?_
        simp (disch := omega) only [nI_add, pk_mul, pk_sub, nd8, nd4, nsub8, nand63, nand7, nshr2, nI_clamp, E_at, hup_at, hup_hup, hpt_def, pf_at, pf_at2, cf_at, h12_14, h14_12, h12_15, h15_12, h14_15, h15_14]
        refine rnC (inN (show 512 * n + 8 * (awd (W n) b / 4) + k < 2048 by omega) (by decide)) rfl ?_
        simp (disch := omega) only [nI_add, pk_mul, pk_sub, nd8, nd4, nsub8, nand63, nand7, nshr2, nI_clamp, E_at, hup_at, hup_hup, hpt_def, pf_at, pf_at2, cf_at, h12_14, h14_12, h12_15, h15_12, h14_15, h15_14, hwn]
        exact rnR rfl
  refine rnN 4 rfl ?_
  refine rnK rfl (m_entry hw hg hs ht hb) ?_
  refine rnN 3 rfl ?_
  by_cases h0 : bwd w t b = 0
  · rw [h0]
    exact loop nb _ (Nat.le_refl _)
  · have e1 : (if bwd w t b / 4 = 0 then (if bwd w t b = 0 then shB W nb b k else 0) else w (8 * (bwd w t b / 4) + k)) = if bwd w t b / 4 = 0 then 0 else w (8 * (bwd w t b / 4) + k) := by rw [if_neg h0]
    rw [e1]
    refine rnN 1 rfl ?_
    by_cases hn0 : nb = 0
    · subst hn0
      refine rnN 1 rfl ?_
      exact last _ _ _ hBl
    · obtain ⟨n, rfl⟩ : ∃ n, nb = n + 1 := ⟨nb - 1, by omega⟩
      refine rnF ((show ¬ jm (n + 1) < 0 from nI_pos (show n < 2147483648 by omega))) rfl ?_
      refine rnN 1 rfl ?_
      refine rnF (nI_ne0 (Nat.pos_of_ne_zero h0) (by omega)) rfl ?_
      exact last _ _ _ hBl
theorem nLeaf_le (w : Nat → Nat) (b : Nat) : nLeaf w b ≤ 1 := by unfold nLeaf; split <;> omega
theorem nClus_le (w : Nat → Nat) (b : Nat) : nClus w b ≤ 1 := by unfold nClus; split <;> omega
theorem m_lacksLeaf {b : Nat} (hw : h (12, 0) = E (pf M g w)) (hg : g < 4) (hs : Str w u) (hb : b < 64) : Cl (d + 3) MX4_lacksLeaf [vR (4, 0), vI (nI g), vI (nI b)] h (some (vI (nI (nLeaf w b)))) (mh h (cf (h (14, 0)) (T w)) (pf M g w)) := by
  have hrc := m_recount (d := d) (M := M) hw hg hs
  rw [mh_eq hw] at hrc
  have h2 := (hs.tw act_tb (show b / 8 < 8 by omega)).lt
  have hact := hs.act
  refine rnN 2 rfl ?_
  refine rnK rfl (hrc) ?_
  refine rnN 5 rfl ?_
  refine rnK rfl (m_table (n := 0) mh_12 hg hs.l6 (by decide)) ?_
  rw [show tbn w 0 = w 3 from rfl]
  refine rnN 4 rfl ?_
  simp (disch := omega) only [nI_add, pk_mul, pk_sub, nd8, nd4, nsub8, nand63, nand7, nshr2, nI_clamp, E_at, hup_at, hup_hup, hpt_def, pf_at, pf_at2, cf_at, h12_14, h14_12, h12_15, h15_12, h14_15, h15_14]
  refine rnC (inN (show 512 * g + 8 * w 3 + b / 8 < 2048 by omega) (by decide)) rfl ?_
  simp (disch := omega) only [nI_add, pk_mul, pk_sub, nd8, nd4, nsub8, nand63, nand7, nshr2, nI_clamp, E_at, hup_at, hup_hup, hpt_def, pf_at, pf_at2, cf_at, h12_14, h14_12, h12_15, h15_12, h14_15, h15_14, mh_12]
  refine rnN 4 rfl ?_
  simp (disch := omega) only [nI_add, pk_mul, pk_sub, nd8, nd4, nsub8, nand63, nand7, nshr2, nI_clamp, E_at, hup_at, hup_hup, hpt_def, pf_at, pf_at2, cf_at, h12_14, h14_12, h12_15, h15_12, h14_15, h15_14]
  unfold nLeaf
  by_cases h0 : w (8 * w 3 + b / 8) / 4 = 0
  · rw [h0, if_neg (fun e => (ow_iff.mp e).1 h0)]
    refine rnN 3 rfl ?_
    exact rnR rfl
  · have h1 := T_leaf act_tb (show b / 8 < 8 by omega) h0
    have hT := T_le (w := w) hs.ns.1 (w (8 * w 3 + b / 8) / 4)
    refine rnF (nI_ne0 (show 0 < w (8 * w 3 + b / 8) / 4 by omega) (by omega)) rfl ?_
    refine rnN 3 rfl ?_
    refine rnC (inN (show w (8 * w 3 + b / 8) / 4 < 64 by omega) (by decide)) rfl ?_
    simp (disch := omega) only [nI_add, pk_mul, pk_sub, nd8, nd4, nsub8, nand63, nand7, nshr2, nI_clamp, E_at, hup_at, hup_hup, hpt_def, pf_at, pf_at2, cf_at, h12_14, h14_12, h12_15, h15_12, h14_15, h15_14, mh_14]
    refine rnN 1 rfl ?_
    by_cases h3 : T w (w (8 * w 3 + b / 8) / 4) = 1
    · rw [if_pos (ow_iff.mpr ⟨h0, h3⟩), h3]
      refine rnN 2 rfl ?_
      exact rnR rfl
    · rw [if_neg (fun e => h3 (ow_iff.mp e).2)]
      refine rnT (nI_lt (show 1 < T w (w (8 * w 3 + b / 8) / 4) by omega) (by omega)) rfl ?_
      refine rnN 2 rfl ?_
      exact rnR rfl
theorem m_lacksCluster {b : Nat} (hw : h (12, 0) = E (pf M g w)) (hg : g < 4) (hs : Str w u) (hb : b < 64) : Cl (d + 3) MX4_lacksCluster [vR (4, 0), vI (nI g), vI (nI b)] h (some (vI (nI (nClus w b)))) (mh h (cf (h (14, 0)) (T w)) (pf M g w)) := by
  have hrc := m_recount (d := d) (M := M) hw hg hs
  rw [mh_eq hw] at hrc
  have h2 := (hs.bok act_tb hb).lt
  have h2 : awd w b < 256 := h2
  have hact := hs.act
  refine rnN 2 rfl ?_
  refine rnK rfl (hrc) ?_
  refine rnN 3 rfl ?_
  refine rnK rfl (m_table (n := 0) mh_12 hg hs.l6 (by decide)) ?_
  rw [show tbn w 0 = w 3 from rfl]
  refine rnN 5 rfl ?_
  refine rnK rfl (m_entry mh_12 hg hs act_tb hb) ?_
  rw [show bwd w (w 3) b = awd w b from rfl]
  refine rnN 4 rfl ?_
  simp (disch := omega) only [nI_add, pk_mul, pk_sub, nd8, nd4, nsub8, nand63, nand7, nshr2, nI_clamp, E_at, hup_at, hup_hup, hpt_def, pf_at, pf_at2, cf_at, h12_14, h14_12, h12_15, h15_12, h14_15, h15_14]
  unfold nClus
  by_cases h0 : awd w b / 4 = 0
  · rw [h0, if_neg (fun e => (ow_iff.mp e).1 h0)]
    refine rnN 3 rfl ?_
    exact rnR rfl
  · have h1 : 1 ≤ T w (awd w b / 4) := T_bw act_tb hb h0
    have hT := T_le (w := w) hs.ns.1 (awd w b / 4)
    refine rnF (nI_ne0 (show 0 < awd w b / 4 by omega) (by omega)) rfl ?_
    refine rnN 3 rfl ?_
    refine rnC (inN (show awd w b / 4 < 64 by omega) (by decide)) rfl ?_
    simp (disch := omega) only [nI_add, pk_mul, pk_sub, nd8, nd4, nsub8, nand63, nand7, nshr2, nI_clamp, E_at, hup_at, hup_hup, hpt_def, pf_at, pf_at2, cf_at, h12_14, h14_12, h12_15, h15_12, h14_15, h15_14, mh_14]
    refine rnN 1 rfl ?_
    by_cases h3 : T w (awd w b / 4) = 1
    · rw [if_pos (ow_iff.mpr ⟨h0, h3⟩), h3]
      refine rnN 2 rfl ?_
      exact rnR rfl
    · rw [if_neg (fun e => h3 (ow_iff.mp e).2)]
      refine rnT (nI_lt (show 1 < T w (awd w b / 4) by omega) (by omega)) rfl ?_
      refine rnN 2 rfl ?_
      exact rnR rfl
/-! a file and its settled words, read on -/
theorem fl_bw (hs : Str V u) {t b : Nat} (ht : TB V t) (hb : b < 64) : bwd (flg V u) t b / 4 = bwd V t b / 4 ∧ (bwd V t b / 4 = 0 → bwd (flg V u) t b = bwd V t b) := by
  have ha := flg_agr V u
  have e := ha.tb4 hs ht (show b / 8 < 8 by omega)
  unfold bwd
  rw [e]
  split
  · exact ⟨rfl, fun _ => rfl⟩
  · next h0 =>
    rcases ha.lfw hs ht (show b / 8 < 8 by omega) (show b % 8 < 8 by omega) h0 with e2 | ⟨e2, e3, e4⟩
    · rw [e2]; exact ⟨rfl, fun _ => rfl⟩
    · exact ⟨e3, fun e5 => absurd e5 e2⟩
theorem fl_aw (hs : Str V u) {b : Nat} (hb : b < 64) : awd (flg V u) b / 4 = awd V b / 4 ∧ (awd V b / 4 = 0 → awd (flg V u) b = awd V b) := by
  have h1 := fl_bw hs act_tb hb
  unfold awd
  rw [(flg_agr V u).hdr (p := 3) (by decide)]
  exact h1
theorem ow_4 {v w : Nat → Nat} {x y : Nat} (hT : ∀ X, T v X = T w X) (e : x / 4 = y / 4) : ow v x = ow w y := by
  unfold ow
  rw [e, hT]
theorem fl_nLeaf (hi : Inv V u) {b : Nat} (hb : b < 64) : nLeaf (flg V u) b = nLeaf V b := by
  have ha := flg_agr V u
  unfold nLeaf
  rw [ow_4 (flg_inv hi).2.1 (show flg V u (8 * flg V u 3 + b / 8) / 4 = V (8 * V 3 + b / 8) / 4 by rw [ha.hdr (p := 3) (by decide)]; exact ha.tb4 hi.1 act_tb (by omega))]
theorem fl_nClus (hi : Inv V u) {b : Nat} (hb : b < 64) : nClus (flg V u) b = nClus V b := by
  unfold nClus
  rw [ow_4 (flg_inv hi).2.1 (fl_aw hi.1 hb).1]
end MR
end
section
/-! ===== the reference: ownLeaf, own, drop ===== -/
section MO
variable {d g : Nat} {h : xH} {M N w V u u' : Nat → Nat} {f : Nat → Int32} {W U : Nat → Nat → Nat}
/-- what a leaf of its own is, with its counts -/
theorem gL_specT (hi : Inv V u) {b : Nat} (hb : b < V 2) (ho : ¬ ow V (V (8 * V 3 + b / 8)) = true) (hr : 1 ≤ rm V) : ∃ u1, Inv (tkW V) u1 ∧ Inv (gL V b) (up u1 (tkC V) (8 + b / 8)) ∧ (∀ X, T (gL V b) X + ld (tkW V (8 * tkW V 3 + b / 8)) X = T (tkW V) X + iv (tkC V) X)
    ∧ (∀ j, j < 8 → gL V b (8 * tkC V + j) = if tkW V (8 * tkW V 3 + b / 8) / 4 = 0 then 0 else tkW V (8 * (tkW V (8 * tkW V 3 + b / 8) / 4) + j)) ∧ gL V b (8 * tkW V 3 + b / 8) = 4 * tkC V + 1 ∧ (∀ p, p / 8 ≠ tkC V → p ≠ 8 * tkW V 3 + b / 8 → ¬ kp (tkW V) p → gL V b p = tkW V p)
    ∧ 1 ≤ tkC V ∧ tkC V < 64 ∧ T (tkW V) (tkC V) = 0 := by
  have hs := hi.1
  have hb64 := hs.sz.2
  have e : gL V b = glF (tkW V) (tkC V) (b / 8) := if_neg ho
  obtain ⟨u1, ha, hu, hC1, hC2, hC3, hC4, hrm, hTT, hO, hH, hC5⟩ := tk_spec hi hr
  have hi8 : b / 8 < 8 := by omega
  have hact := hs.act
  have hneq : V 3 ≠ V 4 := fun e2 => by have := hs.ct; rw [e2] at hact; omega
  have e3 := hH 3 (by decide)
  have e4 := hH 4 (by decide)
  have e2s := hH 2 (by decide)
  have exw : tkW V (8 * V 3 + b / 8) = V (8 * V 3 + b / 8) := hO _ (by rw [ix_div hi8]; have := T_act (w := V); omega) (by rw [ix_div hi8]; exact hneq)
  have hx : tkW V (8 * tkW V 3 + b / 8) / 4 = 0 ∨ 2 ≤ T (tkW V) (tkW V (8 * tkW V 3 + b / 8) / 4) := by
    rw [e3, exw]
    by_cases h0 : V (8 * V 3 + b / 8) / 4 = 0
    · exact Or.inl h0
    · right
      have h5 := T_leaf act_tb hi8 h0
      rw [hTT _ (by omega)]
      have h6 : ¬ T V (V (8 * V 3 + b / 8) / 4) = 1 := fun e5 => ho (decide_eq_true ⟨h0, e5⟩)
      omega
  obtain ⟨vC, vA, vK, vO, vb⟩ := glF_words ha hC1 hC2 hC3 (by rw [e4]; exact hC4) hi8 hx
  obtain ⟨hV, hT⟩ := leaf_inv ha hC1 hC2 hC3 (by rw [e4]; exact hC4) hi8 (by rw [e2s]; omega) (Nat.le_refl 1) hx vC vA vK vO vb
  rw [e]
  exact ⟨u1, ha, hV, hT, vC, vA, vO, hC1, hC2, hC3⟩
/-- the reference's words ahead of its settling agree with the class's -/
theorem gL_agr (hi : Inv V u) {b : Nat} (hb : b < V 2) (ho : ¬ ow V (V (8 * V 3 + b / 8)) = true) (hr : 1 ≤ rm V) {u1 : Nat → Nat} (h1 : Inv (tkW V) u1) : ∃ u2, Inv (gL V b) u2 ∧ Agr (up (fun p => if p / 8 = tkC V then (if tkW V (8 * tkW V 3 + b / 8) / 4 = 0 then 0 else flg (tkW V) u1 (8 * (tkW V (8 * tkW V 3 + b / 8) / 4) + p % 8)) else flg (tkW V) u1 p) (8 * tkW V 3 + b / 8) (4 * tkC V)) (gL V b) u2 := by
  obtain ⟨u1', ha, hI, hT, vC, vA, vO, hC1, hC2, hC3⟩ := gL_specT hi hb ho hr
  have hb64 := hi.1.sz.2
  have hi8 : b / 8 < 8 := by omega
  rw [flg_u h1 ha]
  refine ⟨_, hI, ?_⟩
  have hs := ha.1
  have hact := hs.act
  have hne3 := ne_fresh (w := tkW V) hC3 T_act
  obtain ⟨v, hv⟩ : ∃ v, v = tkW V := ⟨_, rfl⟩
  obtain ⟨c, hc⟩ : ∃ c, c = tkC V := ⟨_, rfl⟩
  simp only [← hv, ← hc] at ha hI hT vC vA vO hC1 hC2 hC3 hs hact hne3 ⊢
  intro p hTp hu
  by_cases e1 : p = 8 * v 3 + b / 8
  · right
    rw [e1, up_at, vA, ix_div hi8]
    refine ⟨hact.1, ?_, by omega, by omega, by omega⟩
    unfold TL
    rw [up_ne hne3]
    exact Or.inl hact.2.2
  · rw [up_ne e1]
    by_cases e2 : p / 8 = c
    · obtain ⟨k, hk, rfl⟩ : ∃ k, k < 8 ∧ p = 8 * c + k := ⟨p % 8, by omega, by omega⟩
      rw [if_pos e2, vC k hk, ix_mod hk]
      by_cases h0 : v (8 * v 3 + b / 8) / 4 = 0
      · rw [if_pos h0, if_pos h0]
        exact Or.inl rfl
      · rw [if_neg h0, if_neg h0]
        rcases (flg_agr v u1').lfw hs act_tb hi8 hk h0 with q | ⟨q1, q2, q3⟩
        · exact Or.inl q
        · refine Or.inr ⟨by omega, ?_, q1, q2, q3⟩
          unfold TL
          rw [e2, up_at]
          omega
    · rw [if_neg e2]
      rw [up_ne e2] at hu
      have hTv : T v (p / 8) ≠ 0 := fun e => by
        have := hT (p / 8)
        rw [e, iv_ne (fun e => e2 e.symm)] at this
        omega
      have hnk : ¬ kp v p := by
        rcases hu with hu | hu
        · exact nk0 (by omega)
        · exact hs.nk hu
      rw [vO p e2 e1 hnk]
      rcases flg_agr v u1' p hTv hu with q | ⟨q1, q2, q3⟩
      · exact Or.inl q
      · refine Or.inr ⟨q1, ?_, q3⟩
        unfold TL
        rw [up_ne e2]
        exact q2
theorem m_ownLeafF {b : Nat} (hw : h (12, 0) = E (pf M g (flg V u))) (hg : g < 4) (hi : Inv V u) (hb : b < V 2) (hr : ¬ nLeaf V b ≤ rm V) : ∃ f', Cl (d + 5) MX4_ownLeaf [vR (4, 0), vI (nI g), vI (nI b)] h (some (vI (nI 1000))) (mh h f' (pf M g (flg V u))) := by
  have hb64 := hi.1.sz.2
  have hle := nLeaf_le V b
  have hll := m_lacksLeaf (d := d + 1) (M := M) hw hg (flg_inv hi).1.1 (show b < 64 by omega)
  rw [fl_nLeaf hi (by omega), show nLeaf V b = 1 by omega] at hll
  obtain ⟨f', ht⟩ := m_takeF (d := d) (h := mh h (cf (h (14, 0)) (T (flg V u))) (pf M g (flg V u))) (M := M) mh_12 hg hi (by omega)
  rw [mh_mh] at ht
  refine ⟨f', ?_⟩
  refine rnN 3 rfl ?_
  refine rnK rfl (hll) ?_
  refine rnN 3 rfl ?_
  refine rnK rfl (ht) ?_
  refine rnN 4 rfl ?_
  exact rnR rfl
theorem m_ownLeaf {b : Nat} (hw : h (12, 0) = E (pf M g (flg V u))) (hg : g < 4) (hi : Inv V u) (hb : b < V 2) (hr : nLeaf V b ≤ rm V) (hi' : Inv (gL V b) u') : ∃ f', Cl (d + 5) MX4_ownLeaf [vR (4, 0), vI (nI g), vI (nI b)] h (some (vI (nI (nLeaf V b)))) (mh h f' (pf M g (flg (gL V b) u'))) := by
  have hb64 := hi.1.sz.2
  have hll := m_lacksLeaf (d := d + 1) (M := M) hw hg (flg_inv hi).1.1 (show b < 64 by omega)
  rw [fl_nLeaf hi (by omega)] at hll
  by_cases ho : ow V (V (8 * V 3 + b / 8)) = true
  · have e : gL V b = V := if_pos ho
    have en : nLeaf V b = 0 := if_pos ho
    rw [e] at hi' ⊢
    rw [en] at hll ⊢
    rw [← flg_u hi hi']
    refine ⟨cf (h (14, 0)) (T (flg V u)), ?_⟩
    refine rnN 3 rfl ?_
    refine rnK rfl (hll) ?_
    refine rnN 2 rfl ?_
    exact rnR rfl
  · have en : nLeaf V b = 1 := if_neg ho
    rw [en] at hr hll ⊢
    obtain ⟨u1, ha, hu, hC1, hC2, hC3, hC4, hrm, hTT, hO, hH, hC5⟩ := tk_spec hi hr
    obtain ⟨u2, hI2, hag⟩ := gL_agr hi hb ho hr ha
    obtain ⟨f1, ht⟩ := m_takeT (d := d) (h := mh h (cf (h (14, 0)) (T (flg V u))) (pf M g (flg V u))) (M := M) mh_12 hg hi hr ha
    rw [mh_mh] at ht
    have hs := ha.1
    have hi8 : b / 8 < 8 := by omega
    have hfa := flg_agr (tkW V) u1
    have hsf := (flg_inv ha).1.1
    have e3 : flg (tkW V) u1 3 = tkW V 3 := hfa.hdr (by decide)
    have hact := hs.act
    have hL := (hs.tw act_tb hi8).lt
    have exw : flg (tkW V) u1 (8 * tkW V 3 + b / 8) / 4 = tkW V (8 * tkW V 3 + b / 8) / 4 := hfa.tb4 hs act_tb hi8
    have hLf : flg (tkW V) u1 (8 * tkW V 3 + b / 8) < 256 := by
      have := (hsf.tw act_tb hi8).lt
      rwa [e3] at this
    obtain ⟨v, hv⟩ : ∃ v, v = tkW V := ⟨_, rfl⟩
    obtain ⟨c, hc⟩ : ∃ c, c = tkC V := ⟨_, rfl⟩
    obtain ⟨l, hl⟩ : ∃ l, l = tkW V (8 * tkW V 3 + b / 8) / 4 := ⟨_, rfl⟩
    have hsR := hag.eS hI2.1
    have hTR := fun X => hag.eT hI2.1 X
    have hst := m_settle (d := d + 1) (h := mh h f1 (pf M g (up (fun p => if p / 8 = tkC V then (if tkW V (8 * tkW V 3 + b / 8) / 4 = 0 then 0 else flg (tkW V) u1 (8 * (tkW V (8 * tkW V 3 + b / 8) / 4) + p % 8)) else flg (tkW V) u1 p) (8 * tkW V 3 + b / 8) (4 * tkC V)))) (M := M) mh_12 hg hsR
    rw [mh_mh, mh_14, pf_congr (stl_agr hI2 hag), flg_u hI2 hi'] at hst
    obtain ⟨f2, hf2⟩ : ∃ f2, f2 = cf f1 (T (up (fun p => if p / 8 = tkC V then (if tkW V (8 * tkW V 3 + b / 8) / 4 = 0 then 0 else flg (tkW V) u1 (8 * (tkW V (8 * tkW V 3 + b / 8) / 4) + p % 8)) else flg (tkW V) u1 p) (8 * tkW V 3 + b / 8) (4 * tkC V))) := ⟨_, rfl⟩
    rw [← hf2] at hst
    refine ⟨f2, ?_⟩
    clear hf2 hag hsR hTR hrm hO hH hTT hu hI2 hC4 hC5
    simp only [← hv, ← hc] at ht hst e3 hsf hact hL exw hLf hl hC1 hC2 hC3 hs
    simp only [← hl] at hst exw
    refine rnN 3 rfl ?_
    refine rnK rfl (hll) ?_
    refine rnN 3 rfl ?_
    refine rnK rfl (ht) ?_
    refine rnN 2 rfl ?_
    refine rnF (nI_pos (show c < 2147483648 by omega)) rfl ?_
    refine rnN 3 rfl ?_
    refine rnK rfl (m_table (n := 0) mh_12 hg hsf.l6 (by decide)) ?_
    rw [show tbn (flg v u1) 0 = flg v u1 3 from rfl, e3]
    refine rnN 8 rfl ?_
    simp (disch := omega) only [nI_add, pk_mul, pk_sub, nd8, nd4, nsub8, nand63, nand7, nshr2, nI_clamp, E_at, hup_at, hup_hup, hpt_def, pf_at, pf_at2, cf_at, h12_14, h14_12, h12_15, h15_12, h14_15, h15_14]
    refine rnC (inN (show 512 * g + 8 * v 3 + b / 8 < 2048 by omega) (by decide)) rfl ?_
    simp (disch := omega) only [nI_add, pk_mul, pk_sub, nd8, nd4, nsub8, nand63, nand7, nshr2, nI_clamp, E_at, hup_at, hup_hup, hpt_def, pf_at, pf_at2, cf_at, h12_14, h14_12, h12_15, h15_12, h14_15, h15_14, mh_12]
    refine rnN 5 rfl ?_
    simp (disch := omega) only [nI_add, pk_mul, pk_sub, nd8, nd4, nsub8, nand63, nand7, nshr2, nI_clamp, E_at, hup_at, hup_hup, hpt_def, pf_at, pf_at2, cf_at, h12_14, h14_12, h12_15, h15_12, h14_15, h15_14]
    rw [exw]
    have e0 : pf M g (flg v u1) = pf M g fun p => if p / 8 = c ∧ p % 8 < 0 then (if l = 0 then 0 else flg v u1 (8 * l + p % 8)) else flg v u1 p := pf_congr fun p _ => by rw [if_neg (by omega)]
    rw [e0]
    have hlc : l ≠ 0 → l ≠ c ∧ l < 64 := fun h0 => by
      have h1 := T_leaf (w := v) act_tb hi8 (by rw [← hl]; exact h0)
      have h2 := ((hs.tw act_tb hi8).lead (by rw [← hl]; exact h0)).1.pos
      rw [← hl] at h1 h2
      exact ⟨ne_fresh hC3 h1, h2.2⟩
    refine lpN 8 (fun k => Rn (d + 5) MX4_ownLeaf 52 [some (vR (4, 0)), some (vI (nI g)), some (vI (nI b)), some (vI (nI c)), some (vI (nI (512 * g + 8 * v 3 + b / 8))), some (vI (nI l)), some (vI (nI k))] [] (mh h f1 (pf M g fun p => if p / 8 = c ∧ p % 8 < k then (if l = 0 then 0 else flg v u1 (8 * l + p % 8)) else flg v u1 p)) (some (vI (nI 1))) (mh h f2 (pf M g (flg (gL V b) u')))) (fun k hk K => ?_) ?_
    · have step : ∀ z, z = (if l = 0 then 0 else flg v u1 (8 * l + k)) → up (fun p => if p / 8 = c ∧ p % 8 < k then (if l = 0 then 0 else flg v u1 (8 * l + p % 8)) else flg v u1 p) (8 * c + k) z = fun p => if p / 8 = c ∧ p % 8 < k + 1 then (if l = 0 then 0 else flg v u1 (8 * l + p % 8)) else flg v u1 p := by
        intro z hz
        funext p
        simp only [up]
        by_cases e : p = 8 * c + k
        · rw [if_pos e, if_pos (by omega), hz, e, ix_mod hk]
        · rw [if_neg e]
          by_cases e2 : p / 8 = c ∧ p % 8 < k
          · rw [if_pos e2, if_pos (show p / 8 = c ∧ p % 8 < k + 1 by omega)]
          · rw [if_neg e2, if_neg (show ¬ (p / 8 = c ∧ p % 8 < k + 1) by omega)]
      refine rnN 2 rfl ?_
      refine rnT (nI_lt hk (by decide)) rfl ?_
      refine rnN 4 rfl ?_
      refine rnK rfl (m_at) ?_
      refine rnN 3 rfl ?_
      by_cases h0 : l = 0
      · refine rnT ((show nI l = 0 by rw [h0]; rfl)) rfl ?_
        refine rnN 2 rfl ?_
        simp (disch := omega) only [nI_add, pk_mul, pk_sub, nd8, nd4, nsub8, nand63, nand7, nshr2, nI_clamp, E_at, hup_at, hup_hup, hpt_def, pf_at, pf_at2, cf_at, h12_14, h14_12, h12_15, h15_12, h14_15, h15_14]
        refine rnC (inN (show 512 * g + 8 * c + k < 2048 by omega) (by decide)) rfl ?_
        simp (disch := omega) only [nI_clamp, mhpt]
        rw [show 512 * g + 8 * c + k = 512 * g + (8 * c + k) by omega, pf_up (show 8 * c + k < 512 by omega), step 0 (by rw [if_pos h0])]
        refine rnN 2 rfl ?_
        simp (disch := omega) only [nI_add, pk_mul, pk_sub, nd8, nd4, nsub8, nand63, nand7, nshr2, nI_clamp, E_at, hup_at, hup_hup, hpt_def, pf_at, pf_at2, cf_at, h12_14, h14_12, h12_15, h15_12, h14_15, h15_14]
        exact K
      · obtain ⟨q1, q2⟩ := hlc h0
        refine rnF (nI_ne0 (Nat.pos_of_ne_zero h0) (by omega)) rfl ?_
        refine rnN 4 rfl ?_
        refine rnK rfl (m_at) ?_
        refine rnN 2 rfl ?_
        simp (disch := omega) only [nI_add, pk_mul, pk_sub, nd8, nd4, nsub8, nand63, nand7, nshr2, nI_clamp, E_at, hup_at, hup_hup, hpt_def, pf_at, pf_at2, cf_at, h12_14, h14_12, h12_15, h15_12, h14_15, h15_14]
        refine rnC (inN (show 512 * g + 8 * l + k < 2048 by omega) (by decide)) rfl ?_
        simp (disch := omega) only [nI_add, pk_mul, pk_sub, nd8, nd4, nsub8, nand63, nand7, nshr2, nI_clamp, E_at, hup_at, hup_hup, hpt_def, pf_at, pf_at2, cf_at, h12_14, h14_12, h12_15, h15_12, h14_15, h15_14, mh_12]
        rw [if_neg (show ¬ ((8 * l + k) / 8 = c ∧ (8 * l + k) % 8 < k) by omega)]
        refine rnC (inN (show 512 * g + 8 * c + k < 2048 by omega) (by decide)) rfl ?_
        simp (disch := omega) only [nI_clamp, mhpt]
        rw [show 512 * g + 8 * c + k = 512 * g + (8 * c + k) by omega, pf_up (show 8 * c + k < 512 by omega), step _ (by rw [if_neg h0])]
        refine rnN 2 rfl ?_
        simp (disch := omega) only [nI_add, pk_mul, pk_sub, nd8, nd4, nsub8, nand63, nand7, nshr2, nI_clamp, E_at, hup_at, hup_hup, hpt_def, pf_at, pf_at2, cf_at, h12_14, h14_12, h12_15, h15_12, h14_15, h15_14]
        exact K
    · refine rnN 3 rfl ?_
      refine rnN 6 rfl ?_
      simp (disch := omega) only [nI_add, pk_mul, pk_sub, nd8, nd4, nsub8, nand63, nand7, nshr2, nI_clamp, E_at, hup_at, hup_hup, hpt_def, pf_at, pf_at2, cf_at, h12_14, h14_12, h12_15, h15_12, h14_15, h15_14]
      refine rnC (inN (show 512 * g + 8 * v 3 + b / 8 < 2048 by omega) (by decide)) rfl ?_
      simp (disch := omega) only [nI_clamp, mhpt]
      rw [show 512 * g + 8 * v 3 + b / 8 = 512 * g + (8 * v 3 + b / 8) by omega, pf_up (show 8 * v 3 + b / 8 < 512 by omega)]
      have e1 : pf M g (up (fun p => if p / 8 = c ∧ p % 8 < 8 then (if l = 0 then 0 else flg v u1 (8 * l + p % 8)) else flg v u1 p) (8 * v 3 + b / 8) (4 * c)) = pf M g (up (fun p => if p / 8 = c then (if l = 0 then 0 else flg v u1 (8 * l + p % 8)) else flg v u1 p) (8 * v 3 + b / 8) (4 * c)) := pf_congr fun p _ => by
        simp only [up]
        by_cases e : p = 8 * v 3 + b / 8
        · rw [if_pos e, if_pos e]
        · rw [if_neg e, if_neg e]
          by_cases e2 : p / 8 = c
          · rw [if_pos e2, if_pos ⟨e2, by omega⟩]
          · rw [if_neg e2, if_neg (fun z => e2 z.1)]
      rw [e1]
      refine rnN 2 rfl ?_
      refine rnK rfl (hst) ?_
      refine rnN 1 rfl ?_
      exact rnR rfl
end MO
end
section
/-! ===== the reference: own, drop ===== -/
/-- the words that a block's new cluster begins with -/
def datm (V : Nat → Nat) (W : Nat → Nat → Nat) (nb b k : Nat) : Nat := if awd V b / 4 = 0 then (if awd V b = 0 then shB W nb b k else 0) else V (8 * (awd V b / 4) + k)
section MO2
variable {d g : Nat} {h : xH} {M N w V u u' : Nat → Nat} {f : Nat → Int32} {W U : Nat → Nat → Nat}
theorem mh_15 {s : Nat → Int32} : hup (mh h f N) (15, 0) s = mh (hup h (15, 0) s) f N := by
  funext q
  unfold mh hup
  by_cases h1 : q = (15, 0)
  · subst h1
    rfl
  · simp only [if_neg h1]
theorem shB_lt (hb : ∀ j p, W j p < 4294967296) : ∀ n b k, shB W n b k < 4294967296 := by
  intro n
  induction n with
  | zero => intro b k; simp [shB]
  | succ n ih =>
    intro b k
    rw [shB]
    split
    · split
      · exact ih b k
      · decide
    · exact hb _ _
theorem datm_lt (hV : ∀ p, V p < 4294967296) (hb : ∀ j p, W j p < 4294967296) (n b k : Nat) : datm V W n b k < 4294967296 := by
  unfold datm
  split
  · split
    · exact shB_lt hb _ _ _
    · decide
  · exact hV _
theorem fl_dat (hs : Str V u) {b nb k : Nat} (hb : b < 64) (hk : k < 8) : (if bwd (flg V u) (flg V u 3) b / 4 = 0 then (if bwd (flg V u) (flg V u 3) b = 0 then shB W nb b k else 0) else flg V u (8 * (bwd (flg V u) (flg V u 3) b / 4) + k)) = datm V W nb b k := by
  have h1 := fl_aw hs hb
  unfold datm
  rw [show bwd (flg V u) (flg V u 3) b = awd (flg V u) b from rfl]
  rw [h1.1]
  split
  · next h0 => rw [h1.2 h0]
  · next h0 =>
    have h2 := ((hs.bok act_tb hb).lead (show bwd V (V 3) b / 4 ≠ 0 from h0)).2.2
    have h3 : u (awd V b / 4) = 24 + (8 * (b / 8) + b % 8) := h2
    exact flg_out (fun e => by rw [ix_div hk] at e; have := e.2.2; unfold TL at this; omega)
theorem gC_specT (hi : Inv V u) {b : Nat} {dat : Nat → Nat} (hb : b < V 2) (ho : ow V (V (8 * V 3 + b / 8)) = true) (hoc : ¬ ow V (awd V b) = true) (hr : 1 ≤ rm V) (hd : ∀ j, dat j < 4294967296) : ∃ u1, Inv (tkW V) u1 ∧ Inv (gC V b dat) (up u1 (tkC V) (24 + (8 * (b / 8) + b % 8))) ∧ (∀ X, T (gC V b dat) X + ld (V (8 * (V (8 * V 3 + b / 8) / 4) + b % 8)) X = T (tkW V) X + iv (tkC V) X)
    ∧ tkW V 3 = V 3 ∧ tkW V (8 * V 3 + b / 8) = V (8 * V 3 + b / 8) ∧ gC V b dat (8 * (V (8 * V 3 + b / 8) / 4) + b % 8) = 4 * tkC V + 1 ∧ (∀ k, k < 8 → gC V b dat (8 * tkC V + k) = dat k) ∧ (∀ p, p / 8 ≠ tkC V → p ≠ 8 * (V (8 * V 3 + b / 8) / 4) + b % 8 → ¬ kp (tkW V) p → gC V b dat p = tkW V p)
    ∧ 1 ≤ tkC V ∧ tkC V < 64 ∧ T (tkW V) (tkC V) = 0 ∧ V (8 * V 3 + b / 8) / 4 ≠ 0 ∧ V (8 * V 3 + b / 8) / 4 ≠ tkC V ∧ u1 (V (8 * V 3 + b / 8) / 4) = 8 + b / 8 ∧ V (8 * V 3 + b / 8) / 4 < 64 := by
  have hs := hi.1
  have hb64 := hs.sz.2
  obtain ⟨hl, hown⟩ := ow_iff.mp ho
  have hi8 : b / 8 < 8 := by omega
  have hj8 : b % 8 < 8 := by omega
  have hlL := (hs.tw act_tb hi8).lead hl
  have eaw := awd_own (w := V) (b := b) hl
  have hB := hlL.2.2.2 (b % 8) hj8
  have e : gC V b dat = gcF (tkW V) (tkC V) (b / 8) (b % 8) dat := if_neg hoc
  obtain ⟨u1, ha, hu, hC1, hC2, hC3, hC4, hrm, hTT, hO, hH, hC5⟩ := tk_spec hi hr
  obtain ⟨t1, t2⟩ := tk_leaf hi hr hi8 hl
  have e3 := hH 3 (by decide)
  have e4 := hH 4 (by decide)
  have hl1 : tkW V (8 * tkW V 3 + b / 8) / 4 ≠ 0 := by rw [e3, t1]; exact hl
  have hown1 : T (tkW V) (tkW V (8 * tkW V 3 + b / 8) / 4) = 1 := by rw [e3, t1, hTT _ (by omega)]; exact hown
  have hy : tkW V (8 * (tkW V (8 * tkW V 3 + b / 8) / 4) + b % 8) / 4 = 0 ∨ 2 ≤ T (tkW V) (tkW V (8 * (tkW V (8 * tkW V 3 + b / 8) / 4) + b % 8) / 4) := by
    rw [e3, t1, t2 _ hj8]
    by_cases hy0 : V (8 * (V (8 * V 3 + b / 8) / 4) + b % 8) / 4 = 0
    · exact Or.inl hy0
    · right
      have h5 := T_blk act_tb hi8 hj8 hl hy0
      rw [hTT _ (by omega)]
      have h6 : ¬ T V (V (8 * (V (8 * V 3 + b / 8) / 4) + b % 8) / 4) = 1 := fun e5 => hoc (ow_iff.mpr (by rw [eaw]; exact ⟨hy0, e5⟩))
      omega
  obtain ⟨vB, vK, vO, vb, vD⟩ := gcF_words (dat := dat) ha hC1 hC2 hC3 (by rw [e4]; exact hC4) hi8 hj8 hl1 hd hy
  obtain ⟨hV, hT⟩ := clus_inv ha hC1 hC2 hC3 (by rw [e4]; exact hC4) hi8 hj8 (by rw [hH 2 (by decide)]; omega) (Nat.le_refl 1) hl1 hown1 hy vB vK vO vb
  rw [e3, t1] at vB vO
  rw [e3, t1, t2 _ hj8] at hT
  have hlne := ne_fresh (X := V (8 * V 3 + b / 8) / 4) hC5 (by omega)
  rw [e]
  exact ⟨u1, ha, hV, hT, e3, t1, vB, vD, vO, hC1, hC2, hC3, hl, hlne, by rw [hu _ (by omega)]; exact hlL.2.2.1, hlL.1.pos.2⟩
/-- the reference's words ahead of its settling agree with the class's -/
theorem gC_agr (hi : Inv V u) {b : Nat} {dat : Nat → Nat} (hb : b < V 2) (ho : ow V (V (8 * V 3 + b / 8)) = true) (hoc : ¬ ow V (awd V b) = true) (hr : 1 ≤ rm V) (hd : ∀ j, dat j < 4294967296) {u1 : Nat → Nat} (h1 : Inv (tkW V) u1) :
    ∃ u2, Inv (gC V b dat) u2 ∧ Agr (fun p => if p / 8 = tkC V then dat (p % 8) else up (flg (tkW V) u1) (8 * (V (8 * V 3 + b / 8) / 4) + b % 8) (4 * tkC V) p) (gC V b dat) u2 := by
  obtain ⟨u1', ha, hI, hT, e3, t1, vB, vD, vO, hC1, hC2, hC3, hl, hlne, hul, hl64⟩ := gC_specT hi hb ho hoc hr hd
  have hj8 : b % 8 < 8 := by omega
  have hi8 : b / 8 < 8 := by have := hi.1.sz.2; omega
  rw [flg_u h1 ha]
  refine ⟨_, hI, ?_⟩
  have hs := ha.1
  intro p hTp hu
  dsimp only
  by_cases e2 : p / 8 = tkC V
  · obtain ⟨k, hk, rfl⟩ : ∃ k, k < 8 ∧ p = 8 * tkC V + k := ⟨p % 8, by omega, by omega⟩
    left
    rw [if_pos e2, vD k hk, ix_mod hk]
  · rw [if_neg e2]
    by_cases e1 : p = 8 * (V (8 * V 3 + b / 8) / 4) + b % 8
    · right
      rw [e1, up_at, vB, ix_div hj8]
      refine ⟨by omega, ?_, by omega, by omega, by omega⟩
      unfold TL
      rw [up_ne hlne]
      omega
    · rw [up_ne e1]
      rw [up_ne e2] at hu
      have hTv : T (tkW V) (p / 8) ≠ 0 := fun e => by
        have := hT (p / 8)
        rw [e, iv_ne (fun e => e2 e.symm)] at this
        omega
      have hnk : ¬ kp (tkW V) p := by
        rcases hu with hu | hu
        · exact nk0 (by omega)
        · exact hs.nk hu
      rw [vO p e2 e1 hnk]
      rcases flg_agr (tkW V) u1' p hTv hu with q | ⟨q1, q2, q3⟩
      · exact Or.inl q
      · refine Or.inr ⟨q1, ?_, q3⟩
        unfold TL
        rw [up_ne e2]
        exact q2
/-- a cluster of its own, behind the leaf: from the second test on -/
theorem own_tail {b nb n : Nat} (hw : h (12, 0) = E (pf M g (flg V u))) (hg : g < 4) (hi : Inv V u) (hb : b < V 2) (ho : ow V (V (8 * V 3 + b / 8)) = true) (hr : nClus V b ≤ rm V) (hnb : nb ≤ 3) (hW : ∀ j, j < nb → j ≠ g ∧ Str (W j) (U j) ∧ ∀ p, p < 512 → M (512 * j + p) = W j p) (hWb : ∀ j p, W j p < 4294967296)
    (hi' : Inv (gC V b (datm V W nb b)) u') : ∃ f' s', Rn (d + 6) MX4_own 16 [some (vR (4, 0)), some (vI (nI g)), some (vI (jm nb)), some (vI (nI b)), some (vI (nI n)), none, none, none, none] [] h (some (vI (nI (n + nClus V b)))) (mh (hup h (15, 0) s') f' (pf M g (flg (gC V b (datm V W nb b)) u'))) := by
  have hb64 := hi.1.sz.2
  have hsf := (flg_inv hi).1.1
  have hlc := m_lacksCluster (d := d + 2) (M := M) hw hg hsf (show b < 64 by omega)
  rw [fl_nClus hi (by omega)] at hlc
  by_cases hoc : ow V (awd V b) = true
  · have e : gC V b (datm V W nb b) = V := if_pos hoc
    have en : nClus V b = 0 := if_pos hoc
    rw [e] at hi' ⊢
    rw [en] at hlc ⊢
    rw [← flg_u hi hi']
    refine ⟨cf (h (14, 0)) (T (flg V u)), h (15, 0), ?_⟩
    rw [hup_self rfl]
    refine rnN 3 rfl ?_
    refine rnK rfl (hlc) ?_
    refine rnN 2 rfl ?_
    exact rnR rfl
  · have en : nClus V b = 1 := if_neg hoc
    rw [en] at hr hlc ⊢
    have hd := datm_lt (V := V) (W := W) hi.2.2.2.2 hWb nb b
    obtain ⟨u1, ha, hI, hT, e3, t1, vB, vD, vO, hC1, hC2, hC3, hl, hlne, hul, hl64⟩ := gC_specT hi hb ho hoc hr hd
    obtain ⟨u2, hI2, hag⟩ := gC_agr hi hb ho hoc hr hd ha
    have hi8 : b / 8 < 8 := by omega
    obtain ⟨dat, hdat⟩ : ∃ dat, dat = datm V W nb b := ⟨_, rfl⟩
    rw [← hdat] at hi' hI vB vD vO hI2 hag hT ⊢
    obtain ⟨s, hs⟩ : ∃ s : Nat → Int32, s = fun k => if k < 8 then nI (dat k) else h (15, 0) k := ⟨_, rfl⟩
    obtain ⟨f1, ht⟩ := m_takeT (d := d + 1) (h := hup (mh h (cf (h (14, 0)) (T (flg V u))) (pf M g (flg V u))) (15, 0) s) (M := M) (by rw [h12_15, mh_12]) hg hi hr ha
    rw [mh_15, mh_mh] at ht
    have hsR := hag.eS hI2.1
    have hfa := flg_agr (tkW V) u1
    have hsv := (flg_inv ha).1.1
    have ev3 : flg (tkW V) u1 3 = V 3 := by rw [hfa.hdr (by decide), e3]
    have evl : flg (tkW V) u1 (8 * V 3 + b / 8) / 4 = V (8 * V 3 + b / 8) / 4 := by
      have h1 := hfa.tb4 ha.1 act_tb hi8
      rw [e3, t1] at h1
      exact h1
    have hst := m_settle (d := d + 2) (h := mh (hup h (15, 0) s) f1 (pf M g (fun p => if p / 8 = tkC V then dat (p % 8) else up (flg (tkW V) u1) (8 * (V (8 * V 3 + b / 8) / 4) + b % 8) (4 * tkC V) p))) (M := M) mh_12 hg hsR
    rw [mh_mh, mh_14, pf_congr (stl_agr hI2 hag), flg_u hI2 hi'] at hst
    obtain ⟨f2, hf2⟩ : ∃ f2, f2 = cf f1 (T (fun p => if p / 8 = tkC V then dat (p % 8) else up (flg (tkW V) u1) (8 * (V (8 * V 3 + b / 8) / 4) + b % 8) (4 * tkC V) p)) := ⟨_, rfl⟩
    rw [← hf2] at hst
    obtain ⟨c, hc⟩ : ∃ c, c = tkC V := ⟨_, rfl⟩
    obtain ⟨l, hld⟩ : ∃ l, l = V (8 * V 3 + b / 8) / 4 := ⟨_, rfl⟩
    simp only [← hc, ← hld] at ht hst hC1 hC2 hC3 hl hlne hl64 evl
    have hev3 : flg V u 3 = V 3 := (flg_agr V u).hdr (by decide)
    have hact := hi.1.act
    refine ⟨f2, s, ?_⟩
    refine rnN 3 rfl ?_
    refine rnK rfl (hlc) ?_
    refine rnN 4 rfl ?_
    refine rnK rfl (m_table (n := 0) mh_12 hg hsf.l6 (by decide)) ?_
    rw [show tbn (flg V u) 0 = flg V u 3 from rfl]
    refine rnN 3 rfl ?_
    obtain ⟨H, hH⟩ : ∃ H, H = mh h (cf (h (14, 0)) (T (flg V u))) (pf M g (flg V u)) := ⟨_, rfl⟩
    have hH12 : H (12, 0) = E (pf M g (flg V u)) := by rw [hH, mh_12]
    have hH15 : H (15, 0) = h (15, 0) := by rw [hH]; exact mh_o (by decide) (by decide)
    have hHs : hup H (15, 0) s = mh (hup h (15, 0) s) (cf (h (14, 0)) (T (flg V u))) (pf M g (flg V u)) := by rw [hH, mh_15]
    rw [← hH]
    refine rnH (hup_self (f := fun k => if k < 0 then nI (dat k) else h (15, 0) k) (by rw [hH15]; funext k; rw [if_neg (by omega)])).symm ?_
    refine lpN 8 (fun k => Rn (d + 6) MX4_own 39 [some (vR (4, 0)), some (vI (nI g)), some (vI (jm nb)), some (vI (nI b)), some (vI (nI n)), some (vI (nI (512 * g + 8 * flg V u 3))), some (vI (nI k)), none, none] [] (hup H (15, 0) fun k2 => if k2 < k then nI (dat k2) else h (15, 0) k2) (some (vI (nI (n + 1)))) (mh (hup h (15, 0) s) f2 (pf M g (flg (gC V b dat) u')))) (fun k hk K => ?_) ?_
    · refine rnN 2 rfl ?_
      refine rnT (nI_lt hk (by decide)) rfl ?_
      refine rnN 9 rfl ?_
      refine rnK rfl (m_shows (W := W) (U := U) ((h12_15).trans hH12) hg hsf act_tb (show b < 64 by omega) hk hnb hW) ?_
      rw [fl_dat hi.1 (by omega) hk, ← hdat]
      refine rnC (inN (show k < 8 by omega) (by decide)) rfl ?_
      simp (disch := omega) only [nI_add, pk_mul, pk_sub, nd8, nd4, nsub8, nand63, nand7, nshr2, nI_clamp, E_at, hup_at, hup_hup, hpt_def, pf_at, pf_at2, cf_at, h12_14, h14_12, h12_15, h15_12, h14_15, h15_14]
      refine rnN 2 rfl ?_
      simp (disch := omega) only [nI_add, pk_mul, pk_sub, nd8, nd4, nsub8, nand63, nand7, nshr2, nI_clamp, E_at, hup_at, hup_hup, hpt_def, pf_at, pf_at2, cf_at, h12_14, h14_12, h12_15, h15_12, h14_15, h15_14]
      refine rnH ?_ K
      congr 1
      funext k2
      simp only [upd]
      by_cases e : k2 = k
      · rw [if_pos e, if_pos (by omega), e]
      · rw [if_neg e]
        by_cases e2 : k2 < k
        · rw [if_pos e2, if_pos (by omega)]
        · rw [if_neg e2, if_neg (by omega)]
    · rw [← hs, hHs]
      refine rnN 3 rfl ?_
      refine rnN 2 rfl ?_
      refine rnK rfl (ht) ?_
      refine rnN 2 rfl ?_
      refine rnF (nI_pos (show c < 2147483648 by omega)) rfl ?_
      refine rnN 4 rfl ?_
      have hslot := m_slot (d := d + 4) (h := mh (hup h (15, 0) s) f1 (pf M g (flg (tkW V) u1))) (M := M) (g := g) (b := b) mh_12 hg hsv act_tb (by omega)
      rw [ev3, evl, if_neg hl] at hslot
      rw [hev3]
      refine rnK rfl (hslot) ?_
      refine rnN 7 rfl ?_
      simp (disch := omega) only [nI_add, pk_mul, pk_sub, nd8, nd4, nsub8, nand63, nand7, nshr2, nI_clamp, E_at, hup_at, hup_hup, hpt_def, pf_at, pf_at2, cf_at, h12_14, h14_12, h12_15, h15_12, h14_15, h15_14]
      refine rnC (inN (show 512 * g + 8 * l + b % 8 < 2048 by omega) (by decide)) rfl ?_
      simp (disch := omega) only [nI_clamp, mhpt]
      rw [show 512 * g + 8 * l + b % 8 = 512 * g + (8 * l + b % 8) by omega, pf_up (show 8 * l + b % 8 < 512 by omega)]
      refine rnN 2 rfl ?_
      have e0 : pf M g (up (flg (tkW V) u1) (8 * l + b % 8) (4 * c)) = pf M g fun p => if p / 8 = c ∧ p % 8 < 0 then dat (p % 8) else up (flg (tkW V) u1) (8 * l + b % 8) (4 * c) p := pf_congr fun p _ => by rw [if_neg (by omega)]
      rw [e0]
      refine lpN 8 (fun k => Rn (d + 6) MX4_own 110 [some (vR (4, 0)), some (vI (nI g)), some (vI (jm nb)), some (vI (nI b)), some (vI (nI n)), some (vI (nI (512 * g + 8 * V 3))), some (vI (nI c)), some (vI (nI (512 * g + (8 * l + b % 8)))), some (vI (nI k))] [] (mh (hup h (15, 0) s) f1 (pf M g fun p => if p / 8 = c ∧ p % 8 < k then dat (p % 8) else up (flg (tkW V) u1) (8 * l + b % 8) (4 * c) p)) (some (vI (nI (n + 1)))) (mh (hup h (15, 0) s) f2 (pf M g (flg (gC V b dat) u')))) (fun k hk K => ?_) ?_
      · refine rnN 2 rfl ?_
        refine rnT (nI_lt hk (by decide)) rfl ?_
        refine rnN 4 rfl ?_
        refine rnK rfl (m_at) ?_
        refine rnN 5 rfl ?_
        refine rnC (inN (show k < 8 by omega) (by decide)) rfl ?_
        simp (disch := omega) only [nI_add, pk_mul, pk_sub, nd8, nd4, nsub8, nand63, nand7, nshr2, nI_clamp, E_at, hup_at, hup_hup, hpt_def, pf_at, pf_at2, cf_at, h12_14, h14_12, h12_15, h15_12, h14_15, h15_14]
        rw [mh_o (by decide) (by decide), hup_at, show s k = nI (dat k) by rw [hs]; exact if_pos hk]
        refine rnC (inN (show 512 * g + 8 * c + k < 2048 by omega) (by decide)) rfl ?_
        simp (disch := omega) only [nI_clamp, mhpt]
        rw [show 512 * g + 8 * c + k = 512 * g + (8 * c + k) by omega, pf_up (show 8 * c + k < 512 by omega)]
        refine rnN 2 rfl ?_
        simp (disch := omega) only [nI_add, pk_mul, pk_sub, nd8, nd4, nsub8, nand63, nand7, nshr2, nI_clamp, E_at, hup_at, hup_hup, hpt_def, pf_at, pf_at2, cf_at, h12_14, h14_12, h12_15, h15_12, h14_15, h15_14]
        refine rnH ?_ K
        congr 2
        funext p
        simp only [up]
        by_cases e : p = 8 * c + k
        · rw [if_pos e, if_pos (by omega), e, ix_mod hk]
        · rw [if_neg e]
          by_cases e2 : p / 8 = c ∧ p % 8 < k
          · rw [if_pos e2, if_pos (show p / 8 = c ∧ p % 8 < k + 1 by omega)]
          · rw [if_neg e2, if_neg (show ¬ (p / 8 = c ∧ p % 8 < k + 1) by omega)]
      · refine rnN 3 rfl ?_
        refine rnN 2 rfl ?_
        have e1 : pf M g (fun p => if p / 8 = c ∧ p % 8 < 8 then dat (p % 8) else up (flg (tkW V) u1) (8 * l + b % 8) (4 * c) p) = pf M g (fun p => if p / 8 = c then dat (p % 8) else up (flg (tkW V) u1) (8 * l + b % 8) (4 * c) p) := pf_congr fun p _ => by
          by_cases e2 : p / 8 = c
          · rw [if_pos e2, if_pos ⟨e2, by omega⟩]
          · rw [if_neg e2, if_neg (fun z => e2 z.1)]
        rw [e1]
        refine rnK rfl (hst) ?_
        refine rnN 3 rfl ?_
        simp (disch := omega) only [nI_add, pk_mul, pk_sub, nd8, nd4, nsub8, nand63, nand7, nshr2, nI_clamp, E_at, hup_at, hup_hup, hpt_def, pf_at, pf_at2, cf_at, h12_14, h14_12, h12_15, h15_12, h14_15, h15_14]
        exact rnR rfl
theorem m_own {b nb : Nat} (hw : h (12, 0) = E (pf M g (flg V u))) (hg : g < 4) (hi : Inv V u) (hb : b < V 2) (hr1 : nLeaf V b ≤ rm V) (hr2 : nClus V b ≤ rm (gL V b)) (hnb : nb ≤ 3) (hW : ∀ j, j < nb → j ≠ g ∧ Str (W j) (U j) ∧ ∀ p, p < 512 → M (512 * j + p) = W j p) (hWb : ∀ j p, W j p < 4294967296)
    (hi' : Inv (gC (gL V b) b (datm (gL V b) W nb b)) u') : ∃ f' s', Cl (d + 6) MX4_own [vR (4, 0), vI (nI g), vI (jm nb), vI (nI b)] h (some (vI (nI (nLeaf V b + nClus V b)))) (mh (hup h (15, 0) s') f' (pf M g (flg (gC (gL V b) b (datm (gL V b) W nb b)) u'))) := by
  obtain ⟨u1, hI, hu, ho, hrm, haw, hT, hH, hO⟩ := gL_spec hi hb hr1
  have hcl := gL_clus hi hb hr1
  obtain ⟨f1, hol⟩ := m_ownLeaf (d := d) (M := M) hw hg hi hb hr1 hI
  obtain ⟨f2, s, htl⟩ := own_tail (d := d) (h := mh h f1 (pf M g (flg (gL V b) u1))) (M := M) (n := nLeaf V b) mh_12 hg hI (by rw [hH 2 (by decide)]; exact hb) ho (by rw [hcl]; exact hr2) hnb hW hWb hi'
  rw [mh_15, mh_mh, hcl] at htl
  have hle := nLeaf_le V b
  refine ⟨f2, s, ?_⟩
  refine rnN 3 rfl ?_
  refine rnK rfl (hol) ?_
  refine rnN 3 rfl ?_
  refine rnT (nI_lt (show nLeaf V b < 1000 by omega) (by decide)) rfl ?_
  exact htl
end MO2
end
section
/-! ===== the reference: own and drop without room; drop ===== -/
section MD
variable {d g : Nat} {h : xH} {M N w V u u' : Nat → Nat} {f : Nat → Int32} {W U : Nat → Nat → Nat}
theorem m_ownF1 {b nb : Nat} (hw : h (12, 0) = E (pf M g (flg V u))) (hg : g < 4) (hi : Inv V u) (hb : b < V 2) (hr : ¬ nLeaf V b ≤ rm V) : ∃ f', Cl (d + 6) MX4_own [vR (4, 0), vI (nI g), vI (jm nb), vI (nI b)] h (some (vI (nI 1000))) (mh h f' (pf M g (flg V u))) := by
  obtain ⟨f1, hol⟩ := m_ownLeafF (d := d) (M := M) hw hg hi hb hr
  refine ⟨f1, ?_⟩
  refine rnN 3 rfl ?_
  refine rnK rfl (hol) ?_
  refine rnN 5 rfl ?_
  exact rnR rfl
theorem m_ownF2 {b nb : Nat} (hw : h (12, 0) = E (pf M g (flg V u))) (hg : g < 4) (hi : Inv V u) (hb : b < V 2) (hr1 : nLeaf V b ≤ rm V) (hr2 : ¬ nClus V b ≤ rm (gL V b)) (hnb : nb ≤ 3) (hW : ∀ j, j < nb → j ≠ g ∧ Str (W j) (U j) ∧ ∀ p, p < 512 → M (512 * j + p) = W j p) :
    ∃ f' s' u1, Inv (gL V b) u1 ∧ Cl (d + 6) MX4_own [vR (4, 0), vI (nI g), vI (jm nb), vI (nI b)] h (some (vI (nI 1000))) (mh (hup h (15, 0) s') f' (pf M g (flg (gL V b) u1))) := by
  obtain ⟨u1, hI, hu, ho, hrm, haw, hT, hH, hO⟩ := gL_spec hi hb hr1
  have hcl := gL_clus hi hb hr1
  obtain ⟨f1, hol⟩ := m_ownLeaf (d := d) (M := M) hw hg hi hb hr1 hI
  have hle := nLeaf_le V b
  have hle2 := nClus_le V b
  have hb64 := hi.1.sz.2
  have hsf := (flg_inv hI).1.1
  have hlc := m_lacksCluster (d := d + 2) (h := mh h f1 (pf M g (flg (gL V b) u1))) (M := M) mh_12 hg hsf (show b < 64 by omega)
  rw [fl_nClus hI (by omega), hcl, show nClus V b = 1 by omega, mh_mh, mh_14] at hlc
  obtain ⟨f2, hf2⟩ : ∃ f2, f2 = cf f1 (T (flg (gL V b) u1)) := ⟨_, rfl⟩
  rw [← hf2] at hlc
  obtain ⟨s, hs⟩ : ∃ s : Nat → Int32, s = fun k => if k < 8 then nI (datm (gL V b) W nb b k) else h (15, 0) k := ⟨_, rfl⟩
  obtain ⟨f3, ht⟩ := m_takeF (d := d + 1) (h := hup (mh h f2 (pf M g (flg (gL V b) u1))) (15, 0) s) (M := M) (by rw [h12_15, mh_12]) hg hI (by omega)
  rw [mh_15, mh_mh] at ht
  obtain ⟨H, hH2⟩ : ∃ H, H = mh h f2 (pf M g (flg (gL V b) u1)) := ⟨_, rfl⟩
  have hH12 : H (12, 0) = E (pf M g (flg (gL V b) u1)) := by rw [hH2, mh_12]
  have hH15 : H (15, 0) = h (15, 0) := by rw [hH2]; exact mh_o (by decide) (by decide)
  have hHs : hup H (15, 0) s = mh (hup h (15, 0) s) f2 (pf M g (flg (gL V b) u1)) := by rw [hH2, mh_15]
  refine ⟨f3, s, u1, hI, ?_⟩
  refine rnN 3 rfl ?_
  refine rnK rfl (hol) ?_
  refine rnN 3 rfl ?_
  refine rnT (nI_lt (show nLeaf V b < 1000 by omega) (by decide)) rfl ?_
  refine rnN 3 rfl ?_
  refine rnK rfl (hlc) ?_
  refine rnN 4 rfl ?_
  refine rnK rfl (m_table (n := 0) mh_12 hg hsf.l6 (by decide)) ?_
  rw [show tbn (flg (gL V b) u1) 0 = flg (gL V b) u1 3 from rfl]
  refine rnN 3 rfl ?_
  rw [← hH2]
  refine rnH (hup_self (f := fun k => if k < 0 then nI (datm (gL V b) W nb b k) else h (15, 0) k) (by rw [hH15]; funext k; rw [if_neg (by omega)])).symm ?_
  refine lpN 8 (fun k => Rn (d + 6) MX4_own 39 [some (vR (4, 0)), some (vI (nI g)), some (vI (jm nb)), some (vI (nI b)), some (vI (nI (nLeaf V b))), some (vI (nI (512 * g + 8 * flg (gL V b) u1 3))), some (vI (nI k)), none, none] [] (hup H (15, 0) fun k2 => if k2 < k then nI (datm (gL V b) W nb b k2) else h (15, 0) k2) (some (vI (nI 1000))) (mh (hup h (15, 0) s) f3 (pf M g (flg (gL V b) u1)))) (fun k hk K => ?_) ?_
  · refine rnN 2 rfl ?_
    refine rnT (nI_lt hk (by decide)) rfl ?_
    refine rnN 9 rfl ?_
    refine rnK rfl (m_shows (W := W) (U := U) ((h12_15).trans hH12) hg hsf act_tb (show b < 64 by omega) hk hnb hW) ?_
    rw [fl_dat hI.1 (by omega) hk]
    refine rnC (inN (show k < 8 by omega) (by decide)) rfl ?_
    simp (disch := omega) only [nI_add, pk_mul, pk_sub, nd8, nd4, nsub8, nand63, nand7, nshr2, nI_clamp, E_at, hup_at, hup_hup, hpt_def, pf_at, pf_at2, cf_at, h12_14, h14_12, h12_15, h15_12, h14_15, h15_14]
    refine rnN 2 rfl ?_
    simp (disch := omega) only [nI_add, pk_mul, pk_sub, nd8, nd4, nsub8, nand63, nand7, nshr2, nI_clamp, E_at, hup_at, hup_hup, hpt_def, pf_at, pf_at2, cf_at, h12_14, h14_12, h12_15, h15_12, h14_15, h15_14]
    refine rnH ?_ K
    congr 1
    funext k2
    simp only [upd]
    by_cases e : k2 = k
    · rw [if_pos e, if_pos (by omega), e]
    · rw [if_neg e]
      by_cases e2 : k2 < k
      · rw [if_pos e2, if_pos (by omega)]
      · rw [if_neg e2, if_neg (by omega)]
  · rw [← hs, hHs]
    refine rnN 3 rfl ?_
    refine rnN 2 rfl ?_
    refine rnK rfl (ht) ?_
    refine rnN 4 rfl ?_
    exact rnR rfl
/-- a block made zero: the reference's words ahead of its settling agree with the class's -/
theorem mz_agr (hi : Inv V u) {b : Nat} (hb : b < V 2) (ho : ow V (V (8 * V 3 + b / 8)) = true) : Agr (up (flg V u) (8 * (V (8 * V 3 + b / 8) / 4) + b % 8) 2) (mzF V b) u := by
  obtain ⟨⟨hI, hT⟩, hH⟩ := mzF_specT hi hb ho
  have hs := hi.1
  have hb64 := hs.sz.2
  obtain ⟨hl, hown⟩ := ow_iff.mp ho
  have hi8 : b / 8 < 8 := by omega
  have hj8 : b % 8 < 8 := by omega
  have hlL := (hs.tw act_tb hi8).lead hl
  have hlp := hlL.1.pos
  have hBB := hlL.2.2.2 (b % 8) hj8
  obtain ⟨l, hld⟩ : ∃ l, l = V (8 * V 3 + b / 8) / 4 := ⟨_, rfl⟩
  have hdef : mzF V b = if V (8 * l + b % 8) / 4 = 0 then up V (8 * l + b % 8) 2 else adc (up V (8 * l + b % 8) 2) (V (8 * l + b % 8) / 4) (T V (V (8 * l + b % 8) / 4) - 1) := by
    rw [hld]
    rfl
  simp only [← hld] at hT hBB hlp hlL hown ⊢
  -- the words but the block's own
  have hw : ∀ p, p ≠ 8 * l + b % 8 → ¬ kp V p → T (mzF V b) (p / 8) ≠ 0 → mzF V b p = V p := by
    intro p h1 h2 h3
    rw [hdef]
    by_cases h0 : V (8 * l + b % 8) / 4 = 0
    · rw [if_pos h0]
      exact up_ne h1
    · rw [if_neg h0]
      have hyL := hBB.lead h0
      have hyp := hyL.1.pos
      obtain ⟨y, hy⟩ : ∃ y, y = V (8 * l + b % 8) / 4 := ⟨_, rfl⟩
      rw [← hy] at h0 hyL hyp ⊢
      have hTy := hT y
      have hldy : ld (V (8 * l + b % 8)) y = 1 := by
        unfold ld
        rw [← hy, if_neg h0, iv_self]
      rw [hldy] at hTy
      have hky : V (8 * V 4 + y / 8) ≠ 0 := fun e => by have := hi.noK hyp.2 e; omega
      have e4 : up V (8 * l + b % 8) 2 4 = V 4 := up_ne (by omega)
      have ek : up V (8 * l + b % 8) 2 (8 * V 4 + y / 8) = V (8 * V 4 + y / 8) := up_ne (fun e => by
        have e2 : V 4 = l := by omega
        have := hs.ct
        rw [e2] at this
        omega)
      have ec : cpl (up V (8 * l + b % 8) 2) y = cpl V y := by unfold cpl; rw [e4, ek]
      have hpc : p ≠ cpl V y := fun e => h2 (by rw [e]; exact cpl_kp hyp.2 hky)
      unfold adc
      by_cases h5 : T V y - 1 = 0
      · rw [if_pos h5]
        have hpy : p / 8 ≠ y := fun e => by rw [e] at h3; omega
        unfold zc
        rw [if_neg hpy, setc_up, ec, up_ne hpc, up_ne h1]
      · rw [if_neg h5, setc_up, ec, up_ne hpc, up_ne h1]
  have hq : mzF V b (8 * l + b % 8) = 2 := by
    rw [hdef]
    by_cases h0 : V (8 * l + b % 8) / 4 = 0
    · rw [if_pos h0]
      exact up_at
    · rw [if_neg h0]
      have hyL := hBB.lead h0
      have hyp := hyL.1.pos
      have hky : V (8 * V 4 + V (8 * l + b % 8) / 4 / 8) ≠ 0 := fun e => by
        have := hi.noK hyp.2 e
        have h1 := T_blk (w := V) act_tb hi8 hj8 hl (by rw [← hld]; exact h0)
        rw [← hld] at h1
        omega
      have hin := cpl_in hs hyp.2 hky
      have e4 : up V (8 * l + b % 8) 2 4 = V 4 := up_ne (by omega)
      have ek : up V (8 * l + b % 8) 2 (8 * V 4 + V (8 * l + b % 8) / 4 / 8) = V (8 * V 4 + V (8 * l + b % 8) / 4 / 8) := up_ne (fun e => by
        have e2 : V 4 = l := by omega
        have := hs.ct
        rw [e2] at this
        omega)
      have ec : cpl (up V (8 * l + b % 8) 2) (V (8 * l + b % 8) / 4) = cpl V (V (8 * l + b % 8) / 4) := by unfold cpl; rw [e4, ek]
      have hpc : 8 * l + b % 8 ≠ cpl V (V (8 * l + b % 8) / 4) := fun e => by rw [← e, ix_div hj8] at hin; omega
      have hly : l ≠ V (8 * l + b % 8) / 4 := fun e => by have := hlL.2.2.1; rw [e] at this; omega
      unfold adc
      split
      · unfold zc
        rw [ix_div hj8, if_neg hly, setc_up, ec, up_ne hpc, up_at]
      · rw [setc_up, ec, up_ne hpc, up_at]
  intro p hTp hu
  by_cases e1 : p = 8 * l + b % 8
  · left
    rw [e1, up_at, hq]
  · rw [up_ne e1]
    have hTv : T V (p / 8) ≠ 0 := fun e => by have := hT (p / 8); omega
    have hnk : ¬ kp V p := by
      rcases hu with hu | hu
      · exact nk0 (by omega)
      · exact hs.nk hu
    rw [hw p e1 hnk hTp]
    exact flg_agr V u p hTv hu
theorem dch_ne {nb y : Nat} (h : dch nb y = true) (hy : y / 4 = 0 → y = 0 ∨ y = 2) : y ≠ 2 ∧ (y = 0 → nb ≠ 0) := by
  have h1 := of_decide_eq_true h
  constructor
  · intro e
    omega
  · intro e
    omega
theorem m_drop0 {b nb : Nat} (hw : h (12, 0) = E (pf M g (flg V u))) (hg : g < 4) (hi : Inv V u) (hb : b < V 2) (hnb : nb ≤ 3) (hd : ¬ dch nb (awd V b) = true) : Cl (d + 6) MX4_drop [vR (4, 0), vI (nI g), vI (jm nb), vI (nI b)] h (some (vI (nI 0))) h := by
  have hb64 := hi.1.sz.2
  have hsf := (flg_inv hi).1.1
  have hB := hi.1.bok act_tb (show b < 64 by omega)
  have hfa := fl_aw hi.1 (show b < 64 by omega)
  have h4 : awd V b / 4 = 0 := Classical.byContradiction fun e => hd (decide_eq_true (Or.inl e))
  have hfe := hfa.2 h4
  refine rnN 3 rfl ?_
  refine rnK rfl (m_table (n := 0) hw hg hsf.l6 (by decide)) ?_
  rw [show tbn (flg V u) 0 = flg V u 3 from rfl]
  refine rnN 5 rfl ?_
  refine rnK rfl (m_entry hw hg hsf act_tb (show b < 64 by omega)) ?_
  rw [show bwd (flg V u) (flg V u 3) b = awd (flg V u) b from rfl, hfe]
  refine rnN 3 rfl ?_
  rcases hB.flat h4 with e | e
  · have e : awd V b = 0 := e
    have en : nb = 0 := Classical.byContradiction fun e2 => hd (decide_eq_true (Or.inr ⟨e, e2⟩))
    rw [e, en]
    refine rnN 6 rfl ?_
    exact rnR rfl
  · have e : awd V b = 2 := e
    rw [e]
    refine rnN 2 rfl ?_
    exact rnR rfl
/-- drop, up to its taking of a leaf -/
theorem drop_head {b nb : Nat} {r : Option xV} {hf : xH} (hw : h (12, 0) = E (pf M g (flg V u))) (hg : g < 4) (hi : Inv V u) (hb : b < V 2) (hnb : nb ≤ 3) (hd : dch nb (awd V b) = true)
    (K : Rn (d + 6) MX4_drop 35 [some (vR (4, 0)), some (vI (nI g)), some (vI (jm nb)), some (vI (nI b)), some (vI (nI (512 * g + 8 * flg V u 3))), some (vI (nI (awd (flg V u) b))), none, none] [] h r hf) : Cl (d + 6) MX4_drop [vR (4, 0), vI (nI g), vI (jm nb), vI (nI b)] h r hf := by
  have hb64 := hi.1.sz.2
  have hsf := (flg_inv hi).1.1
  have hB := hi.1.bok act_tb (show b < 64 by omega)
  have hBf := (hsf.bok act_tb (show b < 64 by omega)).lt
  have hBf : awd (flg V u) b < 256 := hBf
  have hfa := fl_aw hi.1 (show b < 64 by omega)
  have hne := dch_ne hd (fun e => hB.flat e)
  have h2 : awd (flg V u) b ≠ 2 := fun e => by
    have h4 : awd V b / 4 = 0 := by omega
    rw [hfa.2 h4] at e
    exact hne.1 e
  refine rnN 3 rfl ?_
  refine rnK rfl (m_table (n := 0) hw hg hsf.l6 (by decide)) ?_
  rw [show tbn (flg V u) 0 = flg V u 3 from rfl]
  refine rnN 5 rfl ?_
  refine rnK rfl (m_entry hw hg hsf act_tb (show b < 64 by omega)) ?_
  rw [show bwd (flg V u) (flg V u 3) b = awd (flg V u) b from rfl]
  refine rnN 3 rfl ?_
  refine rnF ((show ¬ nI (awd (flg V u) b) = nI 2 from fun e => h2 ((neq (by omega) (by decide)).mp e))) rfl ?_
  refine rnN 1 rfl ?_
  by_cases h0 : awd (flg V u) b = 0
  · have h4 : awd V b / 4 = 0 := by omega
    have hv0 : awd V b = 0 := by rw [← hfa.2 h4]; exact h0
    have hnb0 := hne.2 hv0
    obtain ⟨n, rfl⟩ : ∃ n, nb = n + 1 := ⟨nb - 1, by omega⟩
    refine rnT ((show nI (awd (flg V u) b) = 0 by rw [h0]; rfl)) rfl ?_
    refine rnN 1 rfl ?_
    refine rnF ((show ¬ jm (n + 1) < 0 from nI_pos (show n < 2147483648 by omega))) rfl ?_
    exact K
  · refine rnF (nI_ne0 (Nat.pos_of_ne_zero h0) (by omega)) rfl ?_
    exact K
theorem m_dropF {b nb : Nat} (hw : h (12, 0) = E (pf M g (flg V u))) (hg : g < 4) (hi : Inv V u) (hb : b < V 2) (hnb : nb ≤ 3) (hd : dch nb (awd V b) = true) (hr : ¬ nLeaf V b ≤ rm V) : ∃ f', Cl (d + 6) MX4_drop [vR (4, 0), vI (nI g), vI (jm nb), vI (nI b)] h (some (vI (nI 1000))) (mh h f' (pf M g (flg V u))) := by
  obtain ⟨f1, hol⟩ := m_ownLeafF (d := d) (M := M) hw hg hi hb hr
  refine ⟨f1, drop_head hw hg hi hb hnb hd ?_⟩
  refine rnN 3 rfl ?_
  refine rnK rfl (hol) ?_
  refine rnN 5 rfl ?_
  exact rnR rfl
theorem m_drop {b nb : Nat} (hw : h (12, 0) = E (pf M g (flg V u))) (hg : g < 4) (hi : Inv V u) (hb : b < V 2) (hnb : nb ≤ 3) (hd : dch nb (awd V b) = true) (hr : nLeaf V b ≤ rm V) (hi' : Inv (mzF (gL V b) b) u') : ∃ f', Cl (d + 6) MX4_drop [vR (4, 0), vI (nI g), vI (jm nb), vI (nI b)] h (some (vI (nI (nLeaf V b)))) (mh h f' (pf M g (flg (mzF (gL V b) b) u'))) := by
  obtain ⟨u1, hI, hu, ho, hrm, haw, hT, hH, hO⟩ := gL_spec hi hb hr
  obtain ⟨f1, hol⟩ := m_ownLeaf (d := d) (M := M) hw hg hi hb hr hI
  have hle := nLeaf_le V b
  have hb64 := hi.1.sz.2
  have hb2 : b < gL V b 2 := by rw [hH 2 (by decide)]; exact hb
  have hag := mz_agr hI hb2 ho
  have hI2 := (mzF_spec hI hb2 ho).1
  have hsf := (flg_inv hI).1.1
  have hsR := hag.eS hI2.1
  have hfa := flg_agr (gL V b) u1
  have e3 : flg (gL V b) u1 3 = gL V b 3 := hfa.hdr (by decide)
  have e3V : flg V u 3 = gL V b 3 := by rw [(flg_agr V u).hdr (by decide), hH 3 (by decide)]
  have el : flg (gL V b) u1 (8 * gL V b 3 + b / 8) / 4 = gL V b (8 * gL V b 3 + b / 8) / 4 := hfa.tb4 hI.1 act_tb (by omega)
  obtain ⟨hl, hown⟩ := ow_iff.mp ho
  have hlp := ((hI.1.tw act_tb (show b / 8 < 8 by omega)).lead hl).1.pos
  have hst := m_settle (d := d + 2) (h := mh h f1 (pf M g (up (flg (gL V b) u1) (8 * (gL V b (8 * gL V b 3 + b / 8) / 4) + b % 8) 2))) (M := M) mh_12 hg hsR
  rw [mh_mh, mh_14, pf_congr (stl_agr hI2 hag), flg_u hI2 hi'] at hst
  have hslot := m_slot (d := d + 4) (h := mh h f1 (pf M g (flg (gL V b) u1))) (M := M) (g := g) (b := b) mh_12 hg hsf act_tb (by omega)
  rw [e3, el, if_neg hl] at hslot
  refine ⟨cf f1 (T (up (flg (gL V b) u1) (8 * (gL V b (8 * gL V b 3 + b / 8) / 4) + b % 8) 2)), drop_head hw hg hi hb hnb hd ?_⟩
  rw [e3V]
  refine rnN 3 rfl ?_
  refine rnK rfl (hol) ?_
  refine rnN 3 rfl ?_
  refine rnT (nI_lt (show nLeaf V b < 1000 by omega) (by decide)) rfl ?_
  refine rnN 4 rfl ?_
  refine rnK rfl (hslot) ?_
  refine rnN 5 rfl ?_
  refine rnC (inN (show 512 * g + 8 * (gL V b (8 * gL V b 3 + b / 8) / 4) + b % 8 < 2048 by omega) (by decide)) rfl ?_
  simp (disch := omega) only [nI_clamp, mhpt]
  rw [show 512 * g + 8 * (gL V b (8 * gL V b 3 + b / 8) / 4) + b % 8 = 512 * g + (8 * (gL V b (8 * gL V b 3 + b / 8) / 4) + b % 8) by omega, pf_up (show 8 * (gL V b (8 * gL V b 3 + b / 8) / 4) + b % 8 < 512 by omega)]
  refine rnN 2 rfl ?_
  refine rnK rfl (hst) ?_
  refine rnN 1 rfl ?_
  exact rnR rfl
end MD
end
section
/-! ===== the class and the reference side by side ===== -/
/-- images 0 .. k: the class's words are W, the reference's too; U tells what the clusters are led to for -/
def SI (k : Nat) (W U : Nat → Nat → Nat) (h : xH) : Prop :=
  k < 3 ∧ (∀ j, j ≤ k → h (10, j) = E (W j) ∧ Inv (W j) (U j) ∧ flg (W j) (U j) = W j ∧ (W j 5 = 0 → W j 6 = 0)) ∧ (∀ j, j < k → W j 2 ≤ W (j + 1) 2) ∧ (∀ j p, W j p < 4294967296) ∧ h (3, 0) 1 = nI (k + 1) ∧ h (4, 0) 2 = nI (k + 1)
    ∧ (∃ M, h (12, 0) = E M ∧ ∀ j p, j ≤ k → p < 512 → M (512 * j + p) = W j p) ∧ ∀ p, p < 512 → h (10, 3) p = h (13, 0) p
/-- a call on both: they answer alike, and stay side by side -/
def OpOK (m3 m4 : Nat) (as : List xV) (h : xH) : Prop := ∃ r h1 h2 k W U, Cl 8 m3 (vR (3, 0) :: as) h (some r) h1 ∧ Cl 8 m4 (vR (4, 0) :: as) h1 (some r) h2 ∧ SI k W U h2
section SIS
variable {d k : Nat} {h : xH} {M : Nat → Nat} {W U : Nat → Nat → Nat} {f s : Nat → Int32}
theorem inv_512 {w v u : Nat → Nat} (hi : Inv w u) : Agr w w u := Agr.refl
/-- the top image's words change -/
theorem SI_upd {w' u' : Nat → Nat} (S : SI k W U h) (hI : Inv w' u') (hf : flg w' u' = w') (h60 : w' 5 = 0 → w' 6 = 0) (h2 : W k 2 ≤ w' 2) (hM : ∀ j p, j ≤ k → p < 512 → M (512 * j + p) = W j p) : SI k (setW W k w') (setW U k u') (mh (hup (hup h (10, k) (E w')) (15, 0) s) f (pf M k w')) := by
  obtain ⟨a1, a2, a3, a4, a5, a6, -, a8⟩ := S
  have hne : ∀ q : xP, q ≠ (12, 0) → q ≠ (14, 0) → q ≠ (15, 0) → q ≠ (10, k) → mh (hup (hup h (10, k) (E w')) (15, 0) s) f (pf M k w') q = h q := fun q q1 q2 q3 q4 => by
    rw [mh_o q1 q2, hup_ne q3, hup_ne q4]
  have ek : mh (hup (hup h (10, k) (E w')) (15, 0) s) f (pf M k w') (10, k) = E w' := by
    rw [mh_o (fun e => by injection e with e1 e2; omega) (fun e => by injection e with e1 e2; omega), hup_ne (fun e => by injection e with e1 e2; omega), hup_at]
  refine ⟨a1, fun j hj => ?_, fun j hj => ?_, fun j p => ?_, ?_, ?_, ⟨pf M k w', mh_12, fun j p hj hp => ?_⟩, fun p hp => ?_⟩
  · by_cases e : j = k
    · rw [e, setW_at, setW_at]
      exact ⟨ek, hI, hf, h60⟩
    · rw [setW_ne e, setW_ne e, hne _ (fun e2 => by injection e2 with e1 e2; omega) (fun e2 => by injection e2 with e1 e2; omega) (fun e2 => by injection e2 with e1 e2; omega) (fun e2 => by injection e2 with e1 e2; omega)]
      exact a2 j hj
  · by_cases e : j + 1 = k
    · rw [e, setW_at, setW_ne (by omega)]
      have := a3 j (by omega)
      rw [e] at this
      omega
    · rw [setW_ne (by omega), setW_ne e]
      exact a3 j hj
  · unfold setW
    split
    · exact hI.2.2.2.2 p
    · exact a4 j p
  · rw [hne _ (by decide) (by decide) (by decide) (fun e2 => by injection e2 with e1 e2; omega)]
    exact a5
  · rw [hne _ (by decide) (by decide) (by decide) (fun e2 => by injection e2 with e1 e2; omega)]
    exact a6
  · by_cases e : j = k
    · rw [e, setW_at, pf_at hp]
    · rw [setW_ne e, pf_ne hp e]
      exact hM j p hj hp
  · rw [hne (10, 3) (by decide) (by decide) (by decide) (fun e2 => by injection e2 with e1 e2; omega), hne (13, 0) (by decide) (by decide) (by decide) (fun e2 => by injection e2 with e1 e2; omega)]
    exact a8 p hp
/-- counts alone change -/
theorem SI_cnt (S : SI k W U h) (hM : h (12, 0) = E M) : SI k W U (mh h f M) := by
  obtain ⟨a1, a2, a3, a4, a5, a6, ⟨M', m1, m2⟩, a8⟩ := S
  have hne : ∀ q : xP, q ≠ (14, 0) → mh h f M q = h q := fun q q2 => by
    by_cases q1 : q = (12, 0)
    · rw [q1, mh_12, hM]
    · rw [mh_o q1 q2]
  refine ⟨a1, fun j hj => ?_, a3, a4, ?_, ?_, ⟨M', ?_, m2⟩, fun p hp => ?_⟩
  · rw [hne _ (fun e2 => by injection e2 with e1 e2; omega)]
    exact a2 j hj
  · rw [hne _ (by decide)]; exact a5
  · rw [hne _ (by decide)]; exact a6
  · rw [hne _ (by decide)]; exact m1
  · rw [hne _ (by decide), hne _ (by decide)]
    exact a8 p hp
theorem SI.mem (S : SI k W U h) : ∃ M, h (12, 0) = E M ∧ (∀ j p, j ≤ k → p < 512 → M (512 * j + p) = W j p) ∧ (∀ j, j ≤ k → pf M j (W j) = M) := by
  obtain ⟨a1, a2, a3, a4, a5, a6, ⟨M, m1, m2⟩, a8⟩ := S
  exact ⟨M, m1, m2, fun j hj => pf_self fun p hp => m2 j p hj hp⟩
theorem c_top (hn : h (3, 0) 1 = nI (k + 1)) (hk : k < 3) : Cl d MX3_top [vR (3, 0)] h (some (vR (1, k))) h := by
  refine rnN 6 rfl ?_
  rw [hn, show nI (k + 1) - nI 1 = nI k by rw [pk_sub (by omega)]; congr 1]
  refine rnC (inN hk (by decide)) rfl ?_
  simp (disch := omega) only [nI_add, pk_mul, pk_sub, nd8, nd4, nsub8, nand63, nand7, nshr2, nI_clamp, E_at, hup_at, hup_hup, hpt_def, pf_at, pf_at2, cf_at, h12_14, h14_12, h12_15, h15_12, h14_15, h15_14]
  refine rnRC ?_ rfl
  rcases (show k = 0 ∨ k = 1 ∨ k = 2 by omega) with rfl | rfl | rfl <;> decide
theorem Cl_deep {n m mi : Nat} {as : List xV} {h h' : xH} {r : Option xV} (hnm : n ≤ m) (c : Cl n mi as h r h') : Cl m mi as h r h' := by
  induction hnm with
  | refl => exact c
  | step _ ih => exact ih.deep
theorem m_top (hn : h (4, 0) 2 = nI (k + 1)) : h (4, 0) 2 - nI 1 = nI k := by
  rw [hn, pk_sub (by omega)]
  congr 1
theorem m_isAddrT {a : Nat} {w : Nat → Nat} (hw : h (12, 0) = E (pf M k w)) (hn : h (4, 0) 2 = nI (k + 1)) (hk : k < 3) (h2 : w 2 ≤ 64) (ha : a < 8 * w 2) : Cl (d + 1) MX4_isAddress [vR (4, 0), vI (nI a)] h (some (vI (nI 1))) h := by
  refine rnN 1 rfl ?_
  refine rnF (nI_pos (show a < 2147483648 by omega)) rfl ?_
  refine rnN 7 rfl ?_
  rw [m_top hn]
  refine rnK rfl (m_sizeOf hw (show k < 4 by omega)) ?_
  refine rnN 1 rfl ?_
  simp (disch := omega) only [nI_add, pk_mul, pk_sub, nd8, nd4, nsub8, nand63, nand7, nshr2, nI_clamp, E_at, hup_at, hup_hup, hpt_def, pf_at, pf_at2, cf_at, h12_14, h14_12, h12_15, h15_12, h14_15, h15_14]
  refine rnT (nI_lt ha (by omega)) rfl ?_
  refine rnN 2 rfl ?_
  exact rnR rfl
theorem m_isAddrF {v : Int32} {w : Nat → Nat} (hw : h (12, 0) = E (pf M k w)) (hn : h (4, 0) 2 = nI (k + 1)) (hk : k < 3) (hv : v < 0 ∨ nI (8 * w 2) ≤ v) : Cl (d + 1) MX4_isAddress [vR (4, 0), vI v] h (some (vI (nI 0))) h := by
  refine rnN 1 rfl ?_
  by_cases h0 : v < 0
  · refine rnT (h0) rfl ?_
    refine rnN 1 rfl ?_
    exact rnR rfl
  · refine rnF (h0) rfl ?_
    refine rnN 7 rfl ?_
    rw [m_top hn]
    refine rnK rfl (m_sizeOf hw (show k < 4 by omega)) ?_
    refine rnN 1 rfl ?_
    simp (disch := omega) only [nI_add, pk_mul, pk_sub, nd8, nd4, nsub8, nand63, nand7, nshr2, nI_clamp, E_at, hup_at, hup_hup, hpt_def, pf_at, pf_at2, cf_at, h12_14, h14_12, h12_15, h15_12, h14_15, h15_14]
    refine rnF ((Int32.not_lt.mpr (hv.resolve_left h0))) rfl ?_
    refine rnN 1 rfl ?_
    exact rnR rfl
theorem gC_congr {V : Nat → Nat} {b : Nat} {dat dat' : Nat → Nat} (e : ∀ j, j < 8 → dat j = dat' j) : gC V b dat = gC V b dat' := by
  have h1 : (fun p => if p / 8 = tkC V then dat (p % 8) else setc (tkW V) (tkC V) 1 p) = fun p => if p / 8 = tkC V then dat' (p % 8) else setc (tkW V) (tkC V) 1 p := by
    funext p
    rw [e _ (Nat.mod_lt _ (by decide))]
  unfold gC gcF
  rw [h1]
theorem flg_data {V u : Nat → Nat} (hi : Inv V u) {c j x : Nat} (h1 : 1 ≤ c) (h2 : 24 ≤ u c) (h3 : T V c ≠ 0) (hj : j < 8) (hx : x < 4294967296) : Inv (up V (8 * c + j) x) u ∧ flg (up V (8 * c + j) x) u = up (flg V u) (8 * c + j) x := by
  obtain ⟨hI, hT⟩ := data_inv (v := up V (8 * c + j) x) hi h1 h2 h3 (fun p hp => up_ne (fun e => hp (by rw [e, ix_div hj]))) (fun p => by
    unfold up
    split
    · exact hx
    · exact hi.2.2.2.2 p)
  refine ⟨hI, ?_⟩
  funext p
  by_cases e : p = 8 * c + j
  · rw [e, up_at, flg_out (fun z => by rw [ix_div hj] at z; have := z.2.2; unfold TL at this; omega), up_at]
  · rw [up_ne e]
    by_cases e2 : 1 ≤ p / 8 ∧ p / 8 < 64 ∧ TL u (p / 8)
    · rw [flg_in e2, flg_in e2, up_ne e, mk_congr hT]
    · rw [flg_out e2, flg_out e2, up_ne e]
theorem nI_of_small {v : Int32} {n : Nat} (h1 : ¬ v < 0) (h2 : ¬ nI n ≤ v) (hn : n < 2147483648) : ∃ a, a < n ∧ v = nI a := by
  rcases pk_ix v (n := n) hn with h | h | ⟨j, hj, e⟩
  · exact absurd h h1
  · exact absurd h h2
  · exact ⟨j, hj, e⟩
end SIS
end
section
/-! ===== calls that change nothing; grow ===== -/
section OPS
variable {d k : Nat} {h : xH} {M : Nat → Nat} {W U : Nat → Nat → Nat} {f s : Nat → Int32}
theorem SI.file (S : SI k W U h) {j : Nat} (hj : j ≤ k) : h (10, j) = E (W j) := (S.2.1 j hj).1
theorem SI.inv (S : SI k W U h) {j : Nat} (hj : j ≤ k) : Inv (W j) (U j) := (S.2.1 j hj).2.1
theorem SI.hh (S : SI k W U h) : ∀ j, j ≤ k → h (10, j) = E (W j) ∧ Str (W j) (U j) := fun j hj => ⟨S.file hj, (S.inv hj).1⟩
theorem SI.fl (S : SI k W U h) {j : Nat} (hj : j ≤ k) : flg (W j) (U j) = W j := (S.2.1 j hj).2.2.1
theorem SI.hW (S : SI k W U h) (hM : ∀ j p, j ≤ k → p < 512 → M (512 * j + p) = W j p) : ∀ j, j < k → j ≠ k ∧ Str (W j) (U j) ∧ ∀ p, p < 512 → M (512 * j + p) = W j p := fun j hj => ⟨by omega, (S.inv (by omega)).1, fun p hp => hM j p (by omega) hp⟩
/-- an address is one or none -/
theorem addr_cases {w : Nat → Nat} (h2 : w 2 ≤ 64) (v : Int32) : (v < 0 ∨ nI (8 * w 2) ≤ v) ∨ ∃ a, a < 8 * w 2 ∧ v = nI a := by
  rcases pk_ix v (n := 8 * w 2) (by omega) with h | h | h
  · exact Or.inl (Or.inl h)
  · exact Or.inl (Or.inr h)
  · exact Or.inr h
theorem jm_top (k : Nat) : nI k - nI 1 = jm k := by
  cases k with
  | zero => rfl
  | succ n => exact pk_sub (by omega)
theorem op_read (S : SI k W U h) (v : Int32) : OpOK MX3_read MX4_read [vI v] h := by
  obtain ⟨M, hM, hMw, hMp⟩ := S.mem
  have hk := S.1
  have hi := S.inv (Nat.le_refl k)
  have hw := S.file (Nat.le_refl k)
  have hs := hi.1
  have h2 := hs.sz.2
  have hw12 : h (12, 0) = E (pf M k (W k)) := by rw [hM, hMp k (Nat.le_refl k)]
  have hn3 := S.2.2.2.2.1
  have hn4 := S.2.2.2.2.2.1
  rcases addr_cases h2 v with hv | ⟨a, ha, rfl⟩
  · refine ⟨vI (nI 0), h, h, k, W, U, Cl_deep (n := 4) (by decide) ?_, Cl_deep (n := 4) (by decide) ?_, S⟩
    · refine rnN 1 rfl ?_
      refine rnK rfl (c_top hn3 hk) ?_
      refine rnN 3 rfl ?_
      refine rnK rfl (c_hasAddrF hw hv) ?_
      refine rnN 2 rfl ?_
      exact rnR rfl
    · refine rnN 5 rfl ?_
      rw [m_top hn4]
      refine rnN 2 rfl ?_
      refine rnK rfl (m_isAddrF hw12 hn4 hk hv) ?_
      refine rnN 2 rfl ?_
      exact rnR rfl
  · refine ⟨vI (nI (sh W k (bwd (W k) (W k 3) (a / 8)) a)), h, h, k, W, U, Cl_deep (n := 4) (by decide) ?_, Cl_deep (n := 4) (by decide) ?_, S⟩
    · refine rnN 1 rfl ?_
      refine rnK rfl (c_top hn3 hk) ?_
      refine rnN 3 rfl ?_
      refine rnK rfl (c_hasAddrT hw h2 ha) ?_
      refine rnN 3 rfl ?_
      refine rnK rfl (c_activeTable hw) ?_
      refine rnN 1 rfl ?_
      refine rnK rfl (c_shown S.hh act_tb (show a < 512 by omega)) ?_
      refine rnN 1 rfl ?_
      exact rnR rfl
    · refine rnN 5 rfl ?_
      rw [m_top hn4]
      refine rnN 2 rfl ?_
      refine rnK rfl (m_isAddrT hw12 hn4 hk h2 ha) ?_
      refine rnN 6 rfl ?_
      refine rnK rfl (m_table (n := 0) hw12 (show k < 4 by omega) hs.l6 (by decide)) ?_
      rw [show tbn (W k) 0 = W k 3 from rfl]
      refine rnN 9 rfl ?_
      simp (disch := omega) only [nI_add, pk_mul, pk_sub, nd8, nd4, nsub8, nand63, nand7, nshr2, nI_clamp, E_at, hup_at, hup_hup, hpt_def, pf_at, pf_at2, cf_at, h12_14, h14_12, h12_15, h15_12, h14_15, h15_14]
      rw [jm_top]
      refine rnK rfl (m_shows hw12 (show k < 4 by omega) hs act_tb (show a / 8 < 64 by omega) (show a % 8 < 8 by omega) (show k ≤ 3 by omega) (S.hW hMw)) ?_
      rw [← sh_B]
      refine rnN 1 rfl ?_
      exact rnR rfl
theorem m_namedT {n j : Nat} {w : Nat → Nat} (hw : h (12, 0) = E (pf M k w)) (hn : h (4, 0) 2 = nI (k + 1)) (hk : k < 3) (h6 : w 6 < 64) (h5 : w 5 ≤ 4) (hj : j < w 5) (hb : ∀ p, w p < 4294967296) (hnn : n < 4294967296) (he : w (8 * w 6 + (2 * j + 1)) = n) (hl : ∀ i, i < j → w (8 * w 6 + (2 * i + 1)) ≠ n) : Cl (d + 1) MX4_named [vR (4, 0), vI (nI n)] h (some (vI (nI j))) h := by
  refine rnN 5 rfl ?_
  rw [m_top hn]
  refine rnN 8 rfl ?_
  simp (disch := omega) only [nI_add, pk_mul, pk_sub, nd8, nd4, nsub8, nand63, nand7, nshr2, nI_clamp, E_at, hup_at, hup_hup, hpt_def, pf_at, pf_at2, cf_at, h12_14, h14_12, h12_15, h15_12, h14_15, h15_14]
  refine rnC (inN (show 512 * k + 6 < 2048 by omega) (by decide)) rfl ?_
  simp (disch := omega) only [nI_add, pk_mul, pk_sub, nd8, nd4, nsub8, nand63, nand7, nshr2, nI_clamp, E_at, hup_at, hup_hup, hpt_def, pf_at, pf_at2, cf_at, h12_14, h14_12, h12_15, h15_12, h14_15, h15_14, hw]
  refine rnK rfl (m_at) ?_
  refine rnN 3 rfl ?_
  refine lpN j (fun i => Rn (d + 1) MX4_named 28 [some (vR (4, 0)), some (vI (nI n)), some (vI (nI k)), some (vI (nI (512 * k + 8 * w 6))), some (vI (nI i))] [] h (some (vI (nI j))) h) (fun i hi K => ?_) ?_
  · refine rnN 3 rfl ?_
    refine rnK rfl (m_snapshots hw (show k < 4 by omega)) ?_
    refine rnT (nI_lt (show i < w 5 by omega) (by omega)) rfl ?_
    refine rnN 9 rfl ?_
    simp (disch := omega) only [nI_add, pk_mul, pk_sub, nd8, nd4, nsub8, nand63, nand7, nshr2, nI_clamp, E_at, hup_at, hup_hup, hpt_def, pf_at, pf_at2, cf_at, h12_14, h14_12, h12_15, h15_12, h14_15, h15_14]
    rw [show 512 * k + 8 * w 6 + 2 * i + 1 = 512 * k + (8 * w 6 + (2 * i + 1)) by omega]
    refine rnC (inN (show 512 * k + (8 * w 6 + (2 * i + 1)) < 2048 by omega) (by decide)) rfl ?_
    simp (disch := omega) only [nI_add, pk_mul, pk_sub, nd8, nd4, nsub8, nand63, nand7, nshr2, nI_clamp, E_at, hup_at, hup_hup, hpt_def, pf_at, pf_at2, cf_at, h12_14, h14_12, h12_15, h15_12, h14_15, h15_14, hw]
    refine rnN 1 rfl ?_
    refine rnF ((fun e => hl i hi (by have h1 := congrArg tn e; rwa [tn_nI (hb _), tn_nI hnn] at h1))) rfl ?_
    refine rnN 2 rfl ?_
    simp (disch := omega) only [nI_add, pk_mul, pk_sub, nd8, nd4, nsub8, nand63, nand7, nshr2, nI_clamp, E_at, hup_at, hup_hup, hpt_def, pf_at, pf_at2, cf_at, h12_14, h14_12, h12_15, h15_12, h14_15, h15_14]
    exact K
  · refine rnN 3 rfl ?_
    refine rnK rfl (m_snapshots hw (show k < 4 by omega)) ?_
    refine rnT (nI_lt hj (by omega)) rfl ?_
    refine rnN 9 rfl ?_
    simp (disch := omega) only [nI_add, pk_mul, pk_sub, nd8, nd4, nsub8, nand63, nand7, nshr2, nI_clamp, E_at, hup_at, hup_hup, hpt_def, pf_at, pf_at2, cf_at, h12_14, h14_12, h12_15, h15_12, h14_15, h15_14]
    rw [show 512 * k + 8 * w 6 + 2 * j + 1 = 512 * k + (8 * w 6 + (2 * j + 1)) by omega]
    refine rnC (inN (show 512 * k + (8 * w 6 + (2 * j + 1)) < 2048 by omega) (by decide)) rfl ?_
    simp (disch := omega) only [nI_add, pk_mul, pk_sub, nd8, nd4, nsub8, nand63, nand7, nshr2, nI_clamp, E_at, hup_at, hup_hup, hpt_def, pf_at, pf_at2, cf_at, h12_14, h14_12, h12_15, h15_12, h14_15, h15_14, hw]
    refine rnN 1 rfl ?_
    rw [he]
    refine rnT ((show nI n = nI n from rfl)) rfl ?_
    refine rnN 1 rfl ?_
    exact rnR rfl
theorem m_namedF {n : Nat} {w : Nat → Nat} (hw : h (12, 0) = E (pf M k w)) (hn : h (4, 0) 2 = nI (k + 1)) (hk : k < 3) (h6 : w 6 < 64) (h5 : w 5 ≤ 4) (hb : ∀ p, w p < 4294967296) (hnn : n < 4294967296) (hl : ∀ i, i < w 5 → w (8 * w 6 + (2 * i + 1)) ≠ n) : Cl (d + 1) MX4_named [vR (4, 0), vI (nI n)] h (some (vI (-1))) h := by
  refine rnN 5 rfl ?_
  rw [m_top hn]
  refine rnN 8 rfl ?_
  simp (disch := omega) only [nI_add, pk_mul, pk_sub, nd8, nd4, nsub8, nand63, nand7, nshr2, nI_clamp, E_at, hup_at, hup_hup, hpt_def, pf_at, pf_at2, cf_at, h12_14, h14_12, h12_15, h15_12, h14_15, h15_14]
  refine rnC (inN (show 512 * k + 6 < 2048 by omega) (by decide)) rfl ?_
  simp (disch := omega) only [nI_add, pk_mul, pk_sub, nd8, nd4, nsub8, nand63, nand7, nshr2, nI_clamp, E_at, hup_at, hup_hup, hpt_def, pf_at, pf_at2, cf_at, h12_14, h14_12, h12_15, h15_12, h14_15, h15_14, hw]
  refine rnK rfl (m_at) ?_
  refine rnN 3 rfl ?_
  refine lpN (w 5) (fun i => Rn (d + 1) MX4_named 28 [some (vR (4, 0)), some (vI (nI n)), some (vI (nI k)), some (vI (nI (512 * k + 8 * w 6))), some (vI (nI i))] [] h (some (vI (-1))) h) (fun i hi K => ?_) ?_
  · refine rnN 3 rfl ?_
    refine rnK rfl (m_snapshots hw (show k < 4 by omega)) ?_
    refine rnT (nI_lt (show i < w 5 by omega) (by omega)) rfl ?_
    refine rnN 9 rfl ?_
    simp (disch := omega) only [nI_add, pk_mul, pk_sub, nd8, nd4, nsub8, nand63, nand7, nshr2, nI_clamp, E_at, hup_at, hup_hup, hpt_def, pf_at, pf_at2, cf_at, h12_14, h14_12, h12_15, h15_12, h14_15, h15_14]
    rw [show 512 * k + 8 * w 6 + 2 * i + 1 = 512 * k + (8 * w 6 + (2 * i + 1)) by omega]
    refine rnC (inN (show 512 * k + (8 * w 6 + (2 * i + 1)) < 2048 by omega) (by decide)) rfl ?_
    simp (disch := omega) only [nI_add, pk_mul, pk_sub, nd8, nd4, nsub8, nand63, nand7, nshr2, nI_clamp, E_at, hup_at, hup_hup, hpt_def, pf_at, pf_at2, cf_at, h12_14, h14_12, h12_15, h15_12, h14_15, h15_14, hw]
    refine rnN 1 rfl ?_
    refine rnF ((fun e => hl i hi (by have h1 := congrArg tn e; rwa [tn_nI (hb _), tn_nI hnn] at h1))) rfl ?_
    refine rnN 2 rfl ?_
    simp (disch := omega) only [nI_add, pk_mul, pk_sub, nd8, nd4, nsub8, nand63, nand7, nshr2, nI_clamp, E_at, hup_at, hup_hup, hpt_def, pf_at, pf_at2, cf_at, h12_14, h14_12, h12_15, h15_12, h14_15, h15_14]
    exact K
  · refine rnN 3 rfl ?_
    refine rnK rfl (m_snapshots hw (show k < 4 by omega)) ?_
    refine rnF (nI_nlt (Nat.le_refl _) (by omega)) rfl ?_
    refine rnN 1 rfl ?_
    exact rnR rfl
/-- a name's place, or that there is none -/
theorem name_cases (w : Nat → Nat) (n : Nat) : (∀ i, i < w 5 → w (8 * w 6 + (2 * i + 1)) ≠ n) ∨ ∃ j, j < w 5 ∧ w (8 * w 6 + (2 * j + 1)) = n ∧ ∀ i, i < j → w (8 * w 6 + (2 * i + 1)) ≠ n := by
  have key : ∀ m, (∀ i, i < m → w (8 * w 6 + (2 * i + 1)) ≠ n) ∨ ∃ j, j < m ∧ w (8 * w 6 + (2 * j + 1)) = n ∧ ∀ i, i < j → w (8 * w 6 + (2 * i + 1)) ≠ n := by
    intro m
    induction m with
    | zero => exact Or.inl fun i hi => by omega
    | succ m ih =>
      rcases ih with h1 | ⟨j, h1, h2, h3⟩
      · by_cases e : w (8 * w 6 + (2 * m + 1)) = n
        · exact Or.inr ⟨m, by omega, e, h1⟩
        · refine Or.inl fun i hi => ?_
          by_cases e2 : i = m
          · rw [e2]; exact e
          · exact h1 i (by omega)
      · exact Or.inr ⟨j, by omega, h2, h3⟩
  exact key _
theorem op_readOld (S : SI k W U h) (v0 v : Int32) : OpOK MX3_readOld MX4_readOld [vI v0, vI v] h := by
  obtain ⟨M, hM, hMw, hMp⟩ := S.mem
  have hk := S.1
  have hi := S.inv (Nat.le_refl k)
  have hw := S.file (Nat.le_refl k)
  have hs := hi.1
  have h2 := hs.sz.2
  have h6 := hs.l6
  have hns := hs.ns
  have hw12 : h (12, 0) = E (pf M k (W k)) := by rw [hM, hMp k (Nat.le_refl k)]
  have hn3 := S.2.2.2.2.1
  have hn4 := S.2.2.2.2.2.1
  have hb := hi.2.2.2.2
  obtain ⟨n, hnn, rfl⟩ : ∃ n, n < 4294967296 ∧ v0 = nI n := ⟨tn v0, tn_lt _, (nI_tn v0).symm⟩
  rcases name_cases (W k) n with hl | ⟨j, hj, he, hl⟩
  · refine ⟨vJ 4294967296, h, h, k, W, U, Cl_deep (n := 4) (by decide) ?_, Cl_deep (n := 4) (by decide) ?_, S⟩
    · refine rnN 1 rfl ?_
      refine rnK rfl (c_top hn3 hk) ?_
      refine rnN 3 rfl ?_
      refine rnK rfl (c_namedF hw h6 hns.1 hb hnn hl) ?_
      refine rnN 4 rfl ?_
      exact rnR rfl
    · refine rnN 5 rfl ?_
      rw [m_top hn4]
      refine rnN 2 rfl ?_
      refine rnK rfl (m_namedF hw12 hn4 hk h6 hns.1 hb hnn hl) ?_
      refine rnN 5 rfl ?_
      exact rnR rfl
  · rcases addr_cases h2 v with hv | ⟨a, ha, rfl⟩
    · refine ⟨vJ 4294967296, h, h, k, W, U, Cl_deep (n := 4) (by decide) ?_, Cl_deep (n := 4) (by decide) ?_, S⟩
      · refine rnN 1 rfl ?_
        refine rnK rfl (c_top hn3 hk) ?_
        refine rnN 3 rfl ?_
        refine rnK rfl (c_namedT hw h6 hns.1 hj hb hnn he hl) ?_
        refine rnN 2 rfl ?_
        refine rnF (nI_pos (show j < 2147483648 by omega)) rfl ?_
        refine rnN 2 rfl ?_
        refine rnK rfl (c_hasAddrF hw hv) ?_
        refine rnN 2 rfl ?_
        exact rnR rfl
      · refine rnN 5 rfl ?_
        rw [m_top hn4]
        refine rnN 2 rfl ?_
        refine rnK rfl (m_namedT hw12 hn4 hk h6 hns.1 hj hb hnn he hl) ?_
        refine rnN 2 rfl ?_
        refine rnF (nI_pos (show j < 2147483648 by omega)) rfl ?_
        refine rnN 2 rfl ?_
        refine rnK rfl (m_isAddrF hw12 hn4 hk hv) ?_
        refine rnN 3 rfl ?_
        exact rnR rfl
    · refine ⟨vJ (nI (sh W k (bwd (W k) (tab (W k) j) (a / 8)) a)).toInt64, h, h, k, W, U, Cl_deep (n := 4) (by decide) ?_, Cl_deep (n := 4) (by decide) ?_, S⟩
      · refine rnN 1 rfl ?_
        refine rnK rfl (c_top hn3 hk) ?_
        refine rnN 3 rfl ?_
        refine rnK rfl (c_namedT hw h6 hns.1 hj hb hnn he hl) ?_
        refine rnN 2 rfl ?_
        refine rnF (nI_pos (show j < 2147483648 by omega)) rfl ?_
        refine rnN 2 rfl ?_
        refine rnK rfl (c_hasAddrT hw h2 ha) ?_
        refine rnN 4 rfl ?_
        refine rnK rfl (c_snapshotTable hw h6 (show j < 4 by omega)) ?_
        refine rnN 1 rfl ?_
        refine rnK rfl (c_shown S.hh (tab_tb hj) (show a < 512 by omega)) ?_
        refine rnN 1 rfl ?_
        exact rnR rfl
      · refine rnN 5 rfl ?_
        rw [m_top hn4]
        refine rnN 2 rfl ?_
        refine rnK rfl (m_namedT hw12 hn4 hk h6 hns.1 hj hb hnn he hl) ?_
        refine rnN 2 rfl ?_
        refine rnF (nI_pos (show j < 2147483648 by omega)) rfl ?_
        refine rnN 2 rfl ?_
        refine rnK rfl (m_isAddrT hw12 hn4 hk h2 ha) ?_
        refine rnN 6 rfl ?_
        refine rnK rfl (m_table (n := j + 1) hw12 (show k < 4 by omega) hs.l6 (by omega)) ?_
        rw [show tbn (W k) (j + 1) = tab (W k) j from rfl]
        refine rnN 9 rfl ?_
        simp (disch := omega) only [nI_add, pk_mul, pk_sub, nd8, nd4, nsub8, nand63, nand7, nshr2, nI_clamp, E_at, hup_at, hup_hup, hpt_def, pf_at, pf_at2, cf_at, h12_14, h14_12, h12_15, h15_12, h14_15, h15_14]
        rw [jm_top]
        refine rnK rfl (m_shows hw12 (show k < 4 by omega) hs (tab_tb hj) (show a / 8 < 64 by omega) (show a % 8 < 8 by omega) (show k ≤ 3 by omega) (S.hW hMw)) ?_
        rw [← sh_B]
        refine rnN 1 rfl ?_
        exact rnR rfl
theorem op_size (S : SI k W U h) : OpOK MX3_size MX4_size [] h := by
  obtain ⟨M, hM, hMw, hMp⟩ := S.mem
  have hk := S.1
  have hw := S.file (Nat.le_refl k)
  have hw12 : h (12, 0) = E (pf M k (W k)) := by rw [hM, hMp k (Nat.le_refl k)]
  have hn3 := S.2.2.2.2.1
  have hn4 := S.2.2.2.2.2.1
  refine ⟨vI (nI (W k 2)), h, h, k, W, U, Cl_deep (n := 4) (by decide) ?_, Cl_deep (n := 4) (by decide) ?_, S⟩
  · refine rnN 1 rfl ?_
    refine rnK rfl (c_top hn3 hk) ?_
    refine rnK rfl (c_blocks hw) ?_
    exact rnR rfl
  · refine rnN 5 rfl ?_
    rw [m_top hn4]
    refine rnK rfl (m_sizeOf hw12 (show k < 4 by omega)) ?_
    exact rnR rfl
theorem op_images (S : SI k W U h) : OpOK MX3_images MX4_images [] h := by
  have hn3 := S.2.2.2.2.1
  have hn4 := S.2.2.2.2.2.1
  refine ⟨vI (nI (k + 1)), h, h, k, W, U, Cl_deep (n := 4) (by decide) ?_, Cl_deep (n := 4) (by decide) ?_, S⟩
  · refine rnN 2 rfl ?_
    rw [hn3]
    exact rnR rfl
  · refine rnN 2 rfl ?_
    rw [hn4]
    exact rnR rfl
theorem op_used (S : SI k W U h) : OpOK MX3_used MX4_used [] h := by
  obtain ⟨M, hM, hMw, hMp⟩ := S.mem
  have hk := S.1
  have hw := S.file (Nat.le_refl k)
  have hi := S.inv (Nat.le_refl k)
  have hs := hi.1
  have hw12 : h (12, 0) = E (pf M k (W k)) := by rw [hM, hMp k (Nat.le_refl k)]
  have hn3 := S.2.2.2.2.1
  have hn4 := S.2.2.2.2.2.1
  have hrc := m_recount (d := 2) (M := M) hw12 (show k < 4 by omega) hs
  rw [mh_eq hM] at hrc
  refine ⟨vI (nI (inUse (W k))), h, mh h (cf (h (14, 0)) (T (W k))) M, k, W, U, Cl_deep (n := 5) (by decide) ?_, Cl_deep (n := 5) (by decide) ?_, SI_cnt S hM⟩
  · refine rnN 1 rfl ?_
    refine rnK rfl (c_top hn3 hk) ?_
    refine rnN 1 rfl ?_
    refine rnK rfl (c_clustersInUse hw hi.cg) ?_
    exact rnR rfl
  · refine rnN 5 rfl ?_
    rw [m_top hn4]
    refine rnK rfl (hrc) ?_
    refine rnN 4 rfl ?_
    rw [inUse_T hi]
    refine lpN 64 (fun i => Rn 5 MX4_used 14 [some (vR (4, 0)), some (vI (nI (sm i fun c => if 0 < T (W k) c then 1 else 0))), some (vI (nI i))] [] (mh h (cf (h (14, 0)) (T (W k))) M) (some (vI (nI (sm 64 fun c => if 0 < T (W k) c then 1 else 0)))) (mh h (cf (h (14, 0)) (T (W k))) M)) (fun i hi2 K => ?_) ?_
    · have hT := T_le (w := W k) hs.ns.1 i
      rw [sm_succ (n := i)] at K
      refine rnN 2 rfl ?_
      refine rnT (nI_lt hi2 (by decide)) rfl ?_
      refine rnN 3 rfl ?_
      refine rnC (inN hi2 (by decide)) rfl ?_
      simp (disch := omega) only [nI_add, pk_mul, pk_sub, nd8, nd4, nsub8, nand63, nand7, nshr2, nI_clamp, E_at, hup_at, hup_hup, hpt_def, pf_at, pf_at2, cf_at, h12_14, h14_12, h12_15, h15_12, h14_15, h15_14, mh_14]
      by_cases h0 : 0 < T (W k) i
      · refine rnT ((n0lt (by omega)).mpr h0) rfl ?_
        refine rnN 4 rfl ?_
        refine rnN 3 rfl ?_
        simp (disch := omega) only [nI_add, pk_mul, pk_sub, nd8, nd4, nsub8, nand63, nand7, nshr2, nI_clamp, E_at, hup_at, hup_hup, hpt_def, pf_at, pf_at2, cf_at, h12_14, h14_12, h12_15, h15_12, h14_15, h15_14]
        rw [if_pos h0] at K
        exact K
      · rw [show T (W k) i = 0 by omega]
        refine rnN 2 rfl ?_
        refine rnN 3 rfl ?_
        simp (disch := omega) only [nI_add, pk_mul, pk_sub, nd8, nd4, nsub8, nand63, nand7, nshr2, nI_clamp, E_at, hup_at, hup_hup, hpt_def, pf_at, pf_at2, cf_at, h12_14, h14_12, h12_15, h15_12, h14_15, h15_14]
        rw [if_neg h0] at K
        exact K
    · refine rnN 3 rfl ?_
      refine rnN 1 rfl ?_
      exact rnR rfl
end OPS
end
section
/-! ===== word, grow, stage ===== -/
section OP2
variable {d k : Nat} {h : xH} {M : Nat → Nat} {W U : Nat → Nat → Nat} {f s : Nat → Int32}
theorem op_word (S : SI k W U h) (v1 v2 : Int32) : OpOK MX3_word MX4_word [vI v1, vI v2] h := by
  obtain ⟨M, hM, hMw, hMp⟩ := S.mem
  have hk := S.1
  have hn3 := S.2.2.2.2.1
  have hn4 := S.2.2.2.2.2.1
  by_cases a1 : v1 < 0
  · refine ⟨vI (nI 0), h, h, k, W, U, Cl_deep (n := 4) (by decide) ?_, Cl_deep (n := 4) (by decide) ?_, S⟩
    · refine rnN 1 rfl ?_
      refine rnT (a1) rfl ?_
      refine rnN 1 rfl ?_
      exact rnR rfl
    · refine rnN 1 rfl ?_
      refine rnT (a1) rfl ?_
      refine rnN 2 rfl ?_
      exact rnR rfl
  · by_cases a2 : v1 < nI (k + 1)
    · obtain ⟨i, hi, rfl⟩ := nI_of_small a1 (Int32.not_le.mpr a2) (by omega)
      by_cases b1 : v2 < 0
      · refine ⟨vI (nI 0), h, h, k, W, U, Cl_deep (n := 4) (by decide) ?_, Cl_deep (n := 4) (by decide) ?_, S⟩
        · refine rnN 1 rfl ?_
          refine rnF (a1) rfl ?_
          refine rnN 3 rfl ?_
          rw [hn3]
          refine rnT (a2) rfl ?_
          refine rnN 1 rfl ?_
          refine rnT (b1) rfl ?_
          refine rnN 1 rfl ?_
          exact rnR rfl
        · refine rnN 1 rfl ?_
          refine rnF (a1) rfl ?_
          refine rnN 3 rfl ?_
          rw [hn4]
          refine rnT (a2) rfl ?_
          refine rnN 1 rfl ?_
          refine rnT (b1) rfl ?_
          refine rnN 2 rfl ?_
          exact rnR rfl
      · by_cases b2 : v2 < nI 512
        · obtain ⟨q, hq, rfl⟩ := nI_of_small b1 (Int32.not_le.mpr b2) (by decide)
          have hw := S.file (show k - i ≤ k by omega)
          have hwm : h (12, 0) = E (pf M (k - i) (W (k - i))) := by rw [hM, hMp _ (by omega)]
          refine ⟨vI (nI (W (k - i) q)), h, h, k, W, U, Cl_deep (n := 4) (by decide) ?_, Cl_deep (n := 4) (by decide) ?_, S⟩
          · refine rnN 1 rfl ?_
            refine rnF (a1) rfl ?_
            refine rnN 3 rfl ?_
            rw [hn3]
            refine rnT (a2) rfl ?_
            refine rnN 1 rfl ?_
            refine rnF (b1) rfl ?_
            refine rnN 2 rfl ?_
            refine rnT (b2) rfl ?_
            refine rnN 8 rfl ?_
            rw [hn3]
            simp (disch := omega) only [nI_add, pk_mul, pk_sub, nd8, nd4, nsub8, nand63, nand7, nshr2, nI_clamp, E_at, hup_at, hup_hup]
            rw [show k + 1 - 1 - i = k - i by omega]
            refine rnC (inN (show k - i < 3 by omega) (by decide)) rfl ?_
            simp (disch := omega) only [nI_add, pk_mul, pk_sub, nd8, nd4, nsub8, nand63, nand7, nshr2, nI_clamp, E_at, hup_at, hup_hup]
            refine rnN 7 rfl ?_
            simp (disch := omega) only [nI_add, pk_mul, pk_sub, nd8, nd4, nsub8, nand63, nand7, nshr2, nI_clamp, E_at, hup_at, hup_hup]
            refine rnK rfl (c_at hw (show q / 8 < 64 by omega) (show q % 8 < 8 by omega)) ?_
            rw [show 8 * (q / 8) + q % 8 = q by omega]
            exact rnR rfl
          · refine rnN 1 rfl ?_
            refine rnF (a1) rfl ?_
            refine rnN 3 rfl ?_
            rw [hn4]
            refine rnT (a2) rfl ?_
            refine rnN 1 rfl ?_
            refine rnF (b1) rfl ?_
            refine rnN 2 rfl ?_
            refine rnF (nI_nlt (show q ≤ 511 by omega) (by decide)) rfl ?_
            refine rnN 7 rfl ?_
            rw [hn4]
            refine rnN 5 rfl ?_
            simp (disch := omega) only [nI_add, pk_mul, pk_sub, nd8, nd4, nsub8, nand63, nand7, nshr2, nI_clamp, E_at, hup_at, hup_hup, hpt_def, pf_at, pf_at2, cf_at, h12_14, h14_12, h12_15, h15_12, h14_15, h15_14]
            rw [show k + 1 - 1 - i = k - i by omega]
            refine rnC (inN (show 512 * (k - i) + q < 2048 by omega) (by decide)) rfl ?_
            simp (disch := omega) only [nI_add, pk_mul, pk_sub, nd8, nd4, nsub8, nand63, nand7, nshr2, nI_clamp, E_at, hup_at, hup_hup, hpt_def, pf_at, pf_at2, cf_at, h12_14, h14_12, h12_15, h15_12, h14_15, h15_14, hwm]
            exact rnR rfl
        · refine ⟨vI (nI 0), h, h, k, W, U, Cl_deep (n := 4) (by decide) ?_, Cl_deep (n := 4) (by decide) ?_, S⟩
          · refine rnN 1 rfl ?_
            refine rnF (a1) rfl ?_
            refine rnN 3 rfl ?_
            rw [hn3]
            refine rnT (a2) rfl ?_
            refine rnN 1 rfl ?_
            refine rnF (b1) rfl ?_
            refine rnN 2 rfl ?_
            refine rnF (b2) rfl ?_
            refine rnN 1 rfl ?_
            exact rnR rfl
          · refine rnN 1 rfl ?_
            refine rnF (a1) rfl ?_
            refine rnN 3 rfl ?_
            rw [hn4]
            refine rnT (a2) rfl ?_
            refine rnN 1 rfl ?_
            refine rnF (b1) rfl ?_
            refine rnN 2 rfl ?_
            refine rnT ((Int32.lt_of_lt_of_le (show nI 511 < nI 512 by decide) (Int32.not_lt.mp b2))) rfl ?_
            refine rnN 2 rfl ?_
            exact rnR rfl
    · refine ⟨vI (nI 0), h, h, k, W, U, Cl_deep (n := 4) (by decide) ?_, Cl_deep (n := 4) (by decide) ?_, S⟩
      · refine rnN 1 rfl ?_
        refine rnF (a1) rfl ?_
        refine rnN 3 rfl ?_
        rw [hn3]
        refine rnF (a2) rfl ?_
        refine rnN 1 rfl ?_
        exact rnR rfl
      · refine rnN 1 rfl ?_
        refine rnF (a1) rfl ?_
        refine rnN 3 rfl ?_
        rw [hn4]
        refine rnF (a2) rfl ?_
        refine rnN 2 rfl ?_
        exact rnR rfl
theorem grow_inv {w u : Nat → Nat} (hi : Inv w u) {n : Nat} (h1 : w 2 ≤ n) (h2 : n ≤ 64) : Inv (up w 2 n) u ∧ (flg w u = w → flg (up w 2 n) u = up w 2 n) ∧ ∀ X, T (up w 2 n) X = T w X := by
  have hs := hi.1
  have hR : ∀ p, p ≠ 2 → up w 2 n p = w p := fun p hp => up_ne hp
  have hct := hs.ct
  have hns := hs.ns
  have e3 := hR 3 (by decide)
  have e4 := hR 4 (by decide)
  have e5 := hR 5 (by decide)
  have e6 := hR 6 (by decide)
  have etab : ∀ j, j < w 5 → tab (up w 2 n) j = tab w j := fun j hj => by
    unfold tab
    rw [e6]
    exact hR _ (by have := hns.2 (by omega); omega)
  have eTB : ∀ t, TB (up w 2 n) t → TB w t := by
    rintro t (rfl | ⟨j, hj, rfl⟩)
    · exact Or.inl e3
    · rw [e5] at hj
      rw [etab j hj]
      exact tab_tb hj
  have etw : ∀ t i, TB w t → up w 2 n (8 * t + i) = w (8 * t + i) := fun t i ht => hR _ (by have := hs.tb ht; omega)
  have elf : ∀ t i j, TB w t → i < 8 → w (8 * t + i) / 4 ≠ 0 → up w 2 n (8 * (w (8 * t + i) / 4) + j) = w (8 * (w (8 * t + i) / 4) + j) := fun t i j ht hi8 h0 => hR _ (by omega)
  have hS : Str (up w 2 n) u := by
    refine ⟨?_, by rw [e3]; exact hs.act, by rw [e4]; exact hct, by rw [e5, e6]; exact hns, by rw [e6]; exact hs.list, ?_, ?_, ?_⟩
    · rw [up_at]; have := hs.sz; omega
    · rw [e4]
      intro k hk h0
      rw [hR _ (by omega)] at h0 ⊢
      exact hs.keep hk h0
    · rw [e5]
      intro j hj
      rw [etab j hj]
      exact hs.tab hj
    · intro t ht i hi8
      have ht := eTB t ht
      rw [etw t i ht]
      rcases hs.tw ht hi8 with e | ⟨a1, a2, a3, a4⟩
      · exact Or.inl e
      · refine Or.inr ⟨a1, by rw [up_at]; omega, a3, fun l hl => ?_⟩
        rw [up_at, elf t i l ht hi8 (by have := a1.pos; omega)]
        rcases a4 l hl with e | ⟨b1, b2⟩
        · exact Or.inl e
        · exact Or.inr ⟨by omega, b2⟩
  have hT : ∀ X, T (up w 2 n) X = T w X := by
    intro X
    have ek : kc (up w 2 n) X = kc w X := by
      unfold kc
      rw [e4]
      exact sm_congr fun k hk => by rw [hR _ (by omega)]
    have etc : ∀ t, TB w t → tc (up w 2 n) X t = tc w X t := fun t ht => tc_congr (fun i hi8 => by rw [etw t i ht]) (fun i hi8 h0 j hj => by rw [elf t i j ht hi8 h0])
    unfold T
    rw [e3, e4, e5, e6, ek, etc _ act_tb, sm_congr (n := w 5) (f := fun j => tc (up w 2 n) X (tab (up w 2 n) j)) (g := fun j => tc w X (tab w j)) (fun j hj => by rw [etab j hj, etc _ (tab_tb hj)])]
  refine ⟨⟨hS, fun X hX => ?_, fun X hX h0 j hj => ?_, ?_, fun p => ?_⟩, fun hf => ?_, hT⟩
  · rw [hT, cnt_of e4 (fun k hk => hR _ (by omega)) hX]
    split
    · next h0 => exact (hi.noK hX h0).symm
    · next h0 => rw [hR _ (by have := cpl_in hs hX h0; omega)]; exact hi.cntAt hX h0
  · rw [hT] at h0
    rw [hR _ (by
      have := T_zero w
      intro e
      have : X = 0 := by omega
      subst this
      omega)]
    exact hi.2.2.1 X hX h0 j hj
  · obtain ⟨g0, g1, g7, gl, gn⟩ := hi.2.2.2.1
    refine ⟨by rw [hR 0 (by decide)]; exact g0, by rw [hR 1 (by decide)]; exact g1, by rw [hR 7 (by decide)]; exact g7, ?_, ?_⟩
    · rw [e5, e6]
      intro h6 j hj hj8
      rw [hR _ (by omega)]
      exact gl h6 j hj hj8
    · rw [e5, e6]
      intro i j hi2 hj
      have h6 := hns.2 (by omega)
      rw [hR _ (by omega), hR _ (by omega)]
      exact gn i j hi2 hj
  · unfold up
    split
    · omega
    · exact hi.2.2.2.2 p
  · funext p
    by_cases e : p = 2
    · rw [e]
      exact flg_out (fun z => by omega)
    · have h9 := congrFun hf p
      by_cases e2 : 1 ≤ p / 8 ∧ p / 8 < 64 ∧ TL u (p / 8)
      · rw [flg_in e2] at h9 ⊢
        rw [hR p e, mk_congr hT]
        exact h9
      · rw [flg_out e2]
theorem op_grow (S : SI k W U h) (v : Int32) : OpOK MX3_grow MX4_grow [vI v] h := by
  obtain ⟨M, hM, hMw, hMp⟩ := S.mem
  have hk := S.1
  have hw := S.file (Nat.le_refl k)
  have hi := S.inv (Nat.le_refl k)
  have hsz := hi.1.sz
  have hw12 : h (12, 0) = E (pf M k (W k)) := by rw [hM, hMp k (Nat.le_refl k)]
  have hn3 := S.2.2.2.2.1
  have hn4 := S.2.2.2.2.2.1
  by_cases a1 : nI (W k 2) < v
  · by_cases a2 : nI 64 < v
    · refine ⟨vI (-1), h, h, k, W, U, Cl_deep (n := 4) (by decide) ?_, Cl_deep (n := 4) (by decide) ?_, S⟩
      · refine rnN 2 rfl ?_
        refine rnK rfl (c_top hn3 hk) ?_
        refine rnK rfl (c_blocks hw) ?_
        refine rnT (a1) rfl ?_
        refine rnN 2 rfl ?_
        refine rnT (a2) rfl ?_
        refine rnN 1 rfl ?_
        exact rnR rfl
      · refine rnN 5 rfl ?_
        rw [m_top hn4]
        refine rnN 3 rfl ?_
        refine rnK rfl (m_sizeOf hw12 (show k < 4 by omega)) ?_
        refine rnT (a1) rfl ?_
        refine rnN 2 rfl ?_
        refine rnT (a2) rfl ?_
        refine rnN 1 rfl ?_
        exact rnR rfl
    · have h0 : ¬ v < 0 := fun e => (nI_pos (n := W k 2) (by omega)) (Int32.lt_trans a1 e)
      obtain ⟨n, hn, rfl⟩ := nI_of_small (n := 65) h0 (fun e => a2 (Int32.lt_of_lt_of_le (show nI 64 < nI 65 by decide) e)) (by decide)
      have hn1 : W k 2 < n := (nI_ltI (by omega) (by omega)).mp a1
      obtain ⟨g1, g2, g3⟩ := grow_inv hi (n := n) (by omega) (by omega)
      have e0 : hup h (10, k) (E (up (W k) 2 n)) = hup (hup h (10, k) (E (up (W k) 2 n))) (15, 0) (h (15, 0)) := (hup_self (hup_ne (fun e => by injection e with e1 e2; omega))).symm
      have hne : ∀ q : xP, q ≠ (10, k) → hup h (10, k) (E (up (W k) 2 n)) q = h q := fun q hq => hup_ne hq
      refine ⟨vI (nI 0), hup (hup h (10, k) (E (up (W k) 2 n))) (15, 0) (h (15, 0)), mh (hup (hup h (10, k) (E (up (W k) 2 n))) (15, 0) (h (15, 0))) (h (14, 0)) (pf M k (up (W k) 2 n)), k, setW W k (up (W k) 2 n), setW U k (U k), Cl_deep (n := 4) (by decide) ?_, Cl_deep (n := 4) (by decide) ?_, SI_upd S g1 (g2 (S.fl (Nat.le_refl k))) (fun e => (S.2.1 k (Nat.le_refl k)).2.2.2 e) (by rw [up_at]; omega) hMw⟩
      · rw [← e0]
        refine rnN 2 rfl ?_
        refine rnK rfl (c_top hn3 hk) ?_
        refine rnK rfl (c_blocks hw) ?_
        refine rnT (a1) rfl ?_
        refine rnN 2 rfl ?_
        refine rnF (a2) rfl ?_
        refine rnN 1 rfl ?_
        refine rnK rfl (c_top hn3 hk) ?_
        refine rnN 4 rfl ?_
        refine rnK rfl (c_hput hw (show 2 < 8 by decide)) ?_
        refine rnN 1 rfl ?_
        exact rnR rfl
      · obtain ⟨h1, hh1⟩ : ∃ h1, h1 = hup (hup h (10, k) (E (up (W k) 2 n))) (15, 0) (h (15, 0)) := ⟨_, rfl⟩
        rw [← hh1]
        have q1 : h1 (12, 0) = E M := by rw [hh1, hup_ne (by decide), hup_ne (fun e => by injection e with e1 e2; omega)]; exact hM
        have q2 : h1 (4, 0) 2 = nI (k + 1) := by rw [hh1, hup_ne (by decide), hup_ne (fun e => by injection e with e1 e2; omega)]; exact hn4
        have q3 : h1 (14, 0) = h (14, 0) := by rw [hh1, hup_ne (by decide), hup_ne (fun e => by injection e with e1 e2; omega)]
        have q4 : mh h1 (h (14, 0)) M = h1 := by
          rw [← q3]
          unfold mh
          rw [hup_self (p := (14, 0)) rfl, hup_self q1]
        refine (?_ : Cl 4 MX4_grow [vR (4, 0), vI (nI n)] h1 (some (vI (nI 0))) (mh h1 (h (14, 0)) (pf M k (up (W k) 2 n))))
        have q6 : mh h1 (h (14, 0)) (pf M k (up (W k) 2 n)) = mh (mh h1 (h (14, 0)) M) (h (14, 0)) (pf M k (up (W k) 2 n)) := mh_mh.symm
        rw [q6]
        refine (?_ : Cl 4 MX4_grow [vR (4, 0), vI (nI n)] h1 (some (vI (nI 0))) (mh (mh h1 (h (14, 0)) M) (h (14, 0)) (pf M k (up (W k) 2 n))))
        conv => arg 4; rw [← q4]
        have q5 : mh h1 (h (14, 0)) M (4, 0) 2 = nI (k + 1) := by rw [mh_o (by decide) (by decide)]; exact q2
        refine rnN 5 rfl ?_
        rw [m_top q5]
        refine rnN 3 rfl ?_
        refine rnK rfl (m_sizeOf (w := W k) (M := M) (by rw [mh_12, hMp k (Nat.le_refl k)]) (show k < 4 by omega)) ?_
        refine rnT (a1) rfl ?_
        refine rnN 2 rfl ?_
        refine rnF (a2) rfl ?_
        refine rnN 8 rfl ?_
        simp (disch := omega) only [nI_add, pk_mul, pk_sub, nd8, nd4, nsub8, nand63, nand7, nshr2, nI_clamp, E_at, hup_at, hup_hup, hpt_def, pf_at, pf_at2, cf_at, h12_14, h14_12, h12_15, h15_12, h14_15, h15_14]
        refine rnC (inN (show 512 * k + 2 < 2048 by omega) (by decide)) rfl ?_
        simp (disch := omega) only [nI_clamp, mhpt, mh_mh]
        have e1 : up M (512 * k + 2) n = pf M k (up (W k) 2 n) := by
          rw [← pf_up (show 2 < 512 by decide), hMp k (Nat.le_refl k)]
        rw [e1]
        refine rnN 1 rfl ?_
        exact rnR rfl
  · refine ⟨vI (-1), h, h, k, W, U, Cl_deep (n := 4) (by decide) ?_, Cl_deep (n := 4) (by decide) ?_, S⟩
    · refine rnN 2 rfl ?_
      refine rnK rfl (c_top hn3 hk) ?_
      refine rnK rfl (c_blocks hw) ?_
      refine rnF (a1) rfl ?_
      refine rnN 1 rfl ?_
      exact rnR rfl
    · refine rnN 5 rfl ?_
      rw [m_top hn4]
      refine rnN 3 rfl ?_
      refine rnK rfl (m_sizeOf hw12 (show k < 4 by omega)) ?_
      refine rnF (a1) rfl ?_
      refine rnN 1 rfl ?_
      exact rnR rfl
end OP2
end
section
/-! ===== write, discard ===== -/
section OPW
variable {d k : Nat} {h : xH} {M : Nat → Nat} {W U : Nat → Nat → Nat} {f s : Nat → Int32}
theorem dat_sh {V : Nat → Nat} {u : Nat → Nat} (hi : Inv V u) (hV : V = W k) {b i : Nat} (hb : b < V 2) (hr : nLeaf V b ≤ rm V) (hi8 : i < 8) : datm (gL V b) W k b i = sh W k (awd V b) (8 * b + i) := by
  obtain ⟨u', hI, hu, ho, hrm, ha, hT, hH, hO⟩ := gL_spec hi hb hr
  have hs := hi.1
  have hb64 := hs.sz.2
  rw [sh_B, ix_div hi8, ix_mod hi8]
  unfold datm
  rw [ha]
  split
  · rfl
  · next h0 =>
    have h1 := T_bw (w := V) act_tb (show b < 64 by omega) h0
    have h1 : 1 ≤ T V (awd V b / 4) := h1
    have h2 := ((hs.bok act_tb (show b < 64 by omega)).lead h0).2.2
    have h3 : u (awd V b / 4) = 24 + (8 * (b / 8) + b % 8) := h2
    rw [hO _ (by rw [ix_div hi8]; omega) (by rw [ix_div hi8]; omega), hV]
/-- the reference's write, up to its test of the room -/
theorem mw_headE {a x : Nat} (hw : h (12, 0) = E (pf M k (flg (W k) (U k)))) (hn : h (4, 0) 2 = nI (k + 1)) (hk : k < 3) (hi : Inv (W k) (U k)) (ha : a < 8 * W k 2) :
    ∃ f', ∀ (r : Option xV) (hf : xH), Rn (d + 7) MX4_write 61 [some (vR (4, 0)), some (vI (nI a)), some (vI (nI x)), some (vI (nI k)), some (vI (nI (a / 8))), some (vI (nI (nLeaf (W k) (a / 8) + nClus (W k) (a / 8)))), none, none] [vI (nI (rm (W k)))] (mh h f' (pf M k (flg (W k) (U k)))) r hf → Cl (d + 7) MX4_write [vR (4, 0), vI (nI a), vI (nI x)] h r hf := by
  have hsf := (flg_inv hi).1
  have h2 := hi.1.sz.2
  have e2 : flg (W k) (U k) 2 = W k 2 := (flg_agr _ _).hdr (by decide)
  have hg : k < 4 := by omega
  have hll := m_lacksLeaf (d := d + 3) (M := M) hw hg hsf.1 (show a / 8 < 64 by omega)
  rw [fl_nLeaf hi (by omega)] at hll
  obtain ⟨f1, hf1⟩ : ∃ f1, f1 = cf (h (14, 0)) (T (flg (W k) (U k))) := ⟨_, rfl⟩
  rw [← hf1] at hll
  have hlc := m_lacksCluster (d := d + 3) (h := mh h f1 (pf M k (flg (W k) (U k)))) (M := M) mh_12 hg hsf.1 (show a / 8 < 64 by omega)
  rw [fl_nClus hi (by omega), mh_mh, mh_14] at hlc
  obtain ⟨f2, hf2⟩ : ∃ f2, f2 = cf f1 (T (flg (W k) (U k))) := ⟨_, rfl⟩
  rw [← hf2] at hlc
  have hrm := m_room (d := d + 3) (h := mh h f2 (pf M k (flg (W k) (U k)))) (M := M) mh_12 hg hsf
  rw [fl_rm hi, mh_mh, mh_14] at hrm
  have hl1 := nLeaf_le (W k) (a / 8)
  have hl2 := nClus_le (W k) (a / 8)
  refine ⟨cf f2 (T (flg (W k) (U k))), fun r hf K => ?_⟩
  have K2 : Rn (d + 7) MX4_write 53 [some (vR (4, 0)), some (vI (nI a)), some (vI (nI x)), some (vI (nI k)), some (vI (nI (a / 8))), none, none, none] [vI (nI (nClus (W k) (a / 8))), vI (nI (nLeaf (W k) (a / 8)))] (mh h f2 (pf M k (flg (W k) (U k)))) r hf := by
    refine rnN 4 rfl ?_
    simp (disch := omega) only [nI_add, pk_mul, pk_sub, nd8, nd4, nsub8, nand63, nand7, nshr2, nI_clamp, E_at, hup_at, hup_hup, hpt_def, pf_at, pf_at2, cf_at, h12_14, h14_12, h12_15, h15_12, h14_15, h15_14]
    refine rnK rfl (hrm) ?_
    exact K
  have K1 : Rn (d + 7) MX4_write 38 [some (vR (4, 0)), some (vI (nI a)), some (vI (nI x)), some (vI (nI k)), some (vI (nI (a / 8))), none, none, none] [vI (nI (nLeaf (W k) (a / 8)))] (mh h f1 (pf M k (flg (W k) (U k)))) r hf := by
    refine rnN 3 rfl ?_
    refine rnK rfl (hlc) ?_
    rcases (show nClus (W k) (a / 8) = 0 ∨ nClus (W k) (a / 8) = 1 by omega) with e | e
    · rw [e] at K2 ⊢
      refine rnN 2 rfl ?_
      exact K2
    · rw [e] at K2 ⊢
      refine rnN 3 rfl ?_
      exact K2
  refine rnN 5 rfl ?_
  rw [m_top hn]
  refine rnN 2 rfl ?_
  refine rnK rfl (m_isAddrT hw hn hk (by omega) (show a < 8 * flg (W k) (U k) 2 by omega)) ?_
  refine rnN 8 rfl ?_
  simp (disch := omega) only [nI_add, pk_mul, pk_sub, nd8, nd4, nsub8, nand63, nand7, nshr2, nI_clamp, E_at, hup_at, hup_hup, hpt_def, pf_at, pf_at2, cf_at, h12_14, h14_12, h12_15, h15_12, h14_15, h15_14]
  refine rnK rfl (hll) ?_
  rcases (show nLeaf (W k) (a / 8) = 0 ∨ nLeaf (W k) (a / 8) = 1 by omega) with e | e
  · rw [e] at K1 ⊢
    refine rnN 2 rfl ?_
    exact K1
  · rw [e] at K1 ⊢
    refine rnN 3 rfl ?_
    exact K1
theorem op_write (S : SI k W U h) (v vx : Int32) : OpOK MX3_write MX4_write [vI v, vI vx] h := by
  obtain ⟨M, hM, hMw, hMp⟩ := S.mem
  have hk := S.1
  have hi := S.inv (Nat.le_refl k)
  have hw := S.file (Nat.le_refl k)
  have hfl := S.fl (Nat.le_refl k)
  have hs := hi.1
  have h2 := hs.sz.2
  have hg : k < 4 := by omega
  have hw12 : h (12, 0) = E (pf M k (flg (W k) (U k))) := by rw [hM, hfl, hMp k (Nat.le_refl k)]
  have hw12' : h (12, 0) = E (pf M k (W k)) := by rw [hM, hMp k (Nat.le_refl k)]
  have hn3 := S.2.2.2.2.1
  have hn4 := S.2.2.2.2.2.1
  have hrml : rm (W k) ≤ 64 := by unfold rm; omega
  have hl1 := fun b => nLeaf_le (W k) b
  have hl2 := fun b => nClus_le (W k) b
  obtain ⟨x, hx, rfl⟩ : ∃ x, x < 4294967296 ∧ vx = nI x := ⟨tn vx, tn_lt _, (nI_tn vx).symm⟩
  rcases addr_cases h2 v with hv | ⟨a, ha, rfl⟩
  · refine ⟨vI (-1), h, h, k, W, U, Cl_deep (n := 4) (by decide) ?_, Cl_deep (n := 4) (by decide) ?_, S⟩
    · refine rnN 1 rfl ?_
      refine rnK rfl (c_top hn3 hk) ?_
      refine rnN 1 rfl ?_
      refine rnK rfl (c_hasAddrF hw hv) ?_
      refine rnN 2 rfl ?_
      exact rnR rfl
    · refine rnN 5 rfl ?_
      rw [m_top hn4]
      refine rnN 2 rfl ?_
      refine rnK rfl (m_isAddrF hw12' hn4 hk hv) ?_
      refine rnN 2 rfl ?_
      exact rnR rfl
  · have hb : a / 8 < W k 2 := by omega
    by_cases hr : nLeaf (W k) (a / 8) + nClus (W k) (a / 8) ≤ rm (W k)
    · obtain ⟨u1, hI1, hu1, ho1, hrm1, haw1, hT1, hH1, hO1⟩ := gL_spec hi hb (by omega)
      have hcl := gL_clus hi hb (by omega)
      have hr2 : nClus (W k) (a / 8) ≤ rm (gL (W k) (a / 8)) := by omega
      obtain ⟨u2, hI2, hu2, hc2, hc3, hc4, hc5, hc6, hH2, hA2, hrm2⟩ := gC_spec (dat := fun j => sh W k (awd (W k) (a / 8)) (8 * (a / 8) + j)) hI1 (by rw [hH1 2 (by decide)]; exact hb) ho1 (by omega) (fun j => sh_lt S.2.2.2.1 _ _ _)
      have e2 : gC (gL (W k) (a / 8)) (a / 8) (datm (gL (W k) (a / 8)) W k (a / 8)) = pW1 W k (a / 8) := gC_congr fun i hi8 => dat_sh hi rfl hb (by omega) hi8
      have hpw : pW1 W k (a / 8) = gC (gL (W k) (a / 8)) (a / 8) fun j => sh W k (awd (W k) (a / 8)) (8 * (a / 8) + j) := rfl
      rw [← hpw] at hI2 hc5 hc6 hH2
      obtain ⟨hI3, hfl3⟩ := flg_data hI2 (j := a % 8) (x := x) hc3 (by omega) (by omega) (by omega) hx
      have hpW : pW W k (a / 8) (a % 8) x = up (pW1 W k (a / 8)) (8 * gCc (gL (W k) (a / 8)) (a / 8) + a % 8) x := rfl
      rw [← hpW] at hI3 hfl3
      obtain ⟨hF1, hF2, hF3⟩ := flg_inv hI3
      obtain ⟨c, hc⟩ : ∃ c, c = gCc (gL (W k) (a / 8)) (a / 8) := ⟨_, rfl⟩
      rw [← hc] at hc2 hc3 hc4 hc5 hc6 hfl3
      have hH3 : ∀ p, p < 8 → flg (pW W k (a / 8) (a % 8) x) u2 p = W k p := fun p hp => by
        rw [hfl3, up_ne (by omega), (flg_agr _ _).hdr hp, hH2 p hp, hH1 p hp]
      obtain ⟨h1, hh1⟩ : ∃ h1, h1 = hup h (10, k) (E (flg (pW W k (a / 8) (a % 8) x) u2)) := ⟨_, rfl⟩
      have n1 : ∀ q : xP, q ≠ (10, k) → h1 q = h q := fun q hq => by rw [hh1, hup_ne hq]
      have q12 : h1 (12, 0) = E (pf M k (flg (W k) (U k))) := by rw [n1 _ (fun e => by injection e with e1 e2; omega)]; exact hw12
      have q4 : h1 (4, 0) 2 = nI (k + 1) := by rw [n1 _ (fun e => by injection e with e1 e2; omega)]; exact hn4
      have key : ∃ f' s', Cl 8 MX4_write [vR (4, 0), vI (nI a), vI (nI x)] h1 (some (vI (nI (nLeaf (W k) (a / 8) + nClus (W k) (a / 8))))) (mh (hup h1 (15, 0) s') f' (pf M k (flg (pW W k (a / 8) (a % 8) x) u2))) := by
        rw [← e2] at hI2 hfl3 hc5 hc6
        have hsf2 := (flg_inv hI2).1.1
        obtain ⟨V2, hV2⟩ : ∃ V2, V2 = gC (gL (W k) (a / 8)) (a / 8) (datm (gL (W k) (a / 8)) W k (a / 8)) := ⟨_, rfl⟩
        have hk1 : ∀ f0, ∃ f' s', Rn 8 MX4_write 61 [some (vR (4, 0)), some (vI (nI a)), some (vI (nI x)), some (vI (nI k)), some (vI (nI (a / 8))), some (vI (nI (nLeaf (W k) (a / 8) + nClus (W k) (a / 8)))), none, none] [vI (nI (rm (W k)))] (mh h1 f0 (pf M k (flg (W k) (U k)))) (some (vI (nI (nLeaf (W k) (a / 8) + nClus (W k) (a / 8))))) (mh (hup h1 (15, 0) s') f' (pf M k (flg (pW W k (a / 8) (a % 8) x) u2))) := by
          intro f0
          obtain ⟨f1, s1, hown⟩ := m_own (d := 1) (h := mh h1 f0 (pf M k (flg (W k) (U k)))) (M := M) (W := W) (U := U) (nb := k) mh_12 hg hi hb (by omega) hr2 (by omega) (S.hW hMw) S.2.2.2.1 hI2
          rw [mh_15, mh_mh] at hown
          refine ⟨f1, s1, ?_⟩
          rw [← hV2] at hown hI2 hsf2 hfl3 hc6
          have haw2 := (fl_aw hI2.1 (show a / 8 < 64 by omega)).1
          rw [hc6] at haw2
          refine rnN 1 rfl ?_
          refine rnF (nI_nlt hr (by omega)) rfl ?_
          refine rnN 5 rfl ?_
          rw [jm_top]
          refine rnN 1 rfl ?_
          refine rnK rfl (hown) ?_
          refine rnN 6 rfl ?_
          refine rnK rfl (m_table (n := 0) mh_12 hg hsf2.l6 (by decide)) ?_
          rw [show tbn (flg V2 u2) 0 = flg V2 u2 3 from rfl]
          refine rnN 1 rfl ?_
          refine rnK rfl (m_entry mh_12 hg hsf2 act_tb (show a / 8 < 64 by omega)) ?_
          rw [show bwd (flg V2 u2) (flg V2 u2 3) (a / 8) = awd (flg V2 u2) (a / 8) from rfl]
          have hawl : awd (flg V2 u2) (a / 8) < 256 := (hsf2.bok act_tb (show a / 8 < 64 by omega)).lt
          refine rnN 7 rfl ?_
          simp (disch := omega) only [nI_add, pk_mul, pk_sub, nd8, nd4, nsub8, nand63, nand7, nshr2, nI_clamp, E_at, hup_at, hup_hup, hpt_def, pf_at, pf_at2, cf_at, h12_14, h14_12, h12_15, h15_12, h14_15, h15_14]
          rw [haw2]
          refine rnK rfl (m_at) ?_
          refine rnN 5 rfl ?_
          simp (disch := omega) only [nI_add, pk_mul, pk_sub, nd8, nd4, nsub8, nand63, nand7, nshr2, nI_clamp, E_at, hup_at, hup_hup, hpt_def, pf_at, pf_at2, cf_at, h12_14, h14_12, h12_15, h15_12, h14_15, h15_14]
          refine rnC (inN (show 512 * k + 8 * c + a % 8 < 2048 by omega) (by decide)) rfl ?_
          simp (disch := omega) only [nI_clamp, mhpt]
          rw [show 512 * k + 8 * c + a % 8 = 512 * k + (8 * c + a % 8) by omega, pf_up (show 8 * c + a % 8 < 512 by omega), ← hfl3]
          refine rnN 1 rfl ?_
          exact rnR rfl
        obtain ⟨f1, hf1⟩ : ∃ f1 : (Nat → Int32) → Nat → Int32, ∀ f0, ∃ s', Rn 8 MX4_write 61 [some (vR (4, 0)), some (vI (nI a)), some (vI (nI x)), some (vI (nI k)), some (vI (nI (a / 8))), some (vI (nI (nLeaf (W k) (a / 8) + nClus (W k) (a / 8)))), none, none] [vI (nI (rm (W k)))] (mh h1 f0 (pf M k (flg (W k) (U k)))) (some (vI (nI (nLeaf (W k) (a / 8) + nClus (W k) (a / 8))))) (mh (hup h1 (15, 0) s') (f1 f0) (pf M k (flg (pW W k (a / 8) (a % 8) x) u2))) := ⟨fun f0 => Classical.choose (hk1 f0), fun f0 => Classical.choose_spec (hk1 f0)⟩
        obtain ⟨fE, hfE⟩ := mw_headE (d := 1) (x := x) q12 q4 hk hi ha
        obtain ⟨s', hs'⟩ := hf1 fE
        exact ⟨f1 fE, s', hfE _ _ hs'⟩
      obtain ⟨f', s', hm⟩ := key
      refine ⟨vI (nI (nLeaf (W k) (a / 8) + nClus (W k) (a / 8))), h1, mh (hup h1 (15, 0) s') f' (pf M k (flg (pW W k (a / 8) (a % 8) x) u2)), k, setW W k (flg (pW W k (a / 8) (a % 8) x) u2), setW U k u2, Cl_deep (n := 6) (by decide) ?_, hm, ?_⟩
      · rw [hh1]
        refine rnN 1 rfl ?_
        refine rnK rfl (c_top hn3 hk) ?_
        refine rnN 1 rfl ?_
        refine rnK rfl (c_hasAddrT hw h2 ha) ?_
        refine rnN 2 rfl ?_
        refine rnK rfl (c_top hn3 hk) ?_
        refine rnN 2 rfl ?_
        refine rnK rfl (c_putWord (fun j hj => ⟨S.file hj, S.inv hj⟩) ha hr hx hI3) ?_
        refine rnN 1 rfl ?_
        exact rnR rfl
      · rw [hh1]
        exact SI_upd S hF1 hF3 (fun e => by rw [hH3 5 (by decide)] at e; rw [hH3 6 (by decide)]; exact (S.2.1 k (Nat.le_refl k)).2.2.2 e) (by rw [hH3 2 (by decide)]; exact Nat.le_refl _) hMw
    · obtain ⟨fE, hfE⟩ := mw_headE (d := 1) (x := x) hw12 hn4 hk hi ha
      have e3 : pf M k (flg (W k) (U k)) = M := by rw [hfl, hMp k (Nat.le_refl k)]
      refine ⟨vI (-2), h, mh h fE M, k, W, U, Cl_deep (n := 6) (by decide) ?_, ?_, SI_cnt S hM⟩
      · refine rnN 1 rfl ?_
        refine rnK rfl (c_top hn3 hk) ?_
        refine rnN 1 rfl ?_
        refine rnK rfl (c_hasAddrT hw h2 ha) ?_
        refine rnN 2 rfl ?_
        refine rnK rfl (c_top hn3 hk) ?_
        refine rnN 2 rfl ?_
        refine rnK rfl (c_putWordF hw hi ha hr) ?_
        refine rnN 1 rfl ?_
        exact rnR rfl
      · refine hfE _ _ ?_
        rw [e3]
        have := hl1 (a / 8)
        have := hl2 (a / 8)
        refine rnN 1 rfl ?_
        refine rnT (nI_lt (Nat.lt_of_not_le hr) (by omega)) rfl ?_
        refine rnN 1 rfl ?_
        exact rnR rfl
/-- the reference's discard, up to its test of the room -/
theorem dis_head {b : Nat} {r : Option xV} {hf : xH} (hw : h (12, 0) = E (pf M k (flg (W k) (U k)))) (hn : h (4, 0) 2 = nI (k + 1)) (hk : k < 3) (hi : Inv (W k) (U k)) (hb : b < W k 2) (hd : dch k (awd (W k) b) = true)
    (K : Rn 8 MX4_discard 50 [some (vR (4, 0)), some (vI (nI b)), some (vI (nI k)), some (vI (nI (awd (flg (W k) (U k)) b)))] [] h r hf) : Cl 8 MX4_discard [vR (4, 0), vI (nI b)] h r hf := by
  have h2 := hi.1.sz.2
  have e2 : flg (W k) (U k) 2 = W k 2 := (flg_agr _ _).hdr (by decide)
  have hg : k < 4 := by omega
  have hsf := (flg_inv hi).1.1
  have hB := hi.1.bok act_tb (show b < 64 by omega)
  have hBf := (hsf.bok act_tb (show b < 64 by omega)).lt
  have hBf : awd (flg (W k) (U k)) b < 256 := hBf
  have hfa := fl_aw hi.1 (show b < 64 by omega)
  have hne := dch_ne hd (fun e => hB.flat e)
  have hn2 : awd (flg (W k) (U k)) b ≠ 2 := fun e => by
    have h4 : awd (W k) b / 4 = 0 := by omega
    rw [hfa.2 h4] at e
    exact hne.1 e
  refine rnN 5 rfl ?_
  rw [m_top hn]
  refine rnN 1 rfl ?_
  refine rnF (nI_pos (show b < 2147483648 by omega)) rfl ?_
  refine rnN 3 rfl ?_
  refine rnK rfl (m_sizeOf hw hg) ?_
  rw [e2]
  refine rnT (nI_lt hb (by omega)) rfl ?_
  refine rnN 5 rfl ?_
  refine rnK rfl (m_table (n := 0) hw hg hsf.l6 (by decide)) ?_
  rw [show tbn (flg (W k) (U k)) 0 = flg (W k) (U k) 3 from rfl]
  refine rnN 1 rfl ?_
  refine rnK rfl (m_entry hw hg hsf act_tb (show b < 64 by omega)) ?_
  rw [show bwd (flg (W k) (U k)) (flg (W k) (U k) 3) b = awd (flg (W k) (U k)) b from rfl]
  refine rnN 3 rfl ?_
  refine rnF ((show ¬ nI (awd (flg (W k) (U k)) b) = nI 2 from fun e => hn2 ((neq (by omega) (by decide)).mp e))) rfl ?_
  refine rnN 1 rfl ?_
  by_cases h0 : awd (flg (W k) (U k)) b = 0
  · have h4 : awd (W k) b / 4 = 0 := by omega
    have hv0 : awd (W k) b = 0 := by rw [← hfa.2 h4]; exact h0
    have hk0 := hne.2 hv0
    refine rnT ((show nI (awd (flg (W k) (U k)) b) = 0 by rw [h0]; rfl)) rfl ?_
    refine rnN 1 rfl ?_
    refine rnF (nI_ne0 (show 0 < k by omega) (by omega)) rfl ?_
    exact K
  · refine rnF (nI_ne0 (Nat.pos_of_ne_zero h0) (by omega)) rfl ?_
    exact K
theorem op_discard (S : SI k W U h) (v : Int32) : OpOK MX3_discard MX4_discard [vI v] h := by
  obtain ⟨M, hM, hMw, hMp⟩ := S.mem
  have hk := S.1
  have hi := S.inv (Nat.le_refl k)
  have hw := S.file (Nat.le_refl k)
  have hfl := S.fl (Nat.le_refl k)
  have hs := hi.1
  have h2 := hs.sz.2
  have hg : k < 4 := by omega
  have hw12 : h (12, 0) = E (pf M k (flg (W k) (U k))) := by rw [hM, hfl, hMp k (Nat.le_refl k)]
  have hw12' : h (12, 0) = E (pf M k (W k)) := by rw [hM, hMp k (Nat.le_refl k)]
  have e3 : pf M k (flg (W k) (U k)) = M := by rw [hfl, hMp k (Nat.le_refl k)]
  have hn3 := S.2.2.2.2.1
  have hn4 := S.2.2.2.2.2.1
  have hrml : rm (W k) ≤ 64 := by unfold rm; omega
  have hl1 := fun b => nLeaf_le (W k) b
  have hv3 : (v < 0 ∨ nI (W k 2) ≤ v) ∨ ∃ b, b < W k 2 ∧ v = nI b := by
    rcases pk_ix v (n := W k 2) (by omega) with h | h | h
    · exact Or.inl (Or.inl h)
    · exact Or.inl (Or.inr h)
    · exact Or.inr h
  rcases hv3 with hv | ⟨b, hb, rfl⟩
  · refine ⟨vI (-1), h, h, k, W, U, Cl_deep (n := 4) (by decide) ?_, Cl_deep (n := 4) (by decide) ?_, S⟩
    · refine rnN 1 rfl ?_
      refine rnK rfl (c_top hn3 hk) ?_
      refine rnN 1 rfl ?_
      refine rnK rfl (c_hasBlockF hw hv) ?_
      refine rnN 2 rfl ?_
      exact rnR rfl
    · refine rnN 5 rfl ?_
      rw [m_top hn4]
      refine rnN 1 rfl ?_
      by_cases h0 : v < 0
      · refine rnT (h0) rfl ?_
        refine rnN 1 rfl ?_
        exact rnR rfl
      · refine rnF (h0) rfl ?_
        refine rnN 3 rfl ?_
        refine rnK rfl (m_sizeOf hw12' hg) ?_
        refine rnF ((Int32.not_lt.mpr (hv.resolve_left h0))) rfl ?_
        refine rnN 1 rfl ?_
        exact rnR rfl
  · by_cases hd : dch k (awd (W k) b) = true
    · have hll := fun (h1 : xH) (q12 : h1 (12, 0) = E (pf M k (flg (W k) (U k)))) => by
        have h9 := m_lacksLeaf (d := 4) (h := h1) (M := M) q12 hg (flg_inv hi).1.1 (show b < 64 by omega)
        rw [fl_nLeaf hi (by omega)] at h9
        exact h9
      have hbe := hl1 b
      by_cases hr : nLeaf (W k) b ≤ rm (W k)
      · obtain ⟨u3, hI3, hH3⟩ := dB_spec hi hb hr
        obtain ⟨hF1, hF2, hF3⟩ := flg_inv hI3
        have hH4 : ∀ p, p < 8 → flg (dB (W k) b) u3 p = W k p := fun p hp => by rw [(flg_agr _ _).hdr hp, hH3 p hp]
        obtain ⟨h1, hh1⟩ : ∃ h1, h1 = hup h (10, k) (E (flg (dB (W k) b) u3)) := ⟨_, rfl⟩
        have n1 : ∀ q : xP, q ≠ (10, k) → h1 q = h q := fun q hq => by rw [hh1, hup_ne hq]
        have q12 : h1 (12, 0) = E (pf M k (flg (W k) (U k))) := by rw [n1 _ (fun e => by injection e with e1 e2; omega)]; exact hw12
        have q4 : h1 (4, 0) 2 = nI (k + 1) := by rw [n1 _ (fun e => by injection e with e1 e2; omega)]; exact hn4
        have hl := hll h1 q12
        obtain ⟨f1, hf1⟩ : ∃ f1, f1 = cf (h1 (14, 0)) (T (flg (W k) (U k))) := ⟨_, rfl⟩
        rw [← hf1] at hl
        have hrmM := m_room (d := 4) (h := mh h1 f1 (pf M k (flg (W k) (U k)))) (M := M) mh_12 hg (flg_inv hi).1
        rw [fl_rm hi, mh_mh, mh_14] at hrmM
        have hdr := fun f0 => m_drop (d := 1) (h := mh h1 f0 (pf M k (flg (W k) (U k)))) (M := M) (nb := k) mh_12 hg hi hb (by omega) hd hr hI3
        have key : ∃ f', Cl 8 MX4_discard [vR (4, 0), vI (nI b)] h1 (some (vI (nI (nLeaf (W k) b)))) (mh h1 f' (pf M k (flg (dB (W k) b) u3))) := by
          rcases (show nLeaf (W k) b = 0 ∨ nLeaf (W k) b = 1 by omega) with e | e
          · obtain ⟨f', hc⟩ := hdr f1
            rw [mh_mh] at hc
            refine ⟨f', dis_head q12 q4 hk hi hb hd ?_⟩
            rw [e] at hl hc ⊢
            refine rnN 3 rfl ?_
            refine rnK rfl (hl) ?_
            refine rnN 6 rfl ?_
            rw [jm_top]
            refine rnN 1 rfl ?_
            refine rnK rfl (hc) ?_
            exact rnR rfl
          · obtain ⟨f', hc⟩ := hdr (cf f1 (T (flg (W k) (U k))))
            rw [mh_mh] at hc
            refine ⟨f', dis_head q12 q4 hk hi hb hd ?_⟩
            rw [e] at hl hc hr ⊢
            refine rnN 3 rfl ?_
            refine rnK rfl (hl) ?_
            refine rnN 3 rfl ?_
            refine rnK rfl (hrmM) ?_
            refine rnN 1 rfl ?_
            refine rnF (nI_nlt hr (by omega)) rfl ?_
            refine rnN 5 rfl ?_
            rw [jm_top]
            refine rnN 1 rfl ?_
            refine rnK rfl (hc) ?_
            exact rnR rfl
        obtain ⟨f', hm⟩ := key
        refine ⟨vI (nI (nLeaf (W k) b)), h1, mh h1 f' (pf M k (flg (dB (W k) b) u3)), k, setW W k (flg (dB (W k) b) u3), setW U k u3, Cl_deep (n := 6) (by decide) ?_, hm, ?_⟩
        · rw [hh1]
          refine rnN 1 rfl ?_
          refine rnK rfl (c_top hn3 hk) ?_
          refine rnN 1 rfl ?_
          refine rnK rfl (c_hasBlockT hw h2 hb) ?_
          refine rnN 2 rfl ?_
          refine rnK rfl (c_top hn3 hk) ?_
          refine rnN 1 rfl ?_
          refine rnK rfl (c_dropBlock hw hi hb hd hr hI3) ?_
          refine rnN 1 rfl ?_
          exact rnR rfl
        · have h9 := SI_upd (s := h1 (15, 0)) (f := f') S hF1 hF3 (fun e => by rw [hH4 5 (by decide)] at e; rw [hH4 6 (by decide)]; exact (S.2.1 k (Nat.le_refl k)).2.2.2 e) (by rw [hH4 2 (by decide)]; exact Nat.le_refl _) hMw
          rw [← hh1, hup_self rfl] at h9
          exact h9
      · have e1 : nLeaf (W k) b = 1 := by omega
        have hl := hll h hw12
        rw [e1] at hl
        obtain ⟨f1, hf1⟩ : ∃ f1, f1 = cf (h (14, 0)) (T (flg (W k) (U k))) := ⟨_, rfl⟩
        rw [← hf1] at hl
        have hrmM := m_room (d := 4) (h := mh h f1 (pf M k (flg (W k) (U k)))) (M := M) mh_12 hg (flg_inv hi).1
        rw [fl_rm hi, mh_mh, mh_14] at hrmM
        refine ⟨vI (-2), h, mh h (cf f1 (T (flg (W k) (U k)))) M, k, W, U, Cl_deep (n := 6) (by decide) ?_, ?_, SI_cnt S hM⟩
        · refine rnN 1 rfl ?_
          refine rnK rfl (c_top hn3 hk) ?_
          refine rnN 1 rfl ?_
          refine rnK rfl (c_hasBlockT hw h2 hb) ?_
          refine rnN 2 rfl ?_
          refine rnK rfl (c_top hn3 hk) ?_
          refine rnN 1 rfl ?_
          refine rnK rfl (c_dropBlockF hw hi hb hd hr) ?_
          refine rnN 1 rfl ?_
          exact rnR rfl
        · refine dis_head hw12 hn4 hk hi hb hd ?_
          refine rnN 3 rfl ?_
          refine rnK rfl (hl) ?_
          refine rnN 3 rfl ?_
          refine rnK rfl (hrmM) ?_
          refine rnN 1 rfl ?_
          refine rnT (nI_lt (show rm (W k) < 1 by omega) (by decide)) rfl ?_
          refine rnN 1 rfl ?_
          rw [e3]
          exact rnR rfl
    · have hB := hi.1.bok act_tb (show b < 64 by omega)
      have h4 : awd (W k) b / 4 = 0 := Classical.byContradiction fun e => hd (decide_eq_true (Or.inl e))
      refine ⟨vI (nI 0), h, h, k, W, U, Cl_deep (n := 6) (by decide) ?_, ?_, S⟩
      · refine rnN 1 rfl ?_
        refine rnK rfl (c_top hn3 hk) ?_
        refine rnN 1 rfl ?_
        refine rnK rfl (c_hasBlockT hw h2 hb) ?_
        refine rnN 2 rfl ?_
        refine rnK rfl (c_top hn3 hk) ?_
        refine rnN 1 rfl ?_
        refine rnK rfl (c_dropBlock0 hw hi hb hd) ?_
        refine rnN 1 rfl ?_
        exact rnR rfl
      · refine rnN 5 rfl ?_
        rw [m_top hn4]
        refine rnN 1 rfl ?_
        refine rnF (nI_pos (show b < 2147483648 by omega)) rfl ?_
        refine rnN 3 rfl ?_
        refine rnK rfl (m_sizeOf hw12' hg) ?_
        refine rnT (nI_lt hb (by omega)) rfl ?_
        refine rnN 5 rfl ?_
        refine rnK rfl (m_table (n := 0) hw12' hg hs.l6 (by decide)) ?_
        rw [show tbn (W k) 0 = W k 3 from rfl]
        refine rnN 1 rfl ?_
        refine rnK rfl (m_entry hw12' hg hs act_tb (show b < 64 by omega)) ?_
        rw [show bwd (W k) (W k 3) b = awd (W k) b from rfl]
        refine rnN 3 rfl ?_
        rcases hB.flat h4 with e | e
        · have e : awd (W k) b = 0 := e
          have en : k = 0 := Classical.byContradiction fun e2 => hd (decide_eq_true (Or.inr ⟨e, e2⟩))
          rw [e, en]
          refine rnN 6 rfl ?_
          exact rnR rfl
        · have e : awd (W k) b = 2 := e
          rw [e]
          refine rnN 2 rfl ?_
          exact rnR rfl
end OPW
end
section
/-! ===== revert, delete, snapshot ===== -/
section OPN
variable {d k : Nat} {h : xH} {M : Nat → Nat} {W U : Nat → Nat → Nat} {f s : Nat → Int32}
theorem stl_hdr {R u : Nat → Nat} (hs : Str R u) {p : Nat} (hp : p < 8) : stl R u p = R p := by
  unfold stl
  rw [(flg_agr _ _).hdr hp]
  exact (clo_agr hs).hdr hp
theorem Agr.clo {v R u : Nat → Nat} (h : Agr v R u) (hs : Str R u) : Agr v (clo R u) u := fun p hT hu => by
  rw [(clo_agr hs).eT hs] at hT
  rw [clo_out hs hT hu]
  exact h p hT hu
/-- a call that settles raw words R of the top image -/
theorem op_settled {m3 m4 : Nat} {as : List xV} {r : xV} {R u' : Nat → Nat} (S : SI k W U h) (hS : Str R u') (hI : Inv (clo R u') u') (h60 : R 5 = 0 → R 6 = 0) (h2 : W k 2 ≤ R 2) (hM : ∀ j p, j ≤ k → p < 512 → M (512 * j + p) = W j p)
    (c3 : Cl 8 m3 (vR (3, 0) :: as) h (some r) (hup h (10, k) (E (stl R u')))) (c4 : ∃ f', Cl 8 m4 (vR (4, 0) :: as) (hup h (10, k) (E (stl R u'))) (some r) (mh (hup h (10, k) (E (stl R u'))) f' (pf M k (stl R u')))) : OpOK m3 m4 as h := by
  obtain ⟨f', c4⟩ := c4
  obtain ⟨hF1, hF2, hF3⟩ := flg_inv hI
  have h9 := SI_upd (s := hup h (10, k) (E (stl R u')) (15, 0)) (f := f') S (w' := stl R u') (u' := u') hF1 hF3 (fun e => by rw [stl_hdr hS (by decide)] at e ⊢; exact h60 e) (by rw [stl_hdr hS (by decide)]; exact h2) hM
  rw [hup_self rfl] at h9
  exact ⟨r, _, _, k, _, _, c3, c4, h9⟩
theorem op_revert (S : SI k W U h) (v0 : Int32) : OpOK MX3_revert MX4_revert [vI v0] h := by
  obtain ⟨M, hM, hMw, hMp⟩ := S.mem
  have hk := S.1
  have hi := S.inv (Nat.le_refl k)
  have hw := S.file (Nat.le_refl k)
  have hs := hi.1
  have h6 := hs.l6
  have hns := hs.ns
  have hg : k < 4 := by omega
  have hw12 : h (12, 0) = E (pf M k (W k)) := by rw [hM, hMp k (Nat.le_refl k)]
  have hn3 := S.2.2.2.2.1
  have hn4 := S.2.2.2.2.2.1
  have hb := hi.2.2.2.2
  obtain ⟨n, hnn, rfl⟩ : ∃ n, n < 4294967296 ∧ v0 = nI n := ⟨tn v0, tn_lt _, (nI_tn v0).symm⟩
  rcases name_cases (W k) n with hl | ⟨j, hj, he, hl⟩
  · refine ⟨vI (-1), h, h, k, W, U, Cl_deep (n := 4) (by decide) ?_, Cl_deep (n := 4) (by decide) ?_, S⟩
    · refine rnN 1 rfl ?_
      refine rnK rfl (c_top hn3 hk) ?_
      refine rnN 1 rfl ?_
      refine rnK rfl (c_namedF hw h6 hns.1 hb hnn hl) ?_
      refine rnN 4 rfl ?_
      exact rnR rfl
    · refine rnN 5 rfl ?_
      rw [m_top hn4]
      refine rnN 2 rfl ?_
      refine rnK rfl (m_namedF hw12 hn4 hk h6 hns.1 hb hnn hl) ?_
      refine rnN 4 rfl ?_
      exact rnR rfl
  · obtain ⟨hS, hT, hI, hO, hA⟩ := rv_spec hi hj
    have htj := hs.tab hj
    have hact := hs.act
    have hne : tab (W k) j ≠ W k 3 := fun e => by rw [e] at htj; omega
    refine op_settled (r := vI (nI 0)) S hS hI (fun e => by rw [hO 5 (by omega)] at e; omega) (by rw [hO 2 (by omega)]; exact Nat.le_refl _) hMw (Cl_deep (n := 6) (by decide) ?_) ?_
    · refine rnN 1 rfl ?_
      refine rnK rfl (c_top hn3 hk) ?_
      refine rnN 1 rfl ?_
      refine rnK rfl (c_namedT hw h6 hns.1 hj hb hnn he hl) ?_
      refine rnN 2 rfl ?_
      refine rnF (nI_pos (show j < 2147483648 by omega)) rfl ?_
      refine rnN 1 rfl ?_
      refine rnK rfl (c_top hn3 hk) ?_
      refine rnN 1 rfl ?_
      refine rnK rfl (c_returnTo hw hi hj) ?_
      refine rnN 1 rfl ?_
      exact rnR rfl
    · obtain ⟨h1, hh1⟩ : ∃ h1, h1 = hup h (10, k) (E (stl (rvR (W k) j) (U k))) := ⟨_, rfl⟩
      rw [← hh1]
      have n1 : ∀ q : xP, q ≠ (10, k) → h1 q = h q := fun q hq => by rw [hh1, hup_ne hq]
      have q12 : h1 (12, 0) = E (pf M k (W k)) := by rw [n1 _ (fun e => by injection e with e1 e2; omega)]; exact hw12
      have q4 : h1 (4, 0) 2 = nI (k + 1) := by rw [n1 _ (fun e => by injection e with e1 e2; omega)]; exact hn4
      have hst := m_settle (d := 4) (h := mh h1 (h1 (14, 0)) (pf M k (rvR (W k) j))) (M := M) mh_12 hg hS
      rw [mh_mh, mh_14] at hst
      refine ⟨cf (h1 (14, 0)) (T (rvR (W k) j)), ?_⟩
      refine rnN 5 rfl ?_
      rw [m_top q4]
      refine rnN 2 rfl ?_
      refine rnK rfl (m_namedT q12 q4 hk h6 hns.1 hj hb hnn he hl) ?_
      refine rnN 2 rfl ?_
      refine rnF (nI_pos (show j < 2147483648 by omega)) rfl ?_
      refine rnN 3 rfl ?_
      refine rnK rfl (m_table (n := j + 1) q12 hg h6 (by omega)) ?_
      rw [show tbn (W k) (j + 1) = tab (W k) j from rfl]
      refine rnN 4 rfl ?_
      refine rnK rfl (m_table (n := 0) q12 hg h6 (by decide)) ?_
      rw [show tbn (W k) 0 = W k 3 from rfl]
      refine rnN 3 rfl ?_
      have e0 : h1 = mh h1 (h1 (14, 0)) (pf M k fun p => if p / 8 = W k 3 ∧ p % 8 < 0 then W k (8 * tab (W k) j + p % 8) else W k p) := by
        rw [pf_congr (v := fun p => if p / 8 = W k 3 ∧ p % 8 < 0 then W k (8 * tab (W k) j + p % 8) else W k p) (w := W k) (fun p _ => by rw [if_neg (by omega)])]
        unfold mh
        rw [hup_self (p := (14, 0)) rfl, hup_self q12]
      refine rnH e0 ?_
      refine lpN 8 (fun i => Rn 8 MX4_revert 38 [some (vR (4, 0)), some (vI (nI n)), some (vI (nI k)), some (vI (nI j)), some (vI (nI (512 * k + 8 * tab (W k) j))), some (vI (nI (512 * k + 8 * W k 3))), some (vI (nI i))] [] (mh h1 (h1 (14, 0)) (pf M k fun p => if p / 8 = W k 3 ∧ p % 8 < i then W k (8 * tab (W k) j + p % 8) else W k p)) (some (vI (nI 0))) (mh h1 (cf (h1 (14, 0)) (T (rvR (W k) j))) (pf M k (stl (rvR (W k) j) (U k))))) (fun i hi8 K => ?_) ?_
      · refine rnN 2 rfl ?_
        refine rnT (nI_lt hi8 (by decide)) rfl ?_
        refine rnN 10 rfl ?_
        simp (disch := omega) only [nI_add, pk_mul, pk_sub, nd8, nd4, nsub8, nand63, nand7, nshr2, nI_clamp, E_at, hup_at, hup_hup, hpt_def, pf_at, pf_at2, cf_at, h12_14, h14_12, h12_15, h15_12, h14_15, h15_14]
        refine rnC (inN (show 512 * k + 8 * tab (W k) j + i < 2048 by omega) (by decide)) rfl ?_
        simp (disch := omega) only [nI_add, pk_mul, pk_sub, nd8, nd4, nsub8, nand63, nand7, nshr2, nI_clamp, E_at, hup_at, hup_hup, hpt_def, pf_at, pf_at2, cf_at, h12_14, h14_12, h12_15, h15_12, h14_15, h15_14, mh_12]
        rw [if_neg (show ¬ ((8 * tab (W k) j + i) / 8 = W k 3 ∧ (8 * tab (W k) j + i) % 8 < i) by omega)]
        refine rnC (inN (show 512 * k + 8 * W k 3 + i < 2048 by omega) (by decide)) rfl ?_
        simp (disch := omega) only [nI_clamp, mhpt]
        rw [show 512 * k + 8 * W k 3 + i = 512 * k + (8 * W k 3 + i) by omega, pf_up (show 8 * W k 3 + i < 512 by omega)]
        refine rnN 2 rfl ?_
        simp (disch := omega) only [nI_add, pk_mul, pk_sub, nd8, nd4, nsub8, nand63, nand7, nshr2, nI_clamp, E_at, hup_at, hup_hup, hpt_def, pf_at, pf_at2, cf_at, h12_14, h14_12, h12_15, h15_12, h14_15, h15_14]
        refine rnH ?_ K
        congr 2
        funext p
        simp only [up]
        by_cases e : p = 8 * W k 3 + i
        · rw [if_pos e, if_pos (by omega), e, ix_mod hi8]
        · rw [if_neg e]
          by_cases e2 : p / 8 = W k 3 ∧ p % 8 < i
          · rw [if_pos e2, if_pos (show p / 8 = W k 3 ∧ p % 8 < i + 1 by omega)]
          · rw [if_neg e2, if_neg (show ¬ (p / 8 = W k 3 ∧ p % 8 < i + 1) by omega)]
      · refine rnN 3 rfl ?_
        have e1 : (fun p => if p / 8 = W k 3 ∧ p % 8 < 8 then W k (8 * tab (W k) j + p % 8) else W k p) = rvR (W k) j := by
          funext p
          unfold rvR cpc
          by_cases e2 : p / 8 = W k 3
          · rw [if_pos e2, if_pos ⟨e2, by omega⟩]
          · rw [if_neg e2, if_neg (fun z => e2 z.1)]
        rw [e1]
        refine rnN 2 rfl ?_
        refine rnK rfl (hst) ?_
        refine rnN 1 rfl ?_
        exact rnR rfl
theorem op_delete (S : SI k W U h) (v0 : Int32) : OpOK MX3_delete MX4_delete [vI v0] h := by
  obtain ⟨M, hM, hMw, hMp⟩ := S.mem
  have hk := S.1
  have hi := S.inv (Nat.le_refl k)
  have hw := S.file (Nat.le_refl k)
  have hs := hi.1
  have h6 := hs.l6
  have hns := hs.ns
  have hg : k < 4 := by omega
  have hw12 : h (12, 0) = E (pf M k (W k)) := by rw [hM, hMp k (Nat.le_refl k)]
  have hn3 := S.2.2.2.2.1
  have hn4 := S.2.2.2.2.2.1
  have hb := hi.2.2.2.2
  obtain ⟨n, hnn, rfl⟩ : ∃ n, n < 4294967296 ∧ v0 = nI n := ⟨tn v0, tn_lt _, (nI_tn v0).symm⟩
  rcases name_cases (W k) n with hl | ⟨j, hj, he, hl⟩
  · refine ⟨vI (-1), h, h, k, W, U, Cl_deep (n := 4) (by decide) ?_, Cl_deep (n := 4) (by decide) ?_, S⟩
    · refine rnN 1 rfl ?_
      refine rnK rfl (c_top hn3 hk) ?_
      refine rnN 1 rfl ?_
      refine rnK rfl (c_namedF hw h6 hns.1 hb hnn hl) ?_
      refine rnN 4 rfl ?_
      exact rnR rfl
    · refine rnN 5 rfl ?_
      rw [m_top hn4]
      refine rnN 2 rfl ?_
      refine rnK rfl (m_namedF hw12 hn4 hk h6 hns.1 hb hnn hl) ?_
      refine rnN 4 rfl ?_
      exact rnR rfl
  · obtain ⟨hS, hT, hI, hO⟩ := dl_spec hi hj
    have h60 := hns.2 (show W k 5 ≠ 0 by omega)
    have e5 : dlR (W k) j 5 = W k 5 - 1 := if_pos rfl
    have e6 : dlR (W k) j 6 = if W k 5 = 1 then 0 else W k 6 := by unfold dlR; rw [if_neg (by decide), if_pos rfl]
    refine op_settled (r := vI (nI 0)) S hS hI (fun e => by rw [e5] at e; rw [e6, if_pos (by omega)]) (by rw [hO 2 (by decide) (by decide) (by omega)]; exact Nat.le_refl _) hMw (Cl_deep (n := 6) (by decide) ?_) ?_
    · refine rnN 1 rfl ?_
      refine rnK rfl (c_top hn3 hk) ?_
      refine rnN 1 rfl ?_
      refine rnK rfl (c_namedT hw h6 hns.1 hj hb hnn he hl) ?_
      refine rnN 2 rfl ?_
      refine rnF (nI_pos (show j < 2147483648 by omega)) rfl ?_
      refine rnN 1 rfl ?_
      refine rnK rfl (c_top hn3 hk) ?_
      refine rnN 1 rfl ?_
      refine rnK rfl (c_removeSnapshot hw hi hj) ?_
      refine rnN 1 rfl ?_
      exact rnR rfl
    · obtain ⟨h1, hh1⟩ : ∃ h1, h1 = hup h (10, k) (E (stl (dlR (W k) j) (dlU (U k) j))) := ⟨_, rfl⟩
      rw [← hh1]
      have n1 : ∀ q : xP, q ≠ (10, k) → h1 q = h q := fun q hq => by rw [hh1, hup_ne hq]
      have q12 : h1 (12, 0) = E (pf M k (W k)) := by rw [n1 _ (fun e => by injection e with e1 e2; omega)]; exact hw12
      have q4 : h1 (4, 0) 2 = nI (k + 1) := by rw [n1 _ (fun e => by injection e with e1 e2; omega)]; exact hn4
      have hst := m_settle (d := 4) (h := mh h1 (h1 (14, 0)) (pf M k (dlR (W k) j))) (M := M) mh_12 hg hS
      rw [mh_mh, mh_14] at hst
      refine ⟨cf (h1 (14, 0)) (T (dlR (W k) j)), ?_⟩
      refine rnN 5 rfl ?_
      rw [m_top q4]
      refine rnN 2 rfl ?_
      refine rnK rfl (m_namedT q12 q4 hk h6 hns.1 hj hb hnn he hl) ?_
      refine rnN 2 rfl ?_
      refine rnF (nI_pos (show j < 2147483648 by omega)) rfl ?_
      refine rnN 8 rfl ?_
      simp (disch := omega) only [nI_add, pk_mul, pk_sub, nd8, nd4, nsub8, nand63, nand7, nshr2, nI_clamp, E_at, hup_at, hup_hup, hpt_def, pf_at, pf_at2, cf_at, h12_14, h14_12, h12_15, h15_12, h14_15, h15_14]
      refine rnC (inN (show 512 * k + 6 < 2048 by omega) (by decide)) rfl ?_
      simp (disch := omega) only [nI_add, pk_mul, pk_sub, nd8, nd4, nsub8, nand63, nand7, nshr2, nI_clamp, E_at, hup_at, hup_hup, hpt_def, pf_at, pf_at2, cf_at, h12_14, h14_12, h12_15, h15_12, h14_15, h15_14, q12]
      refine rnK rfl (m_at) ?_
      refine rnN 3 rfl ?_
      refine rnK rfl (m_snapshots q12 hg) ?_
      refine rnN 7 rfl ?_
      simp (disch := omega) only [nI_add, pk_mul, pk_sub, nd8, nd4, nsub8, nand63, nand7, nshr2, nI_clamp, E_at, hup_at, hup_hup, hpt_def, pf_at, pf_at2, cf_at, h12_14, h14_12, h12_15, h15_12, h14_15, h15_14]
      have e0 : h1 = mh h1 (h1 (14, 0)) (pf M k fun p => if p / 8 = W k 6 ∧ 2 * j ≤ p % 8 ∧ p % 8 < 2 * j + 0 then (if p % 8 < 6 then W k (p + 2) else 0) else W k p) := by
        rw [pf_congr (v := fun p => if p / 8 = W k 6 ∧ 2 * j ≤ p % 8 ∧ p % 8 < 2 * j + 0 then (if p % 8 < 6 then W k (p + 2) else 0) else W k p) (w := W k) (fun p _ => by rw [if_neg (by omega)])]
        unfold mh
        rw [hup_self (p := (14, 0)) rfl, hup_self q12]
      refine rnH e0 ?_
      refine lpN (8 - 2 * j) (fun i => Rn 8 MX4_delete 52 [some (vR (4, 0)), some (vI (nI n)), some (vI (nI k)), some (vI (nI j)), some (vI (nI (512 * k + 8 * W k 6))), some (vI (nI (W k 5 - 1))), some (vI (nI (2 * j + i)))] [] (mh h1 (h1 (14, 0)) (pf M k fun p => if p / 8 = W k 6 ∧ 2 * j ≤ p % 8 ∧ p % 8 < 2 * j + i then (if p % 8 < 6 then W k (p + 2) else 0) else W k p)) (some (vI (nI 0))) (mh h1 (cf (h1 (14, 0)) (T (dlR (W k) j))) (pf M k (stl (dlR (W k) j) (dlU (U k) j))))) (fun i hi8 K => ?_) ?_
      · have step : ∀ z, z = (if 2 * j + i < 6 then W k (8 * W k 6 + (2 * j + i) + 2) else 0) → up (fun p => if p / 8 = W k 6 ∧ 2 * j ≤ p % 8 ∧ p % 8 < 2 * j + i then (if p % 8 < 6 then W k (p + 2) else 0) else W k p) (8 * W k 6 + (2 * j + i)) z = fun p => if p / 8 = W k 6 ∧ 2 * j ≤ p % 8 ∧ p % 8 < 2 * j + (i + 1) then (if p % 8 < 6 then W k (p + 2) else 0) else W k p := by
          intro z hz
          funext p
          simp only [up]
          by_cases e : p = 8 * W k 6 + (2 * j + i)
          · rw [if_pos e, if_pos (show p / 8 = W k 6 ∧ 2 * j ≤ p % 8 ∧ p % 8 < 2 * j + (i + 1) by omega), hz, e, ix_mod (by omega)]
          · rw [if_neg e]
            by_cases e2 : p / 8 = W k 6 ∧ 2 * j ≤ p % 8 ∧ p % 8 < 2 * j + i
            · rw [if_pos e2, if_pos (show p / 8 = W k 6 ∧ 2 * j ≤ p % 8 ∧ p % 8 < 2 * j + (i + 1) by omega)]
            · rw [if_neg e2, if_neg (show ¬ (p / 8 = W k 6 ∧ 2 * j ≤ p % 8 ∧ p % 8 < 2 * j + (i + 1)) by omega)]
        refine rnN 2 rfl ?_
        refine rnT (nI_lt (show 2 * j + i < 8 by omega) (by decide)) rfl ?_
        refine rnN 9 rfl ?_
        simp (disch := omega) only [nI_add, pk_mul, pk_sub, nd8, nd4, nsub8, nand63, nand7, nshr2, nI_clamp, E_at, hup_at, hup_hup, hpt_def, pf_at, pf_at2, cf_at, h12_14, h14_12, h12_15, h15_12, h14_15, h15_14]
        by_cases hlt : 2 * j + i + 2 < 8
        · refine rnT (nI_lt hlt (by decide)) rfl ?_
          refine rnN 7 rfl ?_
          simp (disch := omega) only [nI_add, pk_mul, pk_sub, nd8, nd4, nsub8, nand63, nand7, nshr2, nI_clamp, E_at, hup_at, hup_hup, hpt_def, pf_at, pf_at2, cf_at, h12_14, h14_12, h12_15, h15_12, h14_15, h15_14]
          rw [show 512 * k + 8 * W k 6 + (2 * j + i) + 2 = 512 * k + (8 * W k 6 + (2 * j + i + 2)) by omega]
          refine rnC (inN (show 512 * k + (8 * W k 6 + (2 * j + i + 2)) < 2048 by omega) (by decide)) rfl ?_
          simp (disch := omega) only [nI_add, pk_mul, pk_sub, nd8, nd4, nsub8, nand63, nand7, nshr2, nI_clamp, E_at, hup_at, hup_hup, hpt_def, pf_at, pf_at2, cf_at, h12_14, h14_12, h12_15, h15_12, h14_15, h15_14, mh_12]
          rw [if_neg (show ¬ ((8 * W k 6 + (2 * j + i + 2)) / 8 = W k 6 ∧ 2 * j ≤ (8 * W k 6 + (2 * j + i + 2)) % 8 ∧ (8 * W k 6 + (2 * j + i + 2)) % 8 < 2 * j + i) by omega)]
          refine rnN 1 rfl ?_
          refine rnC (inN (show 512 * k + 8 * W k 6 + (2 * j + i) < 2048 by omega) (by decide)) rfl ?_
          simp (disch := omega) only [nI_clamp, mhpt]
          rw [show 512 * k + 8 * W k 6 + (2 * j + i) = 512 * k + (8 * W k 6 + (2 * j + i)) by omega, pf_up (show 8 * W k 6 + (2 * j + i) < 512 by omega), step _ (by rw [if_pos (by omega)]; rfl)]
          refine rnN 2 rfl ?_
          simp (disch := omega) only [nI_add, pk_mul, pk_sub, nd8, nd4, nsub8, nand63, nand7, nshr2, nI_clamp, E_at, hup_at, hup_hup, hpt_def, pf_at, pf_at2, cf_at, h12_14, h14_12, h12_15, h15_12, h14_15, h15_14]
          exact K
        · refine rnF (nI_nlt (show 8 ≤ 2 * j + i + 2 by omega) (by omega)) rfl ?_
          refine rnN 1 rfl ?_
          refine rnC (inN (show 512 * k + 8 * W k 6 + (2 * j + i) < 2048 by omega) (by decide)) rfl ?_
          simp (disch := omega) only [nI_clamp, mhpt]
          rw [show 512 * k + 8 * W k 6 + (2 * j + i) = 512 * k + (8 * W k 6 + (2 * j + i)) by omega, pf_up (show 8 * W k 6 + (2 * j + i) < 512 by omega), step _ (by rw [if_neg (by omega)])]
          refine rnN 2 rfl ?_
          simp (disch := omega) only [nI_add, pk_mul, pk_sub, nd8, nd4, nsub8, nand63, nand7, nshr2, nI_clamp, E_at, hup_at, hup_hup, hpt_def, pf_at, pf_at2, cf_at, h12_14, h14_12, h12_15, h15_12, h14_15, h15_14]
          exact K
      · rw [show 2 * j + (8 - 2 * j) = 8 by omega]
        refine rnN 3 rfl ?_
        refine rnN 8 rfl ?_
        simp (disch := omega) only [nI_add, pk_mul, pk_sub, nd8, nd4, nsub8, nand63, nand7, nshr2, nI_clamp, E_at, hup_at, hup_hup, hpt_def, pf_at, pf_at2, cf_at, h12_14, h14_12, h12_15, h15_12, h14_15, h15_14]
        refine rnC (inN (show 512 * k + 5 < 2048 by omega) (by decide)) rfl ?_
        simp (disch := omega) only [nI_clamp, mhpt]
        rw [pf_up (show 5 < 512 by omega)]
        refine rnN 1 rfl ?_
        by_cases e1 : W k 5 = 1
        · have eR : pf M k (up (up (fun p => if p / 8 = W k 6 ∧ 2 * j ≤ p % 8 ∧ p % 8 < 8 then (if p % 8 < 6 then W k (p + 2) else 0) else W k p) 5 0) 6 0) = pf M k (dlR (W k) j) := pf_congr fun p _ => by
            unfold dlR
            simp only [up]
            by_cases p5 : p = 5
            · rw [if_pos p5, if_pos p5, if_neg (by omega)]
              omega
            · rw [if_neg p5, if_neg p5]
              by_cases p6 : p = 6
              · rw [if_pos p6, if_pos p6, if_pos e1]
              · rw [if_neg p6, if_neg p6]
                by_cases p7 : p / 8 = W k 6
                · rw [if_pos p7]
                  by_cases p8 : p % 8 < 2 * j
                  · rw [if_pos p8, if_neg (by omega)]
                  · rw [if_neg p8, if_pos (show p / 8 = W k 6 ∧ 2 * j ≤ p % 8 ∧ p % 8 < 8 by omega)]
                · rw [if_neg p7, if_neg (fun z => p7 z.1)]
          rw [show W k 5 - 1 = 0 by omega]
          refine rnN 9 rfl ?_
          simp (disch := omega) only [nI_add, pk_mul, pk_sub, nd8, nd4, nsub8, nand63, nand7, nshr2, nI_clamp, E_at, hup_at, hup_hup, hpt_def, pf_at, pf_at2, cf_at, h12_14, h14_12, h12_15, h15_12, h14_15, h15_14]
          refine rnC (inN (show 512 * k + 6 < 2048 by omega) (by decide)) rfl ?_
          simp (disch := omega) only [nI_clamp, mhpt]
          rw [pf_up (show 6 < 512 by omega), eR]
          refine rnN 2 rfl ?_
          refine rnK rfl (hst) ?_
          refine rnN 1 rfl ?_
          exact rnR rfl
        · have eR : pf M k (up (fun p => if p / 8 = W k 6 ∧ 2 * j ≤ p % 8 ∧ p % 8 < 8 then (if p % 8 < 6 then W k (p + 2) else 0) else W k p) 5 (W k 5 - 1)) = pf M k (dlR (W k) j) := pf_congr fun p _ => by
            unfold dlR
            simp only [up]
            by_cases p5 : p = 5
            · rw [if_pos p5, if_pos p5]
            · rw [if_neg p5, if_neg p5]
              by_cases p6 : p = 6
              · rw [if_pos p6, if_neg (by omega), if_neg e1, p6]
              · rw [if_neg p6]
                by_cases p7 : p / 8 = W k 6
                · rw [if_pos p7]
                  by_cases p8 : p % 8 < 2 * j
                  · rw [if_pos p8, if_neg (by omega)]
                  · rw [if_neg p8, if_pos (show p / 8 = W k 6 ∧ 2 * j ≤ p % 8 ∧ p % 8 < 8 by omega)]
                · rw [if_neg p7, if_neg (fun z => p7 z.1)]
          refine rnF (nI_ne0 (show 0 < W k 5 - 1 by omega) (by omega)) rfl ?_
          rw [eR]
          refine rnN 2 rfl ?_
          refine rnK rfl (hst) ?_
          refine rnN 1 rfl ?_
          exact rnR rfl
end OPN
end
section
/-! ===== snapshot ===== -/
section OPS2
variable {d k : Nat} {h : xH} {M : Nat → Nat} {W U : Nat → Nat → Nat} {f s : Nat → Int32}
theorem lg_agr {w u1 u2 : Nat → Nat} (ha : Inv (tkW w) u1) (hS : Str (lgR w) u2) (hz : T (tkW w) (tkC w) = 0) (h1 : 1 ≤ tkC w) (h2 : tkC w < 64) (hT : ∀ X, T (lgR w) X = T (tkW w) X + iv (tkC w) X) (hu : ∀ X, T (tkW w) X ≠ 0 → u2 X = u1 X) (hO : ∀ p, p ≠ 6 → lgR w p = tkW w p) :
    Agr (up (flg (tkW w) u1) 6 (tkC w)) (lgR w) u2 := by
  intro p hTp hup2
  by_cases e : p = 6
  · left
    rw [e, up_at]
    exact up_at.symm
  · rw [up_ne e, hO p e]
    by_cases e2 : p / 8 = tkC w
    · left
      have h3 := ha.2.2.1 (p / 8) (by omega) (by rw [e2]; exact hz) (p % 8) (by omega)
      rw [show 8 * (p / 8) + p % 8 = p by omega] at h3
      by_cases e3 : 1 ≤ p / 8 ∧ p / 8 < 64 ∧ TL u1 (p / 8)
      · rw [flg_in e3, h3]
        rfl
      · rw [flg_out e3]
    · rw [hT, iv_ne (fun z => e2 z.symm), Nat.add_zero] at hTp
      rw [hu _ hTp] at hup2
      rcases flg_agr (tkW w) u1 p hTp hup2 with q | ⟨q1, q2, q3⟩
      · exact Or.inl q
      · refine Or.inr ⟨q1, ?_, q3⟩
        unfold TL
        rw [hu _ hTp]
        exact q2
theorem sn_agr {v u1 u3 : Nat → Nat} {c n name : Nat} (ha : Inv v u1) (hS : Str (snR v c n name) u3) (h6 : v 6 ≠ 0) (hz : T v c = 0) (h1 : 1 ≤ c) (h2 : c < 64) (hn : n < 4) (hT : ∀ X, T (snR v c n name) X = T v X + iv c X + tl v X (v 3)) (hu : ∀ X, T v X ≠ 0 → u3 X = u1 X) (huc : u3 c = 4 + n) :
    Agr (snR (flg v u1) c n name) (snR v c n name) u3 := by
  have hs := ha.1
  have hact := hs.act
  have hne6 : v 6 ≠ c := ne_fresh hz (T_list h6)
  have e6 : flg v u1 6 = v 6 := (flg_agr v u1).hdr (by decide)
  have e3 : flg v u1 3 = v 3 := (flg_agr v u1).hdr (by decide)
  have f6 : 1 ≤ flg v u1 6 := by omega
  have r1 := snR_l (v := v) (c := c) (n := n) (name := name) (by omega)
  have r2 := snR_l (v := flg v u1) (c := c) (n := n) (name := name) f6
  rw [e6] at r2
  intro p hTp hup
  by_cases p5 : p = 5
  · left; rw [p5, snR_5, snR_5]
  · by_cases p1 : p = 8 * v 6 + 2 * n
    · left; rw [p1, r1.1, r2.1]
    · by_cases p2 : p = 8 * v 6 + (2 * n + 1)
      · left; rw [p2, r1.2, r2.2]
      · by_cases pc : p / 8 = c
        · obtain ⟨i, hi8, rfl⟩ : ∃ i, i < 8 ∧ p = 8 * c + i := ⟨p % 8, by omega, by omega⟩
          rw [snR_c hne6 h1 hn hi8, snR_c (by rw [e6]; exact hne6) h1 hn hi8, e3]
          rcases (flg_agr v u1).tbw hs act_tb hi8 with q | ⟨q1, q2, q3⟩
          · exact Or.inl q
          · refine Or.inr ⟨by omega, ?_, q1, q2, q3⟩
            unfold TL
            rw [pc, huc]
            omega
        · rw [snR_o p5 p1 p2 pc, snR_o p5 (by rw [e6]; exact p1) (by rw [e6]; exact p2) pc]
          have hTv : T v (p / 8) ≠ 0 := fun e => by
            have h3 := hT (p / 8)
            have h4 := T_tc (w := v) (X := p / 8) act_tb
            rw [tc_tl] at h4
            rw [e, iv_ne (fun z => pc z.symm)] at h3
            omega
          rw [hu _ hTv] at hup
          rcases flg_agr v u1 p hTv hup with q | ⟨q1, q2, q3⟩
          · exact Or.inl q
          · refine Or.inr ⟨q1, ?_, q3⟩
            unfold TL
            rw [hu _ hTv]
            exact q2
/-- the reference's snapshot, from the taking of the table on -/
theorem ms_tail {y uy : Nat → Nat} {n name : Nat} {o4 o5 o6 : Option xV} (hw : h (12, 0) = E (pf M k (flg y uy))) (hk : k < 3) (hi : Inv y uy) (h6 : y 6 ≠ 0) (h5 : y 5 = n) (hn : n < 4) (hr : 1 ≤ rm y) (hb : name < 4294967296) (hnm : ∀ i, i < y 5 → y (8 * y 6 + (2 * i + 1)) ≠ name)
    {u3 : Nat → Nat} (hS : Str (snR (tkW y) (tkC y) (y 5) name) u3) (hI : Inv (clo (snR (tkW y) (tkC y) (y 5) name) u3) u3) :
    ∃ f', Rn (d + 5) MX4_snapshot 83 [some (vR (4, 0)), some (vI (nI name)), some (vI (nI k)), some (vI (nI n)), o4, o5, o6] [] h (some (vI (nI 0))) (mh h f' (pf M k (stl (snR (tkW y) (tkC y) (y 5) name) u3))) := by
  have hg : k < 4 := by omega
  obtain ⟨u1, u3', ha, hS', hI', hT, hu, huc, hC1, hC2, hC3, hC4, hH⟩ := sn_spec hi h6 (by omega) hr hb hnm
  have hst0 : stl (snR (tkW y) (tkC y) (y 5) name) u3 = stl (snR (tkW y) (tkC y) (y 5) name) u3' := by
    unfold stl
    have e1 : clo (snR (tkW y) (tkC y) (y 5) name) u3 = clo (snR (tkW y) (tkC y) (y 5) name) u3' := by
      refine eq_clo hS' (fun X hX h0 => clo_cpl hS hX h0) (fun p hp h0 => clo_free hp h0) (fun p hp hk2 => ?_)
      unfold clo cW
      rw [if_neg (fun z => by have := of_decide_eq_true z; omega), if_neg]
      rintro ⟨a1, a2, a3, a4⟩
      exact hk2 ⟨u3 (p / 8) - 16, by omega, by rw [a4]; exact a1, a4.symm⟩
    rw [e1] at hI ⊢
    exact flg_u hI hI'
  rw [hst0]
  obtain ⟨f1, ht⟩ := m_takeT (d := d) (M := M) hw hg hi hr ha
  obtain ⟨v, hv⟩ : ∃ v, v = tkW y := ⟨_, rfl⟩
  obtain ⟨c, hc⟩ : ∃ c, c = tkC y := ⟨_, rfl⟩
  rw [h5] at hS' hI' hT huc ⊢
  simp only [← hv, ← hc] at ha hS' hI' hT hu huc hC1 hC2 hC3 hH ht ⊢
  have hs := ha.1
  have hsf := (flg_inv ha).1.1
  have e6 : v 6 = y 6 := hH 6 (by decide)
  have e6f : flg v u1 6 = v 6 := (flg_agr v u1).hdr (by decide)
  have e3f : flg v u1 3 = v 3 := (flg_agr v u1).hdr (by decide)
  have h6v : v 6 ≠ 0 := by rw [e6]; exact h6
  have hls := hs.list h6v
  have hact := hs.act
  have hne6 : v 6 ≠ c := ne_fresh hC3 (T_list h6v)
  have hne3 : v 3 ≠ c := ne_fresh hC3 T_act
  have hne36 : v 3 ≠ v 6 := fun e => by rw [e] at hact; omega
  have hag := sn_agr ha hS' h6v hC3 hC1 hC2 hn hT hu huc
  have hag2 := hag.clo hS'
  have hsR := hag.eS hS'
  have hst := m_settle (d := d + 1) (h := mh h f1 (pf M k (snR (flg v u1) c n name))) (M := M) mh_12 hg hsR
  rw [mh_mh, mh_14, pf_congr (stl_agr hI' hag2)] at hst
  refine ⟨cf f1 (T (snR (flg v u1) c n name)), ?_⟩
  refine rnN 2 rfl ?_
  refine rnK rfl (ht) ?_
  refine rnN 9 rfl ?_
  simp (disch := omega) only [nI_add, pk_mul, pk_sub, nd8, nd4, nsub8, nand63, nand7, nshr2, nI_clamp, E_at, hup_at, hup_hup, hpt_def, pf_at, pf_at2, cf_at, h12_14, h14_12, h12_15, h15_12, h14_15, h15_14]
  refine rnC (inN (show 512 * k + 6 < 2048 by omega) (by decide)) rfl ?_
  simp (disch := omega) only [nI_add, pk_mul, pk_sub, nd8, nd4, nsub8, nand63, nand7, nshr2, nI_clamp, E_at, hup_at, hup_hup, hpt_def, pf_at, pf_at2, cf_at, h12_14, h14_12, h12_15, h15_12, h14_15, h15_14, mh_12]
  rw [e6f]
  refine rnK rfl (m_at) ?_
  refine rnN 9 rfl ?_
  simp (disch := omega) only [nI_add, pk_mul, pk_sub, nd8, nd4, nsub8, nand63, nand7, nshr2, nI_clamp, E_at, hup_at, hup_hup, hpt_def, pf_at, pf_at2, cf_at, h12_14, h14_12, h12_15, h15_12, h14_15, h15_14]
  rw [show 512 * k + 8 * v 6 + 2 * n = 512 * k + (8 * v 6 + 2 * n) by omega]
  refine rnC (inN (show 512 * k + (8 * v 6 + 2 * n) < 2048 by omega) (by decide)) rfl ?_
  simp (disch := omega) only [nI_clamp, mhpt]
  rw [pf_up (show 8 * v 6 + 2 * n < 512 by omega)]
  refine rnN 10 rfl ?_
  simp (disch := omega) only [nI_add, pk_mul, pk_sub, nd8, nd4, nsub8, nand63, nand7, nshr2, nI_clamp, E_at, hup_at, hup_hup, hpt_def, pf_at, pf_at2, cf_at, h12_14, h14_12, h12_15, h15_12, h14_15, h15_14]
  rw [show 512 * k + 8 * v 6 + 2 * n + 1 = 512 * k + (8 * v 6 + (2 * n + 1)) by omega]
  refine rnC (inN (show 512 * k + (8 * v 6 + (2 * n + 1)) < 2048 by omega) (by decide)) rfl ?_
  simp (disch := omega) only [nI_clamp, mhpt]
  rw [pf_up (show 8 * v 6 + (2 * n + 1) < 512 by omega)]
  refine rnN 2 rfl ?_
  obtain ⟨z, hz⟩ : ∃ z, z = up (up (flg v u1) (8 * v 6 + 2 * n) c) (8 * v 6 + (2 * n + 1)) name := ⟨_, rfl⟩
  rw [← hz]
  have hz3 : z 3 = v 3 := by rw [hz, up_ne (by omega), up_ne (by omega), e3f]
  have hz6 : z 6 = v 6 := by rw [hz, up_ne (by omega), up_ne (by omega), e6f]
  have hza : ∀ i, i < 8 → z (8 * v 3 + i) = flg v u1 (8 * v 3 + i) := fun i hi8 => by rw [hz, up_ne (by omega), up_ne (by omega)]
  have e0 : pf M k z = pf M k fun p => if p / 8 = c ∧ p % 8 < 0 then z (8 * v 3 + p % 8) else z p := pf_congr fun p _ => by rw [if_neg (by omega)]
  rw [e0]
  refine lpN 8 (fun i => Rn (d + 5) MX4_snapshot 139 [some (vR (4, 0)), some (vI (nI name)), some (vI (nI k)), some (vI (nI n)), some (vI (nI c)), some (vI (nI (512 * k + 8 * v 6))), some (vI (nI i))] [] (mh h f1 (pf M k fun p => if p / 8 = c ∧ p % 8 < i then z (8 * v 3 + p % 8) else z p)) (some (vI (nI 0))) (mh h (cf f1 (T (snR (flg v u1) c n name))) (pf M k (stl (snR v c n name) u3')))) (fun i hi8 K => ?_) ?_
  · have h3i : (if (3 : Nat) / 8 = c ∧ (3 : Nat) % 8 < i then z (8 * v 3 + 3 % 8) else z 3) = v 3 := by rw [if_neg (by omega)]; exact hz3
    have h6i : (if (6 : Nat) / 8 = c ∧ (6 : Nat) % 8 < i then z (8 * v 3 + 6 % 8) else z 6) = v 6 := by rw [if_neg (by omega)]; exact hz6
    refine rnN 2 rfl ?_
    refine rnT (nI_lt hi8 (by decide)) rfl ?_
    refine rnN 4 rfl ?_
    refine rnK rfl (m_at) ?_
    refine rnN 7 rfl ?_
    simp (disch := omega) only [nI_add, pk_mul, pk_sub, nd8, nd4, nsub8, nand63, nand7, nshr2, nI_clamp, E_at, hup_at, hup_hup, hpt_def, pf_at, pf_at2, cf_at, h12_14, h14_12, h12_15, h15_12, h14_15, h15_14]
    refine rnK rfl (m_table (n := 0) mh_12 hg (show (if (6 : Nat) / 8 = c ∧ (6 : Nat) % 8 < i then z (8 * v 3 + 6 % 8) else z 6) < 64 by rw [h6i]; exact hls.1) (by decide)) ?_
    rw [show tbn (fun p => if p / 8 = c ∧ p % 8 < i then z (8 * v 3 + p % 8) else z p) 0 = (if (3 : Nat) / 8 = c ∧ (3 : Nat) % 8 < i then z (8 * v 3 + 3 % 8) else z 3) from rfl, h3i]
    refine rnN 2 rfl ?_
    simp (disch := omega) only [nI_add, pk_mul, pk_sub, nd8, nd4, nsub8, nand63, nand7, nshr2, nI_clamp, E_at, hup_at, hup_hup, hpt_def, pf_at, pf_at2, cf_at, h12_14, h14_12, h12_15, h15_12, h14_15, h15_14]
    refine rnC (inN (show 512 * k + 8 * v 3 + i < 2048 by omega) (by decide)) rfl ?_
    simp (disch := omega) only [nI_add, pk_mul, pk_sub, nd8, nd4, nsub8, nand63, nand7, nshr2, nI_clamp, E_at, hup_at, hup_hup, hpt_def, pf_at, pf_at2, cf_at, h12_14, h14_12, h12_15, h15_12, h14_15, h15_14, mh_12]
    rw [if_neg (show ¬ ((8 * v 3 + i) / 8 = c ∧ (8 * v 3 + i) % 8 < i) by omega)]
    refine rnC (inN (show 512 * k + 8 * c + i < 2048 by omega) (by decide)) rfl ?_
    simp (disch := omega) only [nI_clamp, mhpt]
    rw [show 512 * k + 8 * c + i = 512 * k + (8 * c + i) by omega, pf_up (show 8 * c + i < 512 by omega)]
    refine rnN 2 rfl ?_
    simp (disch := omega) only [nI_add, pk_mul, pk_sub, nd8, nd4, nsub8, nand63, nand7, nshr2, nI_clamp, E_at, hup_at, hup_hup, hpt_def, pf_at, pf_at2, cf_at, h12_14, h14_12, h12_15, h15_12, h14_15, h15_14]
    refine rnH ?_ K
    congr 2
    funext p
    simp only [up]
    by_cases e : p = 8 * c + i
    · rw [if_pos e, if_pos (by omega), e, ix_mod hi8]
    · rw [if_neg e]
      by_cases e2 : p / 8 = c ∧ p % 8 < i
      · rw [if_pos e2, if_pos (show p / 8 = c ∧ p % 8 < i + 1 by omega)]
      · rw [if_neg e2, if_neg (show ¬ (p / 8 = c ∧ p % 8 < i + 1) by omega)]
  · refine rnN 3 rfl ?_
    refine rnN 10 rfl ?_
    simp (disch := omega) only [nI_add, pk_mul, pk_sub, nd8, nd4, nsub8, nand63, nand7, nshr2, nI_clamp, E_at, hup_at, hup_hup, hpt_def, pf_at, pf_at2, cf_at, h12_14, h14_12, h12_15, h15_12, h14_15, h15_14]
    refine rnC (inN (show 512 * k + 5 < 2048 by omega) (by decide)) rfl ?_
    simp (disch := omega) only [nI_clamp, mhpt]
    rw [pf_up (show 5 < 512 by omega)]
    have eR : pf M k (up (fun p => if p / 8 = c ∧ p % 8 < 8 then z (8 * v 3 + p % 8) else z p) 5 (n + 1)) = pf M k (snR (flg v u1) c n name) := pf_congr fun p _ => by
      simp only [up]
      by_cases p5 : p = 5
      · rw [if_pos p5, p5, snR_5]
      · rw [if_neg p5]
        have r2 := snR_l (v := flg v u1) (c := c) (n := n) (name := name) (by omega)
        rw [e6f] at r2
        by_cases p1 : p = 8 * v 6 + 2 * n
        · rw [if_neg (by omega), p1, r2.1, hz, up_ne (by omega), up_at]
        · by_cases p2 : p = 8 * v 6 + (2 * n + 1)
          · rw [if_neg (by omega), p2, r2.2, hz, up_at]
          · by_cases pc : p / 8 = c
            · obtain ⟨i, hi8, rfl⟩ : ∃ i, i < 8 ∧ p = 8 * c + i := ⟨p % 8, by omega, by omega⟩
              rw [if_pos ⟨pc, by omega⟩, ix_mod hi8, hza i hi8, snR_c (by rw [e6f]; exact hne6) hC1 hn hi8, e3f]
            · rw [if_neg (fun q => pc q.1), snR_o p5 (by rw [e6f]; exact p1) (by rw [e6f]; exact p2) pc, hz, up_ne p2, up_ne p1]
    rw [eR]
    refine rnN 2 rfl ?_
    refine rnK rfl (hst) ?_
    refine rnN 1 rfl ?_
    exact rnR rfl
theorem op_snapshot (S : SI k W U h) (v0 : Int32) : OpOK MX3_snapshot MX4_snapshot [vI v0] h := by
  obtain ⟨M, hM, hMw, hMp⟩ := S.mem
  have hk := S.1
  have hi := S.inv (Nat.le_refl k)
  have hw := S.file (Nat.le_refl k)
  have hfl := S.fl (Nat.le_refl k)
  have h60 := (S.2.1 k (Nat.le_refl k)).2.2.2
  have hs := hi.1
  have h6 := hs.l6
  have hns := hs.ns
  have hg : k < 4 := by omega
  have hw12 : h (12, 0) = E (pf M k (W k)) := by rw [hM, hMp k (Nat.le_refl k)]
  have hn3 := S.2.2.2.2.1
  have hn4 := S.2.2.2.2.2.1
  have hb := hi.2.2.2.2
  have hrml : rm (W k) ≤ 64 := by unfold rm; omega
  obtain ⟨n, hnn, rfl⟩ : ∃ n, n < 4294967296 ∧ v0 = nI n := ⟨tn v0, tn_lt _, (nI_tn v0).symm⟩
  rcases name_cases (W k) n with hl | ⟨j, hj, he, hl⟩
  · by_cases h4 : W k 5 = 4
    · refine ⟨vI (-3), h, h, k, W, U, Cl_deep (n := 6) (by decide) ?_, Cl_deep (n := 4) (by decide) ?_, S⟩
      · refine rnN 1 rfl ?_
        refine rnK rfl (c_top hn3 hk) ?_
        refine rnN 1 rfl ?_
        refine rnK rfl (c_addSnapM hw hi hnn h4 hl) ?_
        exact rnR rfl
      · refine rnN 5 rfl ?_
        rw [m_top hn4]
        refine rnN 2 rfl ?_
        refine rnK rfl (m_namedF hw12 hn4 hk h6 hns.1 hb hnn hl) ?_
        refine rnN 3 rfl ?_
        refine rnK rfl (m_snapshots hw12 hg) ?_
        rw [h4]
        refine rnN 5 rfl ?_
        exact rnR rfl
    · by_cases hr : snN (W k) ≤ rm (W k)
      · -- the words
        obtain ⟨uy, hy, hy6, hy5, hry, hyH, hyn⟩ : ∃ uy, Inv (lgW (W k)) uy ∧ lgW (W k) 6 ≠ 0 ∧ lgW (W k) 5 = W k 5 ∧ 1 ≤ rm (lgW (W k)) ∧ (∀ p, p < 8 → p ≠ 6 → lgW (W k) p = W k p) ∧ ∀ i, i < lgW (W k) 5 → lgW (W k) (8 * lgW (W k) 6 + (2 * i + 1)) ≠ n := by
          unfold snN at hr
          by_cases e0 : W k 5 = 0
          · rw [if_pos e0] at hr
            obtain ⟨u1, u2, ha, hS2, hV, hI2, hH, hC, hC1, hC2, hrm2, -⟩ := lg_spec hi h60 e0 (by omega)
            exact ⟨u2, hI2, by omega, hH 5 (by decide) (by decide), by omega, hH, fun i hi2 => by rw [hH 5 (by decide) (by decide), e0] at hi2; omega⟩
          · rw [if_neg e0] at hr
            have e : lgW (W k) = W k := by unfold lgW; rw [if_neg e0]
            rw [e]
            exact ⟨U k, hi, hns.2 e0, rfl, hr, fun _ _ _ => rfl, hl⟩
        obtain ⟨u1, u3, ha, hS, hI, hT, hu, huc, hC1, hC2, hC3, hC4, hH⟩ := sn_spec hy hy6 (show lgW (W k) 5 < 4 by omega) hry hnn hyn
        have hF : snF (W k) n = snR (tkW (lgW (W k))) (tkC (lgW (W k))) (lgW (W k) 5) n := rfl
        rw [← hF] at hS hI hT
        have hv6 : tkW (lgW (W k)) 6 ≠ 0 := by rw [hH 6 (by decide)]; exact hy6
        have hF2 : snF (W k) n 2 = W k 2 := by
          rw [hF, snR_o (by decide) (by omega) (by omega) (by omega), hH 2 (by decide), hyH 2 (by decide) (by decide)]
        refine op_settled (r := vI (nI 0)) S hS hI (fun e => by rw [hF, snR_5] at e; omega) (by rw [hF2]; exact Nat.le_refl _) hMw (Cl_deep (n := 6) (by decide) ?_) ?_
        · refine rnN 1 rfl ?_
          refine rnK rfl (c_top hn3 hk) ?_
          refine rnN 1 rfl ?_
          refine rnK rfl (c_addSnap hw hi h60 hnn h4 hl hr hS hI) ?_
          exact rnR rfl
        · obtain ⟨h1, hh1⟩ : ∃ h1, h1 = hup h (10, k) (E (stl (snF (W k) n) u3)) := ⟨_, rfl⟩
          rw [← hh1]
          have n1 : ∀ q : xP, q ≠ (10, k) → h1 q = h q := fun q hq => by rw [hh1, hup_ne hq]
          have q12 : h1 (12, 0) = E (pf M k (W k)) := by rw [n1 _ (fun e => by injection e with e1 e2; omega)]; exact hw12
          have q4 : h1 (4, 0) 2 = nI (k + 1) := by rw [n1 _ (fun e => by injection e with e1 e2; omega)]; exact hn4
          have hrm := m_room (d := 4) (h := h1) (M := M) q12 hg hi
          obtain ⟨f1, hf1⟩ : ∃ f1, f1 = cf (h1 (14, 0)) (T (W k)) := ⟨_, rfl⟩
          rw [← hf1] at hrm
          have key : ∃ f', Rn 8 MX4_snapshot 37 [some (vR (4, 0)), some (vI (nI n)), some (vI (nI k)), some (vI (nI (W k 5))), none, none, none] [vI (nI (rm (W k)))] (mh h1 f1 (pf M k (W k))) (some (vI (nI 0))) (mh h1 f' (pf M k (stl (snF (W k) n) u3))) := by
            unfold snN at hr
            by_cases e0 : W k 5 = 0
            · rw [if_pos e0] at hr
              obtain ⟨u1, u2, ha, hS2, hV, hI2, hH2, hC, hC1, hC2, hrm2, hO2, hT2, hu2, hz2⟩ := lg_spec hi h60 e0 (by omega)
              obtain ⟨f2, ht⟩ := m_takeT (d := 3) (h := mh h1 f1 (pf M k (flg (W k) (U k)))) (M := M) mh_12 hg hi (by omega) ha
              rw [mh_mh, hfl] at ht
              have hag := lg_agr ha hS2 hz2 hC1 hC2 hT2 hu2 hO2
              have hsR := hag.eS hS2
              have hst := m_settle (d := 4) (h := mh h1 f2 (pf M k (up (flg (tkW (W k)) u1) 6 (tkC (W k))))) (M := M) mh_12 hg hsR
              have hI3 := hI2
              rw [hV] at hI3
              rw [mh_mh, mh_14, pf_congr (stl_agr hI3 (hag.clo hS2)), ← hV] at hst
              obtain ⟨f3, hf3⟩ : ∃ f3, f3 = cf f2 (T (up (flg (tkW (W k)) u1) 6 (tkC (W k)))) := ⟨_, rfl⟩
              rw [← hf3] at hst
              have e5 : lgW (W k) 5 = 0 := by rw [hy5, e0]
              obtain ⟨f', htl⟩ := ms_tail (d := 3) (h := mh h1 f3 (pf M k (flg (lgW (W k)) u2))) (M := M) (k := k) (n := 0) (o4 := some (vI (nI (tkC (W k))))) (o5 := none) (o6 := none) mh_12 hk hI2 hy6 e5 (by decide) hry hnn hyn hS hI
              rw [mh_mh] at htl
              refine ⟨f', ?_⟩
              rw [e0]
              refine rnN 4 rfl ?_
              refine rnF ((nI_nlt (show 2 ≤ rm (W k) from hr) (by omega))) rfl ?_
              refine rnN 4 rfl ?_
              refine rnK rfl (ht) ?_
              refine rnN 9 rfl ?_
              simp (disch := omega) only [nI_add, pk_mul, pk_sub, nd8, nd4, nsub8, nand63, nand7, nshr2, nI_clamp, E_at, hup_at, hup_hup, hpt_def, pf_at, pf_at2, cf_at, h12_14, h14_12, h12_15, h15_12, h14_15, h15_14]
              refine rnC (inN (show 512 * k + 6 < 2048 by omega) (by decide)) rfl ?_
              simp (disch := omega) only [nI_clamp, mhpt]
              rw [pf_up (show 6 < 512 by omega)]
              refine rnN 2 rfl ?_
              refine rnK rfl (hst) ?_
              exact htl
            · rw [if_neg e0] at hr
              have e : lgW (W k) = W k := by unfold lgW; rw [if_neg e0]
              have hF4 : snF (W k) n = snR (tkW (W k)) (tkC (W k)) (W k 5) n := by unfold snF; rw [e]
              rw [hF4] at hS hI ⊢
              obtain ⟨f', htl⟩ := ms_tail (d := 3) (h := mh h1 f1 (pf M k (W k))) (M := M) (k := k) (n := W k 5) (o4 := none) (o5 := none) (o6 := none) (by rw [mh_12, hfl]) hk hi (hns.2 e0) rfl (by omega) hr hnn hl hS hI
              rw [mh_mh] at htl
              refine ⟨f', ?_⟩
              refine rnN 1 rfl ?_
              refine rnF (nI_ne0 (show 0 < W k 5 by omega) (by omega)) rfl ?_
              refine rnN 1 rfl ?_
              refine rnF ((nI_nlt (show 1 ≤ rm (W k) from hr) (by omega))) rfl ?_
              refine rnN 1 rfl ?_
              refine rnF (nI_ne0 (show 0 < W k 5 by omega) (by omega)) rfl ?_
              exact htl
          obtain ⟨f', hkey⟩ := key
          refine ⟨f', ?_⟩
          refine rnN 5 rfl ?_
          rw [m_top q4]
          refine rnN 2 rfl ?_
          refine rnK rfl (m_namedF q12 q4 hk h6 hns.1 hb hnn hl) ?_
          refine rnN 3 rfl ?_
          refine rnK rfl (m_snapshots q12 hg) ?_
          refine rnN 3 rfl ?_
          refine rnF ((show ¬ nI (W k 5) = nI 4 from fun e => h4 ((neq (by omega) (by decide)).mp e))) rfl ?_
          refine rnN 2 rfl ?_
          refine rnK rfl (hrm) ?_
          exact hkey
      · have hrm := m_room (d := 4) (h := h) (M := M) hw12 hg hi
        rw [hMp k (Nat.le_refl k)] at hrm
        refine ⟨vI (-2), h, mh h (cf (h (14, 0)) (T (W k))) M, k, W, U, Cl_deep (n := 6) (by decide) ?_, ?_, SI_cnt S hM⟩
        · refine rnN 1 rfl ?_
          refine rnK rfl (c_top hn3 hk) ?_
          refine rnN 1 rfl ?_
          refine rnK rfl (c_addSnapF hw hi hnn h6 h4 hl hr) ?_
          exact rnR rfl
        · refine rnN 5 rfl ?_
          rw [m_top hn4]
          refine rnN 2 rfl ?_
          refine rnK rfl (m_namedF hw12 hn4 hk h6 hns.1 hb hnn hl) ?_
          refine rnN 3 rfl ?_
          refine rnK rfl (m_snapshots hw12 hg) ?_
          refine rnN 3 rfl ?_
          refine rnF ((show ¬ nI (W k 5) = nI 4 from fun e => h4 ((neq (by omega) (by decide)).mp e))) rfl ?_
          refine rnN 2 rfl ?_
          refine rnK rfl (hrm) ?_
          unfold snN at hr
          by_cases e0 : W k 5 = 0
          · rw [if_pos e0] at hr
            rw [e0]
            refine rnN 4 rfl ?_
            refine rnT (nI_lt (Nat.lt_of_not_le hr) (by decide)) rfl ?_
            refine rnN 1 rfl ?_
            exact rnR rfl
          · rw [if_neg e0] at hr
            refine rnN 1 rfl ?_
            refine rnF (nI_ne0 (show 0 < W k 5 by omega) (by omega)) rfl ?_
            refine rnN 1 rfl ?_
            refine rnT (nI_lt (Nat.lt_of_not_le hr) (by decide)) rfl ?_
            refine rnN 1 rfl ?_
            exact rnR rfl
  · refine ⟨vI (-4), h, h, k, W, U, Cl_deep (n := 6) (by decide) ?_, Cl_deep (n := 4) (by decide) ?_, S⟩
    · refine rnN 1 rfl ?_
      refine rnK rfl (c_top hn3 hk) ?_
      refine rnN 1 rfl ?_
      refine rnK rfl (c_addSnapT hw hi hnn hj he hl) ?_
      exact rnR rfl
    · refine rnN 5 rfl ?_
      rw [m_top hn4]
      refine rnN 2 rfl ?_
      refine rnK rfl (m_namedT hw12 hn4 hk h6 hns.1 hj hb hnn he hl) ?_
      refine rnF (nI_pos (show j < 2147483648 by omega)) rfl ?_
      refine rnN 1 rfl ?_
      exact rnR rfl
end OPS2
end
section
/-! ===== stage, overlay ===== -/
section OPG
variable {d k : Nat} {h : xH} {M : Nat → Nat} {W U : Nat → Nat → Nat} {f s : Nat → Int32}
theorem rn_eq {d mi pc : Nat} {loc : xL} {stk : List xV} {h hf hf2 : xH} {r : Option xV} (e : hf = hf2) (kk : Rn d mi pc loc stk h r hf) : Rn d mi pc loc stk h r hf2 := e ▸ kk
/-- the stage's cells are others than all that the images live in -/
theorem SI_stage {s1 s2 : Nat → Int32} (S : SI k W U h) (e : ∀ p, p < 512 → s1 p = s2 p) : SI k W U (hup (hup h (10, 3) s1) (13, 0) s2) := by
  obtain ⟨a1, a2, a3, a4, a5, a6, ⟨M, m1, m2⟩, a8⟩ := S
  have hne : ∀ q : xP, q ≠ (13, 0) → q ≠ (10, 3) → hup (hup h (10, 3) s1) (13, 0) s2 q = h q := fun q q1 q2 => by rw [hup_ne q1, hup_ne q2]
  refine ⟨a1, fun j hj => ?_, a3, a4, ?_, ?_, ⟨M, ?_, m2⟩, fun p hp => ?_⟩
  · rw [hne _ (fun e => by injection e with e1 e2; omega) (fun e => by injection e with e1 e2; omega)]
    exact a2 j hj
  · rw [hne _ (by decide) (by decide)]; exact a5
  · rw [hne _ (by decide) (by decide)]; exact a6
  · rw [hne _ (by decide) (by decide)]; exact m1
  · rw [hup_at, hup_ne (by decide), hup_at]
    exact e p hp
theorem op_stage (S : SI k W U h) (v a b c e : Int32) : OpOK MX3_stage MX4_stage [vI v, vI a, vI b, vI c, vI e] h := by
  by_cases a1 : v < 0
  · refine ⟨vI (nI 0), h, h, k, W, U, Cl_deep (n := 4) (by decide) ?_, Cl_deep (n := 4) (by decide) ?_, S⟩
    · refine rnN 1 rfl ?_
      refine rnT (a1) rfl ?_
      refine rnN 1 rfl ?_
      exact rnR rfl
    · refine rnN 1 rfl ?_
      refine rnT (a1) rfl ?_
      refine rnN 1 rfl ?_
      exact rnR rfl
  · by_cases a2 : v < nI 128
    · obtain ⟨p, hp, rfl⟩ := nI_of_small a1 (Int32.not_le.mpr a2) (by decide)
      have hst := S.2.2.2.2.2.2.2
      obtain ⟨w, hw⟩ : ∃ w, h (10, 3) = E w := ⟨fun i => tn (h (10, 3) i), by funext i; exact (nI_tn _).symm⟩
      obtain ⟨a, ha, rfl⟩ : ∃ x, x < 4294967296 ∧ a = nI x := ⟨tn a, tn_lt _, (nI_tn a).symm⟩
      obtain ⟨b, hb, rfl⟩ : ∃ x, x < 4294967296 ∧ b = nI x := ⟨tn b, tn_lt _, (nI_tn b).symm⟩
      obtain ⟨c, hc, rfl⟩ : ∃ x, x < 4294967296 ∧ c = nI x := ⟨tn c, tn_lt _, (nI_tn c).symm⟩
      obtain ⟨e, he, rfl⟩ : ∃ x, x < 4294967296 ∧ e = nI x := ⟨tn e, tn_lt _, (nI_tn e).symm⟩
      have hcl : p * 4 / 8 < 64 := by omega
      have hpl : p * 4 % 8 + 3 < 8 := by omega
      have hix : ∀ i, 8 * (p * 4 / 8) + (p * 4 % 8 + i) = 4 * p + i := fun i => by omega
      obtain ⟨s1, hs1⟩ : ∃ s1, s1 = E (up (up (up (up w (4 * p) a) (4 * p + 1) b) (4 * p + 2) c) (4 * p + 3) e) := ⟨_, rfl⟩
      obtain ⟨s2, hs2⟩ : ∃ s2, s2 = upd (upd (upd (upd (h (13, 0)) (4 * p) (nI a)) (4 * p + 1) (nI b)) (4 * p + 2) (nI c)) (4 * p + 3) (nI e) := ⟨_, rfl⟩
      have hq : ∀ q, q < 512 → s1 q = s2 q := fun q hq => by
        have h9 := hst q hq
        rw [hw] at h9
        rw [hs1, hs2, ← up_E, ← up_E, ← up_E, ← up_E]
        simp only [upd]
        split
        · rfl
        · split
          · rfl
          · split
            · rfl
            · split
              · rfl
              · exact h9
      refine ⟨vI (nI 1), hup h (10, 3) s1, hup (hup h (10, 3) s1) (13, 0) s2, k, W, U, Cl_deep (n := 4) (by decide) ?_, Cl_deep (n := 4) (by decide) ?_, SI_stage S hq⟩
      · refine rnN 1 rfl ?_
        refine rnF (a1) rfl ?_
        refine rnN 2 rfl ?_
        refine rnT (a2) rfl ?_
        refine rnN 17 rfl ?_
        simp (disch := omega) only [nI_add, pk_mul, pk_sub, nd8, nd4, nsub8, nand63, nand7, nshr2, nI_clamp, E_at, hup_at, hup_hup]
        refine rnK rfl (c_put (x := a) hw hcl (show p * 4 % 8 < 8 by omega)) ?_
        refine rnN 7 rfl ?_
        simp (disch := omega) only [nI_add, pk_mul, pk_sub, nd8, nd4, nsub8, nand63, nand7, nshr2, nI_clamp, E_at, hup_at, hup_hup]
        refine rnK rfl (c_put (x := b) hup_at hcl (show p * 4 % 8 + 1 < 8 by omega)) ?_
        rw [hup_hup]
        refine rnN 7 rfl ?_
        simp (disch := omega) only [nI_add, pk_mul, pk_sub, nd8, nd4, nsub8, nand63, nand7, nshr2, nI_clamp, E_at, hup_at, hup_hup]
        refine rnK rfl (c_put (x := c) hup_at hcl (show p * 4 % 8 + 2 < 8 by omega)) ?_
        rw [hup_hup]
        refine rnN 7 rfl ?_
        simp (disch := omega) only [nI_add, pk_mul, pk_sub, nd8, nd4, nsub8, nand63, nand7, nshr2, nI_clamp, E_at, hup_at, hup_hup]
        refine rnK rfl (c_put (x := e) hup_at hcl (show p * 4 % 8 + 3 < 8 by omega)) ?_
        rw [hup_hup]
        refine rnN 1 rfl ?_
        rw [show 8 * (p * 4 / 8) + p * 4 % 8 = 4 * p by omega, hix 1, hix 2, hix 3, ← hs1]
        exact rnR rfl
      · have h13 : hup h (10, 3) s1 (13, 0) = h (13, 0) := hup_ne (by decide)
        refine rnN 1 rfl ?_
        refine rnF (a1) rfl ?_
        refine rnN 2 rfl ?_
        refine rnF (nI_nlt (show p ≤ 127 by omega) (by decide)) rfl ?_
        refine rnN 6 rfl ?_
        simp (disch := omega) only [nI_add, pk_mul, pk_sub, nd8, nd4, nsub8, nand63, nand7, nshr2, nI_clamp, E_at, hup_at, hup_hup]
        refine rnC (inN (show 4 * p < 512 by omega) (by decide)) rfl ?_
        simp (disch := omega) only [nI_add, pk_mul, pk_sub, nd8, nd4, nsub8, nand63, nand7, nshr2, nI_clamp, E_at, hup_at, hup_hup, hpt_def]
        refine rnN 8 rfl ?_
        simp (disch := omega) only [nI_add, pk_mul, pk_sub, nd8, nd4, nsub8, nand63, nand7, nshr2, nI_clamp, E_at, hup_at, hup_hup]
        refine rnC (inN (show 4 * p + 1 < 512 by omega) (by decide)) rfl ?_
        simp (disch := omega) only [nI_add, pk_mul, pk_sub, nd8, nd4, nsub8, nand63, nand7, nshr2, nI_clamp, E_at, hup_at, hup_hup, hpt_def]
        refine rnN 8 rfl ?_
        simp (disch := omega) only [nI_add, pk_mul, pk_sub, nd8, nd4, nsub8, nand63, nand7, nshr2, nI_clamp, E_at, hup_at, hup_hup]
        refine rnC (inN (show 4 * p + 2 < 512 by omega) (by decide)) rfl ?_
        simp (disch := omega) only [nI_add, pk_mul, pk_sub, nd8, nd4, nsub8, nand63, nand7, nshr2, nI_clamp, E_at, hup_at, hup_hup, hpt_def]
        refine rnN 8 rfl ?_
        simp (disch := omega) only [nI_add, pk_mul, pk_sub, nd8, nd4, nsub8, nand63, nand7, nshr2, nI_clamp, E_at, hup_at, hup_hup]
        refine rnC (inN (show 4 * p + 3 < 512 by omega) (by decide)) rfl ?_
        simp (disch := omega) only [nI_add, pk_mul, pk_sub, nd8, nd4, nsub8, nand63, nand7, nshr2, nI_clamp, E_at, hup_at, hup_hup, hpt_def]
        refine rnN 1 rfl ?_
        rw [h13, ← hs2]
        exact rnR rfl
    · refine ⟨vI (nI 0), h, h, k, W, U, Cl_deep (n := 4) (by decide) ?_, Cl_deep (n := 4) (by decide) ?_, S⟩
      · refine rnN 1 rfl ?_
        refine rnF (a1) rfl ?_
        refine rnN 2 rfl ?_
        refine rnF (a2) rfl ?_
        refine rnN 1 rfl ?_
        exact rnR rfl
      · refine rnN 1 rfl ?_
        refine rnF (a1) rfl ?_
        refine rnN 2 rfl ?_
        refine rnT ((Int32.lt_of_lt_of_le (show nI 127 < nI 128 by decide) (Int32.not_lt.mp a2))) rfl ?_
        refine rnN 1 rfl ?_
        exact rnR rfl
/-- the words of a new file, the rest as it was -/
def fmW (w : Nat → Nat) (size : Nat) : Nat → Nat := fun p => if p < 512 then newF size p else w p
def fmU : Nat → Nat := fun c => if c = 1 then 2 else if c = 2 then 16 else if c = 3 then 1 else 0
theorem newF_0 {size p : Nat} (h : 20 ≤ p) : newF size p = 0 := by
  obtain ⟨q, rfl⟩ : ∃ q, p = q + 20 := ⟨p - 20, by omega⟩
  rfl
theorem newF_cases (size p : Nat) : newF size p = size ∨ newF size p ≤ 7001 := by
  by_cases e : 20 ≤ p
  · rw [newF_0 e]
    exact Or.inr (by decide)
  · rcases (show p = 0 ∨ p = 1 ∨ p = 2 ∨ p = 3 ∨ p = 4 ∨ p = 5 ∨ p = 6 ∨ p = 7 ∨ p = 8 ∨ p = 9 ∨ p = 10 ∨ p = 11 ∨ p = 12 ∨ p = 13 ∨ p = 14 ∨ p = 15 ∨ p = 16 ∨ p = 17 ∨ p = 18 ∨ p = 19 by omega) with rfl | rfl | rfl | rfl | rfl | rfl | rfl | rfl | rfl | rfl | rfl | rfl | rfl | rfl | rfl | rfl | rfl | rfl | rfl | rfl <;> first | exact Or.inl rfl | exact Or.inr (Nat.le_of_ble_eq_true rfl)
theorem fm_inv {w : Nat → Nat} {size : Nat} (h1 : 1 ≤ size) (h2 : size ≤ 64) (hw : ∀ p, w p < 4294967296) : Inv (fmW w size) fmU ∧ flg (fmW w size) fmU = fmW w size := by
  have hlow : ∀ p, p < 512 → fmW w size p = newF size p := fun p hp => if_pos hp
  have e2 : fmW w size 2 = size := hlow 2 (by decide)
  have e3 : fmW w size 3 = 3 := hlow 3 (by decide)
  have e4 : fmW w size 4 = 1 := hlow 4 (by decide)
  have e5 : fmW w size 5 = 0 := hlow 5 (by decide)
  have e6 : fmW w size 6 = 0 := hlow 6 (by decide)
  have ek : ∀ k, k < 8 → fmW w size (8 * 1 + k) = if k = 0 then 2 else 0 := fun k hk => by
    rw [hlow _ (by omega)]
    rcases (show k = 0 ∨ k = 1 ∨ k = 2 ∨ k = 3 ∨ k = 4 ∨ k = 5 ∨ k = 6 ∨ k = 7 by omega) with rfl | rfl | rfl | rfl | rfl | rfl | rfl | rfl <;> rfl
  have et : ∀ i, i < 8 → fmW w size (8 * 3 + i) = 0 := fun i hi => by rw [hlow _ (by omega)]; exact newF_0 (by omega)
  have hTB : ∀ t, TB (fmW w size) t → t = 3 := by
    rintro t (rfl | ⟨j, hj, -⟩)
    · exact e3
    · rw [e5] at hj; omega
  have hT : ∀ X, T (fmW w size) X = iv X 0 + iv 1 X + iv 2 X + iv 3 X := by
    intro X
    have ekc : kc (fmW w size) X = iv 2 X := by
      unfold kc
      rw [e4]
      have h3 : (sm 8 fun k => if fmW w size (8 * 1 + k) = 0 then 0 else iv (fmW w size (8 * 1 + k)) X) = sm 8 fun k => if k = 0 then iv 2 X else 0 := sm_congr fun k hk => by
        show (if fmW w size (8 * 1 + k) = 0 then 0 else iv (fmW w size (8 * 1 + k)) X) = if k = 0 then iv 2 X else 0
        rw [ek k hk]
        by_cases e : k = 0
        · rw [if_pos e, if_pos e, if_neg (by decide)]
        · rw [if_neg e, if_neg e, if_pos rfl]
      rw [h3]
      simp [sm]
    have etc : tc (fmW w size) X 3 = iv 3 X := by
      rw [tc_tl]
      have h3 : tl (fmW w size) X 3 = 0 := sm_zero fun i hi => by
        show lc (fmW w size) X (fmW w size (8 * 3 + i)) = 0
        rw [et i hi]
        rfl
      rw [h3]
      rfl
    unfold T
    rw [e3, e4, e5, e6, ekc, etc, if_pos rfl]
    simp only [sm]
    omega
  have hi : Inv (fmW w size) fmU := by
    refine ⟨⟨by rw [e2]; omega, by rw [e3]; decide, by rw [e4]; decide, by rw [e5]; exact ⟨by omega, fun h => absurd rfl h⟩, fun h => absurd e6 h, ?_, ?_, ?_⟩, ?_, ?_, ?_, ?_⟩
    · rw [e4]
      intro k hk h0
      rw [ek k hk] at h0 ⊢
      by_cases e : k = 0
      · rw [if_pos e, e]; decide
      · rw [if_neg e] at h0; exact absurd rfl h0
    · rw [e5]; intro j hj; omega
    · intro t ht i hi8
      rw [hTB t ht, et i hi8]
      exact Or.inl rfl
    · intro X hX
      rw [hT]
      unfold cnt
      rw [e4, ek _ (by omega)]
      by_cases e : X / 8 = 0
      · rw [if_pos e, if_neg (by decide), hlow _ (by omega)]
        rcases (show X = 0 ∨ X = 1 ∨ X = 2 ∨ X = 3 ∨ X = 4 ∨ X = 5 ∨ X = 6 ∨ X = 7 by omega) with rfl | rfl | rfl | rfl | rfl | rfl | rfl | rfl <;> rfl
      · rw [if_neg e, if_pos rfl, iv_ne (by omega), iv_ne (by omega), iv_ne (by omega), iv_ne (by omega)]
    · intro X hX h0 j hj
      rw [hT] at h0
      have hX4 : 4 ≤ X := by
        refine Classical.byContradiction fun h => ?_
        rcases (show X = 0 ∨ X = 1 ∨ X = 2 ∨ X = 3 by omega) with rfl | rfl | rfl | rfl <;> simp [iv] at h0
      rw [hlow _ (by omega)]
      exact newF_0 (by omega)
    · exact ⟨hlow 0 (by decide), hlow 1 (by decide), hlow 7 (by decide), fun h => absurd e6 h, by rw [e5]; intro i j hi; omega⟩
    · intro p
      unfold fmW
      split
      · rcases newF_cases size p with e | e <;> omega
      · exact hw p
  refine ⟨hi, ?_⟩
  funext p
  by_cases e : 1 ≤ p / 8 ∧ p / 8 < 64 ∧ TL fmU (p / 8)
  · rw [flg_in e]
    have h3 : p / 8 = 3 := by
      obtain ⟨e1, e2, e3⟩ := e
      unfold TL fmU at e3
      split at e3
      · omega
      · split at e3
        · omega
        · split at e3
          · assumption
          · omega
    have h4 := et (p % 8) (by omega)
    rw [show 8 * 3 + p % 8 = p by omega] at h4
    rw [h4]
    rfl
  · exact flg_out e
theorem c_format {j size : Nat} {w : Nat → Nat} (hw : h (10, j) = E w) : Cl (d + 1) MX0_format [vR (0, j), vI (nI size)] h none (hup h (10, j) (E (fmW w size))) := by
  refine rnN 2 rfl ?_
  refine rnH (hE0 (v := fun p => if p < 0 then 0 else w p) hw (by funext p; rw [if_neg (by omega)])) ?_
  refine lpN 512 (fun i => Rn (d + 1) MX0_format 2 [some (vR (0, j)), some (vI (nI size)), some (vI (nI i))] [] (hup h (10, j) (E fun p => if p < i then 0 else w p)) none (hup h (10, j) (E (fmW w size)))) (fun i hi K => ?_) ?_
  · refine rnN 2 rfl ?_
    refine rnT (nI_lt hi (by decide)) rfl ?_
    refine rnN 4 rfl ?_
    refine rnC (inN (show i < 512 by omega) (by decide)) rfl ?_
    simp (disch := omega) only [nI_add, pk_mul, pk_sub, nd8, nd4, nsub8, nand63, nand7, nshr2, nI_clamp, E_at, hup_at, hup_hup]
    rw [hpt_E hup_at, hup_hup]
    refine rnN 2 rfl ?_
    simp (disch := omega) only [nI_add, pk_mul, pk_sub, nd8, nd4, nsub8, nand63, nand7, nshr2, nI_clamp, E_at, hup_at, hup_hup]
    refine rnH ?_ K
    congr 2
    funext p
    simp only [up]
    by_cases e : p = i
    · rw [if_pos e, if_pos (by omega)]
    · rw [if_neg e]
      by_cases e2 : p < i
      · rw [if_pos e2, if_pos (by omega)]
      · rw [if_neg e2, if_neg (by omega)]
  · refine rnN 3 rfl ?_
    refine rnN 4 rfl ?_
    refine rnK rfl (c_hput (x := 7001) hup_at (show 0 < 8 by decide)) ?_
    rw [hup_hup]
    refine rnN 4 rfl ?_
    refine rnK rfl (c_hput (x := 1) hup_at (show 1 < 8 by decide)) ?_
    rw [hup_hup]
    refine rnN 4 rfl ?_
    refine rnK rfl (c_hput (x := size) hup_at (show 2 < 8 by decide)) ?_
    rw [hup_hup]
    refine rnN 4 rfl ?_
    refine rnK rfl (c_hput (x := 3) hup_at (show 3 < 8 by decide)) ?_
    rw [hup_hup]
    refine rnN 4 rfl ?_
    refine rnK rfl (c_hput (x := 1) hup_at (show 4 < 8 by decide)) ?_
    rw [hup_hup]
    refine rnN 4 rfl ?_
    refine rnK rfl (c_put (c := 1) (j := 0) (x := 2) hup_at (by decide) (by decide)) ?_
    rw [hup_hup]
    refine rnN 2 rfl ?_
    refine rnN 3 rfl ?_
    refine rnN 4 rfl ?_
    refine rnK rfl (c_put (c := 2) (j := 0) (x := 1) hup_at (by decide) (by decide)) ?_
    rw [hup_hup]
    refine rnN 2 rfl ?_
    refine rnN 3 rfl ?_
    refine rnN 4 rfl ?_
    refine rnK rfl (c_put (c := 2) (j := 1) (x := 1) hup_at (by decide) (by decide)) ?_
    rw [hup_hup]
    refine rnN 2 rfl ?_
    refine rnN 3 rfl ?_
    refine rnN 4 rfl ?_
    refine rnK rfl (c_put (c := 2) (j := 2) (x := 1) hup_at (by decide) (by decide)) ?_
    rw [hup_hup]
    refine rnN 2 rfl ?_
    refine rnN 3 rfl ?_
    refine rnN 4 rfl ?_
    refine rnK rfl (c_put (c := 2) (j := 3) (x := 1) hup_at (by decide) (by decide)) ?_
    rw [hup_hup]
    refine rnN 2 rfl ?_
    refine rnN 3 rfl ?_
    refine rn_eq ?_ (rnR rfl)
    congr 2
    funext p
    simp only [up, fmW]
    by_cases e : 20 ≤ p
    · rw [if_neg (by omega), if_neg (by omega), if_neg (by omega), if_neg (by omega), if_neg (by omega), if_neg (by omega), if_neg (by omega), if_neg (by omega), if_neg (by omega), if_neg (by omega)]
      split
      · exact (newF_0 e).symm
      · rfl
    · rcases (show p = 0 ∨ p = 1 ∨ p = 2 ∨ p = 3 ∨ p = 4 ∨ p = 5 ∨ p = 6 ∨ p = 7 ∨ p = 8 ∨ p = 9 ∨ p = 10 ∨ p = 11 ∨ p = 12 ∨ p = 13 ∨ p = 14 ∨ p = 15 ∨ p = 16 ∨ p = 17 ∨ p = 18 ∨ p = 19 by omega) with rfl | rfl | rfl | rfl | rfl | rfl | rfl | rfl | rfl | rfl | rfl | rfl | rfl | rfl | rfl | rfl | rfl | rfl | rfl | rfl <;> rfl
end OPG
end
section
/-! ===== overlay ===== -/
section OPV
variable {d k : Nat} {h : xH} {M : Nat → Nat} {W U : Nat → Nat → Nat} {f s : Nat → Int32}
theorem m_fresh {g size : Nat} (hM : h (12, 0) = E M) (hg : g < 4) (h1 : 1 ≤ size) (h2 : size ≤ 64) : ∃ f', Cl (d + 4) MX4_fresh [vR (4, 0), vI (nI g), vI (nI size)] h none (mh h f' (pf M g (newF size))) := by
  obtain ⟨w, hw⟩ : ∃ w : Nat → Nat, w = fun p => M (512 * g + p) := ⟨_, rfl⟩
  have hMw : pf M g w = M := pf_self fun p _ => by rw [hw]
  obtain ⟨hI, hfl⟩ := fm_inv (w := fun _ => 0) h1 h2 (fun _ => by decide)
  have hag : Agr (up (up (up (up (up (up (fun _ => 0) 0 7001) 1 1) 2 size) 3 3) 4 1) 8 2) (fmW (fun _ => 0) size) fmU := by
    intro p hTp hu
    left
    have hp := hI.1.T64 hTp
    have h2 : p / 8 ≠ 2 := fun e => by rw [e] at hu; revert hu; unfold fmU; simp
    have h3 : fmW (fun _ => 0) size p = newF size p := if_pos (by omega)
    rw [h3]
    simp only [up]
    by_cases e : 20 ≤ p
    · rw [if_neg (by omega), if_neg (by omega), if_neg (by omega), if_neg (by omega), if_neg (by omega), if_neg (by omega), newF_0 e]
    · rcases (show p = 0 ∨ p = 1 ∨ p = 2 ∨ p = 3 ∨ p = 4 ∨ p = 5 ∨ p = 6 ∨ p = 7 ∨ p = 8 ∨ p = 9 ∨ p = 10 ∨ p = 11 ∨ p = 12 ∨ p = 13 ∨ p = 14 ∨ p = 15 by omega) with rfl | rfl | rfl | rfl | rfl | rfl | rfl | rfl | rfl | rfl | rfl | rfl | rfl | rfl | rfl | rfl <;> rfl
  have hsR := hag.eS hI.1
  have hst := m_settle (d := d) (h := mh h (h (14, 0)) (pf M g (up (up (up (up (up (up (fun _ => 0) 0 7001) 1 1) 2 size) 3 3) 4 1) 8 2))) (M := M) mh_12 hg hsR
  have hfin : pf M g (stl (up (up (up (up (up (up (fun _ => 0) 0 7001) 1 1) 2 size) 3 3) 4 1) 8 2) fmU) = pf M g (newF size) := pf_congr fun p hp => by
    rw [stl_agr hI hag p hp, hfl]
    exact if_pos hp
  rw [mh_mh, mh_14, hfin] at hst
  refine ⟨cf (h (14, 0)) (T (up (up (up (up (up (up (fun _ => 0) 0 7001) 1 1) 2 size) 3 3) 4 1) 8 2)), ?_⟩
  refine rnN 2 rfl ?_
  have e0 : h = mh h (h (14, 0)) (pf M g fun p => if p < 0 then 0 else w p) := by
    rw [pf_congr (v := fun p => if p < 0 then 0 else w p) (w := w) (fun p _ => by rw [if_neg (by omega)]), hMw]
    unfold mh
    rw [hup_self (p := (14, 0)) rfl, hup_self hM]
  refine rnH e0 ?_
  refine lpN 512 (fun i => Rn (d + 4) MX4_fresh 2 [some (vR (4, 0)), some (vI (nI g)), some (vI (nI size)), some (vI (nI i))] [] (mh h (h (14, 0)) (pf M g fun p => if p < i then 0 else w p)) none (mh h (cf (h (14, 0)) (T (up (up (up (up (up (up (fun _ => 0) 0 7001) 1 1) 2 size) 3 3) 4 1) 8 2))) (pf M g (newF size)))) (fun i hi K => ?_) ?_
  · refine rnN 2 rfl ?_
    refine rnT (nI_lt hi (by decide)) rfl ?_
    refine rnN 8 rfl ?_
    simp (disch := omega) only [nI_add, pk_mul, pk_sub, nd8, nd4, nsub8, nand63, nand7, nshr2, nI_clamp, E_at, hup_at, hup_hup, hpt_def, pf_at, pf_at2, cf_at, h12_14, h14_12, h12_15, h15_12, h14_15, h15_14]
    refine rnC (inN (show 512 * g + i < 2048 by omega) (by decide)) rfl ?_
    simp (disch := omega) only [nI_clamp, mhpt]
    rw [pf_up hi]
    refine rnN 2 rfl ?_
    simp (disch := omega) only [nI_add, pk_mul, pk_sub, nd8, nd4, nsub8, nand63, nand7, nshr2, nI_clamp, E_at, hup_at, hup_hup, hpt_def, pf_at, pf_at2, cf_at, h12_14, h14_12, h12_15, h15_12, h14_15, h15_14]
    refine rnH ?_ K
    congr 2
    funext p
    simp only [up]
    by_cases e : p = i
    · rw [if_pos e, if_pos (by omega)]
    · rw [if_neg e]
      by_cases e2 : p < i
      · rw [if_pos e2, if_pos (by omega)]
      · rw [if_neg e2, if_neg (by omega)]
  · have e1 : pf M g (fun p => if p < 512 then 0 else w p) = pf M g fun _ => 0 := pf_congr fun p hp => if_pos hp
    rw [e1]
    refine rnN 3 rfl ?_
    refine rnN 6 rfl ?_
    simp (disch := omega) only [nI_add, pk_mul, pk_sub, nd8, nd4, nsub8, nand63, nand7, nshr2, nI_clamp, E_at, hup_at, hup_hup, hpt_def, pf_at, pf_at2, cf_at, h12_14, h14_12, h12_15, h15_12, h14_15, h15_14]
    rw [show 512 * g = 512 * g + 0 from rfl]
    refine rnC (inN (show 512 * g + 0 < 2048 by omega) (by decide)) rfl ?_
    simp (disch := omega) only [nI_clamp, mhpt]
    rw [pf_up (show 0 < 512 by decide)]
    refine rnN 8 rfl ?_
    simp (disch := omega) only [nI_add, pk_mul, pk_sub, nd8, nd4, nsub8, nand63, nand7, nshr2, nI_clamp, E_at, hup_at, hup_hup, hpt_def, pf_at, pf_at2, cf_at, h12_14, h14_12, h12_15, h15_12, h14_15, h15_14]
    refine rnC (inN (show 512 * g + 1 < 2048 by omega) (by decide)) rfl ?_
    simp (disch := omega) only [nI_clamp, mhpt]
    rw [pf_up (show 1 < 512 by decide)]
    refine rnN 8 rfl ?_
    simp (disch := omega) only [nI_add, pk_mul, pk_sub, nd8, nd4, nsub8, nand63, nand7, nshr2, nI_clamp, E_at, hup_at, hup_hup, hpt_def, pf_at, pf_at2, cf_at, h12_14, h14_12, h12_15, h15_12, h14_15, h15_14]
    refine rnC (inN (show 512 * g + 2 < 2048 by omega) (by decide)) rfl ?_
    simp (disch := omega) only [nI_clamp, mhpt]
    rw [pf_up (show 2 < 512 by decide)]
    refine rnN 8 rfl ?_
    simp (disch := omega) only [nI_add, pk_mul, pk_sub, nd8, nd4, nsub8, nand63, nand7, nshr2, nI_clamp, E_at, hup_at, hup_hup, hpt_def, pf_at, pf_at2, cf_at, h12_14, h14_12, h12_15, h15_12, h14_15, h15_14]
    refine rnC (inN (show 512 * g + 3 < 2048 by omega) (by decide)) rfl ?_
    simp (disch := omega) only [nI_clamp, mhpt]
    rw [pf_up (show 3 < 512 by decide)]
    refine rnN 8 rfl ?_
    simp (disch := omega) only [nI_add, pk_mul, pk_sub, nd8, nd4, nsub8, nand63, nand7, nshr2, nI_clamp, E_at, hup_at, hup_hup, hpt_def, pf_at, pf_at2, cf_at, h12_14, h14_12, h12_15, h15_12, h14_15, h15_14]
    refine rnC (inN (show 512 * g + 4 < 2048 by omega) (by decide)) rfl ?_
    simp (disch := omega) only [nI_clamp, mhpt]
    rw [pf_up (show 4 < 512 by decide)]
    refine rnN 8 rfl ?_
    simp (disch := omega) only [nI_add, pk_mul, pk_sub, nd8, nd4, nsub8, nand63, nand7, nshr2, nI_clamp, E_at, hup_at, hup_hup, hpt_def, pf_at, pf_at2, cf_at, h12_14, h14_12, h12_15, h15_12, h14_15, h15_14]
    refine rnC (inN (show 512 * g + 8 < 2048 by omega) (by decide)) rfl ?_
    simp (disch := omega) only [nI_clamp, mhpt]
    rw [pf_up (show 8 < 512 by decide)]
    refine rnN 2 rfl ?_
    refine rnK rfl (hst) ?_
    exact rnR rfl
/-- the chain grows by an image -/
theorem SI_push {w u : Nat → Nat} {A C : Nat → Int32} (S : SI k W U h) (hk : k + 1 < 3) (hI : Inv w u) (hf : flg w u = w) (h60 : w 5 = 0 → w 6 = 0) (h2 : W k 2 ≤ w 2) (hM : ∀ j p, j ≤ k → p < 512 → M (512 * j + p) = W j p) (hA : A 1 = nI (k + 2)) (hC : C 2 = nI (k + 2)) {v : Nat → Nat} (hv : ∀ p, p < 512 → v p = w p) :
    SI (k + 1) (setW W (k + 1) w) (setW U (k + 1) u) (hup (mh (hup (hup h (3, 0) A) (10, k + 1) (E w)) f (pf M (k + 1) v)) (4, 0) C) := by
  obtain ⟨a1, a2, a3, a4, a5, a6, -, a8⟩ := S
  have hne : ∀ q : xP, q ≠ (12, 0) → q ≠ (14, 0) → q ≠ (4, 0) → q ≠ (10, k + 1) → q ≠ (3, 0) → hup (mh (hup (hup h (3, 0) A) (10, k + 1) (E w)) f (pf M (k + 1) v)) (4, 0) C q = h q := fun q q1 q2 q3 q4 q5 => by
    rw [hup_ne q3, mh_o q1 q2, hup_ne q4, hup_ne q5]
  refine ⟨hk, fun j hj => ?_, fun j hj => ?_, fun j p => ?_, ?_, ?_, ⟨pf M (k + 1) v, ?_, fun j p hj hp => ?_⟩, fun p hp => ?_⟩
  · by_cases e : j = k + 1
    · rw [e, setW_at, setW_at, hup_ne (fun e2 => by injection e2 with e1 e2; omega), mh_o (fun e2 => by injection e2 with e1 e2; omega) (fun e2 => by injection e2 with e1 e2; omega), hup_at]
      exact ⟨rfl, hI, hf, h60⟩
    · rw [setW_ne e, setW_ne e, hne _ (fun e2 => by injection e2 with e1 e2; omega) (fun e2 => by injection e2 with e1 e2; omega) (fun e2 => by injection e2 with e1 e2; omega) (fun e2 => by injection e2 with e1 e2; omega) (fun e2 => by injection e2 with e1 e2; omega)]
      exact a2 j (by omega)
  · by_cases e : j + 1 = k + 1
    · rw [e, setW_at, setW_ne (by omega), show j = k by omega]
      exact h2
    · rw [setW_ne (by omega), setW_ne e]
      exact a3 j (by omega)
  · unfold setW
    split
    · exact hI.2.2.2.2 p
    · exact a4 j p
  · rw [hup_ne (by decide), mh_o (by decide) (by decide), hup_ne (fun e2 => by injection e2 with e1 e2; omega), hup_at]
    exact hA
  · rw [hup_at]
    exact hC
  · rw [hup_ne (by decide), mh_12]
  · by_cases e : j = k + 1
    · rw [e, setW_at, pf_at hp]
      exact hv p hp
    · rw [setW_ne e, pf_ne hp e]
      exact hM j p (by omega) hp
  · rw [hne (10, 3) (by decide) (by decide) (by decide) (fun e2 => by injection e2 with e1 e2; omega) (by decide), hne (13, 0) (by decide) (by decide) (by decide) (fun e2 => by injection e2 with e1 e2; omega) (by decide)]
    exact a8 p hp
theorem op_overlay (S : SI k W U h) : OpOK MX3_overlay MX4_overlay [] h := by
  obtain ⟨M, hM, hMw, hMp⟩ := S.mem
  have hk := S.1
  have hi := S.inv (Nat.le_refl k)
  have hw := S.file (Nat.le_refl k)
  have hsz := hi.1.sz
  have hg : k < 4 := by omega
  have hw12 : h (12, 0) = E (pf M k (W k)) := by rw [hM, hMp k (Nat.le_refl k)]
  have hn3 := S.2.2.2.2.1
  have hn4 := S.2.2.2.2.2.1
  by_cases hk2 : k = 2
  · refine ⟨vI (-3), h, h, k, W, U, Cl_deep (n := 6) (by decide) ?_, Cl_deep (n := 4) (by decide) ?_, S⟩
    · refine rnN 3 rfl ?_
      rw [hn3, hk2]
      refine rnN 2 rfl ?_
      exact rnR rfl
    · refine rnN 3 rfl ?_
      rw [hn4, hk2]
      refine rnN 2 rfl ?_
      exact rnR rfl
  · obtain ⟨w, hw1⟩ : ∃ w, h (10, k + 1) = E w ∧ ∀ p, w p < 4294967296 := ⟨fun i => tn (h (10, k + 1) i), by funext i; exact (nI_tn _).symm, fun i => tn_lt _⟩
    obtain ⟨hw1, hwb⟩ := hw1
    obtain ⟨hI, hfl⟩ := fm_inv (w := w) hsz.1 hsz.2 hwb
    obtain ⟨A, hA⟩ : ∃ A, A = upd (h (3, 0)) 1 (nI (k + 2)) := ⟨_, rfl⟩
    obtain ⟨C, hC⟩ : ∃ C, C = upd (h (4, 0)) 2 (nI (k + 2)) := ⟨_, rfl⟩
    have hA1 : A 1 = nI (k + 2) := by rw [hA]; exact if_pos rfl
    have hC2 : C 2 = nI (k + 2) := by rw [hC]; exact if_pos rfl
    obtain ⟨h1, hh1⟩ : ∃ h1, h1 = hup (hup h (3, 0) A) (10, k + 1) (E (fmW w (W k 2))) := ⟨_, rfl⟩
    have n1 : ∀ q : xP, q ≠ (10, k + 1) → q ≠ (3, 0) → h1 q = h q := fun q hq hq2 => by rw [hh1, hup_ne hq, hup_ne hq2]
    have q12 : h1 (12, 0) = E M := by rw [n1 _ (fun e => by injection e with e1 e2; omega) (by decide)]; exact hM
    have q4 : h1 (4, 0) = h (4, 0) := n1 _ (fun e => by injection e with e1 e2; omega) (by decide)
    obtain ⟨f', hfr⟩ := m_fresh (d := 3) (h := h1) (g := k + 1) q12 (by omega) hsz.1 hsz.2
    have h9 := SI_push (f := f') (A := A) (C := C) (v := newF (W k 2)) S (by omega) hI hfl (fun _ => if_pos (by decide)) (by rw [show fmW w (W k 2) 2 = W k 2 from if_pos (by decide)]; exact Nat.le_refl _) hMw hA1 hC2 (fun p hp => (if_pos hp).symm)
    rw [← hh1] at h9
    refine ⟨vI (nI (k + 2)), h1, hup (mh h1 f' (pf M (k + 1) (newF (W k 2)))) (4, 0) C, k + 1, _, _, Cl_deep (n := 6) (by decide) ?_, ?_, h9⟩
    · have hn3' : hup h (3, 0) A (3, 0) 1 = nI (k + 1 + 1) := by rw [hup_at]; exact hA1
      have h3k : ¬ nI (k + 1) = nI 3 := fun e => hk2 (by have := (neq (by omega) (by decide)).mp e; omega)
      rw [hh1]
      refine rnN 3 rfl ?_
      rw [hn3]
      refine rnF (h3k) rfl ?_
      refine rnN 1 rfl ?_
      refine rnK rfl (c_top hn3 hk) ?_
      refine rnK rfl (c_blocks hw) ?_
      refine rnN 5 rfl ?_
      rw [hn3]
      refine rnN 1 rfl ?_
      simp (disch := omega) only [nI_add, pk_mul, pk_sub, nd8, nd4, nsub8, nand63, nand7, nshr2, nI_clamp, E_at, hup_at, hup_hup]
      refine rnN 2 rfl ?_
      rw [show hpt h (3, 0) 1 (nI (k + 1 + 1)) = hup h (3, 0) A by rw [hA]; rfl]
      refine rnK rfl (c_top hn3' (show k + 1 < 3 by omega)) ?_
      refine rnN 2 rfl ?_
      refine rnK rfl (c_format (w := w) (by rw [hup_ne (fun e => by injection e with e1 e2; omega)]; exact hw1)) ?_
      refine rnN 2 rfl ?_
      rw [hup_ne (show ((3, 0) : xP) ≠ (10, k + 1) from fun e => by injection e with e1 e2; omega), hn3']
      exact rnR rfl
    · have h3k : ¬ nI (k + 1) = nI 3 := fun e => hk2 (by have := (neq (by omega) (by decide)).mp e; omega)
      refine rnN 3 rfl ?_
      rw [q4, hn4]
      refine rnF (h3k) rfl ?_
      refine rnN 5 rfl ?_
      rw [q4, m_top hn4]
      refine rnK rfl (m_sizeOf (w := W k) (M := M) (by rw [q12, hMp k (Nat.le_refl k)]) hg) ?_
      refine rnN 4 rfl ?_
      rw [q4, hn4]
      refine rnN 1 rfl ?_
      refine rnK rfl (hfr) ?_
      refine rnN 4 rfl ?_
      rw [mh_o (by decide) (by decide), q4, hn4]
      refine rnN 1 rfl ?_
      simp (disch := omega) only [nI_add, pk_mul, pk_sub, nd8, nd4, nsub8, nand63, nand7, nshr2, nI_clamp, E_at, hup_at, hup_hup]
      have e9 : hpt (mh h1 f' (pf M (k + 1) (newF (W k 2)))) (4, 0) 2 (nI (k + 1 + 1)) = hup (mh h1 f' (pf M (k + 1) (newF (W k 2)))) (4, 0) C := by
        unfold hpt
        rw [mh_o (by decide) (by decide), q4, hC]
      refine rnN 3 rfl ?_
      rw [e9, hup_at, hC2]
      exact rnR rfl
end OPV
end
section
/-! ===== what the steps of a commit leave as it was ===== -/
/-- words alike but for the mark -/
def sim (x y : Nat) : Prop := x / 4 = y / 4 ∧ (y / 4 = 0 → x = y)
section S4
variable {V W' u : Nat → Nat}
theorem sim_refl (x : Nat) : sim x x := ⟨rfl, fun _ => rfl⟩
theorem sim_trans {x y z : Nat} (h1 : sim x y) (h2 : sim y z) : sim x z := ⟨h1.1.trans h2.1, fun e => (h1.2 (by rw [h2.1]; exact e)).trans (h2.2 e)⟩
theorem sim_symm {x y : Nat} (h : sim x y) : sim y x := ⟨h.1.symm, fun e => (h.2 (by rw [← h.1]; exact e)).symm⟩
theorem agr_aw {v w : Nat → Nat} (ha : Agr v w u) (hs : Str w u) {m : Nat} (hm : m < 64) : sim (awd v m) (awd w m) := by
  have e3 := ha.hdr (p := 3) (by decide)
  have e := ha.tb4 hs act_tb (show m / 8 < 8 by omega)
  unfold awd bwd
  rw [e3, e]
  split
  · exact sim_refl _
  · next h0 =>
    rcases ha.lfw hs act_tb (show m / 8 < 8 by omega) (show m % 8 < 8 by omega) h0 with e2 | ⟨e2, e3, e4⟩
    · rw [e2]; exact sim_refl _
    · exact ⟨e3, fun e5 => absurd e5 e2⟩
theorem gL_more (hi : Inv V u) {n : Nat} (hn : n < V 2) (hr : nLeaf V n ≤ rm V) : (∀ i, i < 8 → i ≠ n / 8 → gL V n (8 * V 3 + i) = V (8 * V 3 + i)) ∧ (∀ m, m < 64 → awd (gL V n) m = awd V m) ∧ (∀ i, i < 8 → i ≠ n / 8 → V (8 * V 3 + i) / 4 ≠ 0 → T (gL V n) (V (8 * V 3 + i) / 4) = T V (V (8 * V 3 + i) / 4)) := by
  have hs := hi.1
  have hn64 := hs.sz.2
  by_cases ho : ow V (V (8 * V 3 + n / 8)) = true
  · have e : gL V n = V := if_pos ho
    rw [e]
    exact ⟨fun _ _ _ => rfl, fun _ _ => rfl, fun _ _ _ _ => rfl⟩
  · have en : nLeaf V n = 1 := if_neg ho
    rw [en] at hr
    obtain ⟨u0, ha0, hu0, -, -, -, -, -, hTT, hO, hH, hC5⟩ := tk_spec hi hr
    obtain ⟨u1, ha, hI, hT, vC, vA, vO, hC1, hC2, hC3⟩ := gL_specT hi hn ho hr
    have hsv := ha.1
    have hi8 : n / 8 < 8 := by omega
    have e3 := hH 3 (by decide)
    have hact := hs.act
    have hct := hs.ct
    have hne34 : V 3 ≠ V 4 := fun e => by rw [e] at hact; omega
    have hlf4 : ∀ i, i < 8 → V (8 * V 3 + i) / 4 ≠ 0 → V (8 * V 3 + i) / 4 ≠ V 4 := fun i hi2 h0 e => by have := ((hs.tw act_tb hi2).lead h0).2.2.1; rw [e] at this; omega
    have htw : ∀ i, i < 8 → tkW V (8 * V 3 + i) = V (8 * V 3 + i) := fun i hi2 => hO _ (by rw [ix_div hi2]; have := T_act (w := V); omega) (by rw [ix_div hi2]; exact hne34)
    have htl : ∀ i j, i < 8 → j < 8 → V (8 * V 3 + i) / 4 ≠ 0 → tkW V (8 * (V (8 * V 3 + i) / 4) + j) = V (8 * (V (8 * V 3 + i) / 4) + j) := fun i j hi2 hj h0 => hO _ (by rw [ix_div hj]; have := T_leaf act_tb hi2 h0; omega) (by rw [ix_div hj]; exact hlf4 i hi2 h0)
    rw [e3] at vA vO hT vC
    rw [htw _ hi8] at hT vC
    have hG3 : gL V n 3 = V 3 := by rw [vO 3 (by omega) (by omega) (nk0 (by decide))]; exact e3
    have hne3 : V 3 ≠ tkC V := ne_fresh hC5 T_act
    have hact1 := hsv.act
    rw [e3] at hact1
    have hGt : ∀ i, i < 8 → i ≠ n / 8 → gL V n (8 * V 3 + i) = V (8 * V 3 + i) := fun i hi2 hne => by
      rw [vO _ (by rw [ix_div hi2]; exact hne3) (by omega) (hsv.nk (by rw [ix_div hi2]; omega)), htw i hi2]
    have hGl : ∀ i j, i < 8 → j < 8 → V (8 * V 3 + i) / 4 ≠ 0 → gL V n (8 * (V (8 * V 3 + i) / 4) + j) = V (8 * (V (8 * V 3 + i) / 4) + j) := fun i j hi2 hj h0 => by
      have h1 := T_leaf act_tb hi2 h0
      have h2 := ((hs.tw act_tb hi2).lead h0).2.2.1
      have h3 : V (8 * V 3 + i) / 4 ≠ V 3 := fun e => by rw [e] at h2; omega
      have h4 : u1 (V (8 * V 3 + i) / 4) = 8 + i := by
        have h5 := (hsv.tw act_tb hi2).lead (by rw [e3, htw i hi2]; exact h0)
        rw [e3, htw i hi2] at h5
        exact h5.2.2.1
      rw [vO _ (by rw [ix_div hj]; exact ne_fresh hC5 h1) (by omega) (hsv.nk (by rw [ix_div hj]; omega)), htl i j hi2 hj h0]
    refine ⟨hGt, fun m hm => ?_, fun i hi2 hne h0 => ?_⟩
    · unfold awd bwd
      rw [hG3]
      by_cases em : m / 8 = n / 8
      · rw [em, vA, if_neg (by omega), show (4 * tkC V + 1) / 4 = tkC V by omega, vC _ (by omega)]
        split
        · rfl
        · next h0 => exact htl _ _ hi8 (by omega) h0
      · rw [hGt _ (by omega) em]
        split
        · rfl
        · next h0 => exact hGl _ _ (by omega) (by omega) h0
    · have h1 := T_leaf act_tb hi2 h0
      have h3 := hT (V (8 * V 3 + i) / 4)
      have h4 : ld (V (8 * V 3 + n / 8)) (V (8 * V 3 + i) / 4) = 0 := by
        unfold ld
        split
        · rfl
        · next h5 =>
          refine iv_ne fun e => ?_
          have h6 := ((hs.tw act_tb hi8).lead h5).2.2.1
          have h7 := ((hs.tw act_tb hi2).lead h0).2.2.1
          rw [e] at h6
          omega
      rw [h4, iv_ne (fun e => ne_fresh hC5 h1 e.symm), hTT _ (by omega)] at h3
      omega
theorem gC_more (hi : Inv V u) {n : Nat} {dat : Nat → Nat} (hn : n < V 2) (ho : ow V (V (8 * V 3 + n / 8)) = true) (hr : nClus V n ≤ rm V) (hd : ∀ j, dat j < 4294967296) : (∀ m, m < 64 → m ≠ n → awd (gC V n dat) m = awd V m) ∧ (∀ X, T V X ≠ 0 → X ≠ awd V n / 4 → T (gC V n dat) X = T V X) ∧ T (gC V n dat) (V (8 * V 3 + n / 8) / 4) = 1 := by
  have hs := hi.1
  have hn64 := hs.sz.2
  obtain ⟨hl, hown⟩ := ow_iff.mp ho
  have hi8 : n / 8 < 8 := by omega
  have hj8 : n % 8 < 8 := by omega
  have eaw := awd_own (w := V) (b := n) hl
  have hlL := (hs.tw act_tb hi8).lead hl
  have hyl : awd V n / 4 ≠ 0 → V (8 * V 3 + n / 8) / 4 ≠ awd V n / 4 := fun h0 e => by
    have h1 := ((hs.bok act_tb (show n < 64 by omega)).lead (show bwd V (V 3) n / 4 ≠ 0 from h0)).2.2
    have h1 : u (awd V n / 4) = 24 + (8 * (n / 8) + n % 8) := h1
    rw [← e] at h1
    omega
  by_cases hoc : ow V (awd V n) = true
  · have e : gC V n dat = V := if_pos hoc
    rw [e]
    exact ⟨fun _ _ _ => rfl, fun _ _ _ => rfl, hown⟩
  · have en : nClus V n = 1 := if_neg hoc
    rw [en] at hr
    obtain ⟨u2, hI2, hu2, hc2, hc3, hc4, hc5, hc6, hH2, hA2, hr2⟩ := gC_spec (dat := dat) hi hn ho (by rw [en]; exact hr) hd
    obtain ⟨u0, ha0, hu0, -, -, -, -, -, hTT, hO, hH, hC5⟩ := tk_spec hi hr
    obtain ⟨u1, ha, hI, hT, e3, t1, vB, vD, vO, hC1, hC2, hC3, -, hlne, hul, hl64⟩ := gC_specT hi hn ho hoc hr hd
    have hsv := ha.1
    have hct := hs.ct
    have hact := hs.act
    have hne34 : V 3 ≠ V 4 := fun e => by rw [e] at hact; omega
    have hTX : ∀ X, T V X ≠ 0 → X ≠ awd V n / 4 → T (gC V n dat) X = T V X := fun X hX hne => by
      have h3 := hT X
      have h4 : ld (V (8 * (V (8 * V 3 + n / 8) / 4) + n % 8)) X = 0 := by
        unfold ld
        rw [← eaw]
        split
        · rfl
        · exact iv_ne fun e => hne e.symm
      rw [h4, iv_ne (fun e => ne_fresh hC5 (show 1 ≤ T V X by omega) e.symm), hTT X hX] at h3
      omega
    refine ⟨fun m hm hne => ?_, hTX, ?_⟩
    · unfold awd bwd
      rw [hH2 3 (by decide), hA2 _ (by omega)]
      split
      · rfl
      · next h0 =>
        have hi2 : m / 8 < 8 := by omega
        have h1 := T_leaf act_tb hi2 h0
        have h2 := ((hs.tw act_tb hi2).lead h0).2.2.1
        have h4 : u1 (V (8 * V 3 + m / 8) / 4) = 8 + m / 8 := by
          have h6 : tkW V (8 * V 3 + m / 8) = V (8 * V 3 + m / 8) := hO _ (by rw [ix_div hi2]; have := T_act (w := V); omega) (by rw [ix_div hi2]; exact hne34)
          have h5 := (hsv.tw act_tb hi2).lead (by rw [e3, h6]; exact h0)
          rw [e3, h6] at h5
          exact h5.2.2.1
        have hq : 8 * (V (8 * V 3 + m / 8) / 4) + m % 8 ≠ 8 * (V (8 * V 3 + n / 8) / 4) + n % 8 := fun e => by
          have e5 : V (8 * V 3 + m / 8) / 4 = V (8 * V 3 + n / 8) / 4 := by omega
          rw [e5] at h2
          have := hlL.2.2.1
          omega
        rw [vO _ (by rw [ix_div (by omega)]; exact ne_fresh hC5 h1) hq (hsv.nk (by rw [ix_div (by omega)]; omega))]
        exact hO _ (by rw [ix_div (by omega)]; omega) (by rw [ix_div (by omega)]; intro e; rw [e] at h2; omega)
    · by_cases h0 : awd V n / 4 = 0
      · rw [hTX _ (by omega) (by omega)]; exact hown
      · rw [hTX _ (by omega) (hyl h0)]; exact hown
theorem mz_more (hi : Inv V u) {n : Nat} (hn : n < V 2) (ho : ow V (V (8 * V 3 + n / 8)) = true) : (∀ i, i < 8 → mzF V n (8 * V 3 + i) / 4 = V (8 * V 3 + i) / 4) ∧ (∀ m, m < 64 → m ≠ n → sim (awd (mzF V n) m) (awd V m)) ∧ (∀ X, X ≠ awd V n / 4 → T (mzF V n) X = T V X) ∧ T (mzF V n) (V (8 * V 3 + n / 8) / 4) = 1 := by
  have hs := hi.1
  have hn64 := hs.sz.2
  obtain ⟨hl, hown⟩ := ow_iff.mp ho
  have hi8 : n / 8 < 8 := by omega
  have hj8 : n % 8 < 8 := by omega
  have eaw := awd_own (w := V) (b := n) hl
  have hlL := (hs.tw act_tb hi8).lead hl
  obtain ⟨⟨hI, hT⟩, hH⟩ := mzF_specT hi hn ho
  have hag := mz_agr hi hn ho
  have e3 := hH 3 (by decide)
  have hf3 : flg V u 3 = V 3 := (flg_agr V u).hdr (by decide)
  have hact := hs.act
  have hl3 : V 3 ≠ V (8 * V 3 + n / 8) / 4 := fun e => by have := hlL.2.2.1; rw [← e] at this; omega
  have hTX : ∀ X, X ≠ awd V n / 4 → T (mzF V n) X = T V X := fun X hne => by
    have h3 := hT X
    have h4 : ld (V (8 * (V (8 * V 3 + n / 8) / 4) + n % 8)) X = 0 := by
      unfold ld
      rw [← eaw]
      split
      · rfl
      · exact iv_ne fun e => hne e.symm
    omega
  have hyl : V (8 * V 3 + n / 8) / 4 ≠ awd V n / 4 := fun e => by
    have h0 : awd V n / 4 ≠ 0 := by rw [← e]; exact hl
    have h1 := ((hs.bok act_tb (show n < 64 by omega)).lead (show bwd V (V 3) n / 4 ≠ 0 from h0)).2.2
    have h1 : u (awd V n / 4) = 24 + (8 * (n / 8) + n % 8) := h1
    rw [← e] at h1
    omega
  refine ⟨fun i hi2 => ?_, fun m hm hne => ?_, hTX, by rw [hTX _ hyl]; exact hown⟩
  · have h1 := hag.tb4 hI.1 act_tb hi2
    rw [e3, up_ne (by omega)] at h1
    rw [← h1]
    exact (flg_agr V u).tb4 hs act_tb hi2
  · have h1 := agr_aw hag hI.1 hm
    have h2 : awd (up (flg V u) (8 * (V (8 * V 3 + n / 8) / 4) + n % 8) 2) m = awd (flg V u) m := by
      have hlp := hlL.1.pos
      unfold awd bwd
      rw [up_ne (show 3 ≠ 8 * (V (8 * V 3 + n / 8) / 4) + n % 8 by omega), hf3, up_ne (by omega)]
      split
      · rfl
      · next h0 =>
        rw [up_ne]
        intro e
        have e4 := (flg_agr V u).tb4 hs act_tb (show m / 8 < 8 by omega)
        rw [e4] at h0 e
        have h5 := ((hs.tw act_tb (show m / 8 < 8 by omega)).lead h0).2.2.1
        have e5 : V (8 * V 3 + m / 8) / 4 = V (8 * V 3 + n / 8) / 4 := by omega
        rw [e5] at h5
        have := hlL.2.2.1
        omega
    rw [h2] at h1
    exact sim_trans (sim_symm h1) (agr_aw (flg_agr V u) hs hm)
end S4
end
section
/-! ===== a commit, block by block ===== -/
def cmT (b : Nat) (wu V : Nat → Nat) (n : Nat) : Nat := if awd wu n / 4 ≠ 0 then nLeaf V n + nClus V n else if awd wu n = 2 ∧ dch b (awd V n) = true then nLeaf V n else 0
def cmS (b : Nat) (W : Nat → Nat → Nat) (wu V : Nat → Nat) (n : Nat) : Nat → Nat := if awd wu n / 4 ≠ 0 then cpc (gC (gL V n) n (datm (gL V n) W b n)) wu (awd wu n / 4) (gCc (gL V n) n) else if awd wu n = 2 ∧ dch b (awd V n) = true then mzF (gL V n) n else V
def cmV (b : Nat) (W : Nat → Nat → Nat) (wu w0 : Nat → Nat) : Nat → Nat → Nat
  | 0 => up w0 2 (wu 2)
  | n + 1 => cmS b W wu (cmV b W wu w0 n) n
/-- whether a block changes, by the file as it is before -/
def cmC (b : Nat) (wu w0 : Nat → Nat) (n : Nat) : Bool := decide (awd wu n / 4 ≠ 0 ∨ (awd wu n = 2 ∧ dch b (awd w0 n) = true))
def cmL (b : Nat) (wu w0 : Nat → Nat) : Nat → Nat
  | 0 => 0
  | n + 1 => if cmC b wu w0 n = true then n / 8 + 1 else cmL b wu w0 n
def cmK (b : Nat) (wu w0 : Nat → Nat) : Nat → Nat
  | 0 => 0
  | n + 1 => cmK b wu w0 n + (if awd wu n / 4 ≠ 0 then nClus w0 n else 0) + if cmC b wu w0 n = true ∧ cmL b wu w0 n ≠ n / 8 + 1 then nLeaf w0 n else 0
def JJ (b : Nat) (wu w0 : Nat → Nat) (n : Nat) (V u : Nat → Nat) : Prop :=
  Inv V u ∧ (∀ p, p < 8 → p ≠ 2 → V p = w0 p) ∧ V 2 = wu 2 ∧ (∀ m, n ≤ m → m < 64 → sim (awd V m) (awd w0 m) ∧ (awd w0 m / 4 ≠ 0 → T V (awd w0 m / 4) = T w0 (awd w0 m / 4)))
    ∧ (∀ i, i < 8 → n ≤ 8 * i + 7 → if cmL b wu w0 n = i + 1 then ow V (V (8 * w0 3 + i)) = true else (V (8 * w0 3 + i) / 4 = w0 (8 * w0 3 + i) / 4 ∧ (w0 (8 * w0 3 + i) / 4 ≠ 0 → T V (w0 (8 * w0 3 + i) / 4) = T w0 (w0 (8 * w0 3 + i) / 4)))) ∧ rm w0 ≤ rm V + cmK b wu w0 n
section CM
variable {b n : Nat} {wu w0 V u v w : Nat → Nat} {W U : Nat → Nat → Nat}
theorem ow_eq {x y : Nat} (e : x / 4 = y / 4) (hT : y / 4 ≠ 0 → T V (y / 4) = T w (y / 4)) : ow V x = ow w y := by
  unfold ow
  rw [e]
  by_cases h0 : y / 4 = 0
  · simp [h0]
  · rw [hT h0]
theorem dch_sim {x y : Nat} (h : sim x y) : dch b x = dch b y := by
  unfold dch
  by_cases h0 : y / 4 = 0
  · rw [h.2 h0]
  · rw [decide_eq_true (show x / 4 ≠ 0 ∨ x = 0 ∧ b ≠ 0 from Or.inl (by rw [h.1]; exact h0)), decide_eq_true (show y / 4 ≠ 0 ∨ y = 0 ∧ b ≠ 0 from Or.inl h0)]
theorem cmL_le : ∀ n, cmL b wu w0 n ≤ n / 8 + 1 := by
  intro n
  induction n with
  | zero => exact Nat.zero_le _
  | succ n ih =>
    rw [cmL]
    split
    · omega
    · omega
/-- what a block takes as it comes is what was counted for it before -/
theorem JJ_take (J : JJ b wu w0 n V u) (hn : n < 64) : cmK b wu w0 (n + 1) = cmK b wu w0 n + cmT b wu V n := by
  obtain ⟨hi, hH, h2, ha, hl, hr⟩ := J
  have e3 := hH 3 (by decide) (by decide)
  have h1 := ha n (Nat.le_refl n) hn
  have hc : nClus V n = nClus w0 n := by
    unfold nClus
    rw [ow_eq h1.1.1 h1.2]
  have hlf : nLeaf V n = if cmL b wu w0 n = n / 8 + 1 then 0 else nLeaf w0 n := by
    have h3 := hl (n / 8) (by omega) (by omega)
    unfold nLeaf
    rw [e3]
    by_cases e : cmL b wu w0 n = n / 8 + 1
    · rw [if_pos e] at h3 ⊢
      rw [if_pos h3]
    · rw [if_neg e] at h3 ⊢
      rw [ow_eq h3.1 h3.2]
  have hd : dch b (awd V n) = dch b (awd w0 n) := dch_sim h1.1
  rw [cmK, hc.symm]
  unfold cmT
  by_cases h4 : awd wu n / 4 = 0
  · have hz : ¬ (awd wu n / 4 ≠ 0) := fun e => e h4
    simp only [if_neg hz, Nat.add_zero]
    by_cases h5 : awd wu n = 2 ∧ dch b (awd V n) = true
    · rw [if_pos h5]
      have h6 : cmC b wu w0 n = true := decide_eq_true (Or.inr ⟨h5.1, by rw [← hd]; exact h5.2⟩)
      rw [hlf]
      by_cases e : cmL b wu w0 n = n / 8 + 1
      · rw [if_pos e, if_neg (fun z => z.2 e)]
      · rw [if_neg e, if_pos ⟨h6, e⟩]
    · rw [if_neg h5, if_neg]
      rintro ⟨z, -⟩
      rcases of_decide_eq_true z with z | z
      · exact z h4
      · exact h5 ⟨z.1, by rw [hd]; exact z.2⟩
  · have hz : awd wu n / 4 ≠ 0 := h4
    simp only [if_pos hz]
    have h6 : cmC b wu w0 n = true := decide_eq_true (Or.inl h4)
    rw [hlf]
    by_cases e : cmL b wu w0 n = n / 8 + 1
    · rw [if_pos e, if_neg (fun z => z.2 e)]
      omega
    · rw [if_neg e, if_pos ⟨h6, e⟩]
      omega
theorem awd_data (hs : Str w u) {c : Nat} (h1 : 1 ≤ c) (hc : 24 ≤ u c) (hv : ∀ p, p / 8 ≠ c → v p = w p) {m : Nat} (hm : m < 64) : awd v m = awd w m := by
  have hact := hs.act
  unfold awd bwd
  rw [hv 3 (by omega), hv _ (by rw [ix_div (by omega)]; intro e; rw [e] at hact; omega)]
  split
  · rfl
  · next h0 => exact hv _ (by rw [ix_div (by omega)]; intro e; have := ((hs.tw act_tb (show m / 8 < 8 by omega)).lead h0).2.2.1; rw [e] at this; omega)
theorem rm_mono {v u' : Nat → Nat} (hi : Inv w u) (hv : Inv v u') (hT : ∀ X, T v X ≤ T w X) (h4 : v 4 = w 4) (hk : ∀ k, k < 8 → v (8 * w 4 + k) = w (8 * w 4 + k)) : rm w ≤ rm v := by
  have e1 : inUse v ≤ inUse w := by
    rw [inUse_T hv, inUse_T hi]
    refine sm_le fun c _ => ?_
    have := hT c
    show (if 0 < T v c then 1 else 0) ≤ if 0 < T w c then 1 else 0
    by_cases e : 0 < T v c
    · rw [if_pos e, if_pos (by omega)]
      exact Nat.le_refl _
    · rw [if_neg e]
      exact Nat.zero_le _
  have e2 : noKeep v = noKeep w := by
    unfold noKeep
    rw [h4]
    exact sm_congr fun k hk2 => by rw [hk k hk2]
  unfold rm
  omega
theorem JJ_base {u0 : Nat → Nat} (hi : Inv w0 u0) (h1 : w0 2 ≤ wu 2) (h2 : wu 2 ≤ 64) : JJ b wu w0 0 (up w0 2 (wu 2)) u0 := by
  obtain ⟨g1, g2, g3⟩ := grow_inv hi h1 h2
  have hs := hi.1
  have hact := hs.act
  have hp : ∀ p, p ≠ 2 → up w0 2 (wu 2) p = w0 p := fun p hp => up_ne hp
  have haw : ∀ m, m < 64 → awd (up w0 2 (wu 2)) m = awd w0 m := fun m hm => by
    unfold awd bwd
    rw [hp 3 (by decide), hp _ (by omega)]
    split
    · rfl
    · next h0 => exact hp _ (by omega)
  refine ⟨g1, fun p _ h => hp p h, up_at, fun m _ hm => ⟨by rw [haw m hm]; exact sim_refl _, fun _ => g3 _⟩, fun i hi8 _ => ?_, ?_⟩
  · rw [if_neg (by simp [cmL])]
    rw [hp _ (by omega)]
    exact ⟨rfl, fun _ => g3 _⟩
  · have h9 := rm_mono (w := w0) (v := up w0 2 (wu 2)) hi g1 (fun X => by rw [g3]; exact Nat.le_refl _) (hp 4 (by decide)) (fun k hk => hp _ (by have := hs.ct; omega))
    omega
theorem JJ_step (J : JJ b wu w0 n V u) (hsu : ∃ uu, Str wu uu) (hn : n < 64) (hr : cmT b wu V n ≤ rm V) (hWb : ∀ j p, W j p < 4294967296) (hub : ∀ p, wu p < 4294967296) : ∃ u', JJ b wu w0 (n + 1) (cmS b W wu V n) u' := by
  have hK := JJ_take J hn
  obtain ⟨hi, hH, h2, ha, hl, hrm⟩ := J
  have hs := hi.1
  have e3 := hH 3 (by decide) (by decide)
  obtain ⟨uu, hsu⟩ := hsu
  have hbu := hsu.bok act_tb hn
  have hLle := cmL_le (b := b) (wu := wu) (w0 := w0) n
  have h1 := ha n (Nat.le_refl n) hn
  have hd : dch b (awd V n) = dch b (awd w0 n) := dch_sim h1.1
  have hdat := fun m => ((hs.bok act_tb (b := m)))
  -- clusters of other blocks
  have hblk : ∀ m, m < 64 → awd V m / 4 ≠ 0 → u (awd V m / 4) = 24 + m ∧ T V (awd V m / 4) ≠ 0 := fun m hm h0 => by
    have h5 := ((hs.bok act_tb hm).lead (show bwd V (V 3) m / 4 ≠ 0 from h0)).2.2
    have h5 : u (awd V m / 4) = 24 + (8 * (m / 8) + m % 8) := h5
    have h6 : 1 ≤ T V (awd V m / 4) := T_bw act_tb hm h0
    exact ⟨by rw [h5]; omega, by omega⟩
  by_cases h4 : awd wu n / 4 = 0
  · by_cases h5 : awd wu n = 2 ∧ dch b (awd V n) = true
    · -- made zero
      have hns : n < V 2 := by
        rw [h2]
        rcases hbu with e | ⟨e, -⟩
        · have e : awd wu n = 0 := e
          omega
        · omega
      have eS : cmS b W wu V n = mzF (gL V n) n := by
        unfold cmS
        rw [if_neg (fun e => e h4), if_pos h5]
      have eT : cmT b wu V n = nLeaf V n := by
        unfold cmT
        rw [if_neg (fun e => e h4), if_pos h5]
      have hC : cmC b wu w0 n = true := decide_eq_true (Or.inr ⟨h5.1, by rw [← hd]; exact h5.2⟩)
      have eL : cmL b wu w0 (n + 1) = n / 8 + 1 := by rw [cmL, if_pos hC]
      rw [eT] at hr hK
      obtain ⟨u1, hI1, hu1, ho1, hrm1, haw1, hT1, hH1, hO1⟩ := gL_spec hi hns hr
      obtain ⟨m1, m2, m3⟩ := gL_more hi hns hr
      have hns1 : n < gL V n 2 := by rw [hH1 2 (by decide)]; exact hns
      have e13 : gL V n 3 = V 3 := hH1 3 (by decide)
      obtain ⟨⟨hI2, hT2⟩, hH2⟩ := mzF_specT hI1 hns1 ho1
      obtain ⟨z1, z2, z3, z4⟩ := mz_more hI1 hns1 ho1
      have hag := mz_agr hI1 hns1 ho1
      rw [eS]
      refine ⟨u1, hI2, fun p hp hp2 => by rw [hH2 p hp, hH1 p hp]; exact hH p hp hp2, by rw [hH2 2 (by decide), hH1 2 (by decide)]; exact h2, fun m hm1 hm => ?_, fun i hi8 hni => ?_, ?_⟩
      · have hm3 := ha m (by omega) hm
        have z5 := z2 m hm (by omega)
        rw [m2 m hm] at z5
        refine ⟨sim_trans z5 hm3.1, fun h0 => ?_⟩
        rw [← hm3.2 h0]
        rw [← hm3.1.1] at h0 ⊢
        obtain ⟨q1, q2⟩ := hblk m hm h0
        rw [z3 _ (fun e => by
          rw [haw1] at e
          have h0n : awd V n / 4 ≠ 0 := by rw [← e]; exact h0
          have := (hblk n hn h0n).1
          rw [← e] at this
          omega), hT1 _ (by omega) q2]
      · rw [eL]
        by_cases e : n / 8 + 1 = i + 1
        · rw [if_pos e]
          have e' : i = n / 8 := by omega
          obtain ⟨o1, o2⟩ := ow_iff.mp ho1
          rw [e13] at o1 o2 z1 z4
          refine ow_iff.mpr ?_
          rw [← e3, e', z1 _ (by omega)]
          exact ⟨o1, z4⟩
        · rw [if_neg e]
          have hi3 := hl i hi8 (by omega)
          rw [if_neg (by omega)] at hi3
          rw [e13] at z1
          rw [← e3] at hi3 ⊢
          rw [z1 i hi8, m1 i hi8 (by omega)]
          refine ⟨hi3.1, fun h0 => ?_⟩
          rw [← hi3.2 h0]
          rw [← hi3.1] at h0 ⊢
          rw [z3 _ (fun e5 => by
            rw [haw1] at e5
            have h0n : awd V n / 4 ≠ 0 := by rw [← e5]; exact h0
            have h6 := (hblk n hn h0n).1
            have h7 := ((hs.tw act_tb hi8).lead h0).2.2.1
            rw [e5] at h7
            omega), m3 i hi8 (by omega) h0]
      · have h9 := rm_mono (w := gL V n) (v := mzF (gL V n) n) hI1 hI2 (fun X => by have := hT2 X; omega) (hH2 4 (by decide)) (fun k hk => by
          have h10 := hag.ctw hI2.1 hk
          rw [hH2 4 (by decide)] at h10
          have hlp := (hI1.1.tw act_tb (show n / 8 < 8 by omega)).lead (ow_iff.mp ho1).1
          rw [← h10, up_ne (fun e5 => by
            have e6 : gL V n 4 = gL V n (8 * gL V n 3 + n / 8) / 4 := by omega
            have h11 := hI1.1.ct
            rw [e6] at h11
            omega)]
          exact (flg_agr (gL V n) u1).ctw hI1.1 hk)
        omega
    · -- as it was
      have eS : cmS b W wu V n = V := by
        unfold cmS
        rw [if_neg (fun e => e h4), if_neg h5]
      have eT : cmT b wu V n = 0 := by
        unfold cmT
        rw [if_neg (fun e => e h4), if_neg h5]
      have hC : ¬ cmC b wu w0 n = true := fun z => by
        rcases of_decide_eq_true z with z | z
        · exact z h4
        · exact h5 ⟨z.1, by rw [hd]; exact z.2⟩
      have eL : cmL b wu w0 (n + 1) = cmL b wu w0 n := by rw [cmL, if_neg hC]
      rw [eS]
      refine ⟨u, hi, hH, h2, fun m hm1 hm => ha m (by omega) hm, fun i hi8 hni => ?_, ?_⟩
      · rw [eL]
        exact hl i hi8 (by omega)
      · rw [hK, eT]
        exact hrm
  · -- written
    have hns : n < V 2 := by
      rw [h2]
      have := hbu.lead (show bwd wu (wu 3) n / 4 ≠ 0 from h4)
      omega
    have eS : cmS b W wu V n = cpc (gC (gL V n) n (datm (gL V n) W b n)) wu (awd wu n / 4) (gCc (gL V n) n) := by
      unfold cmS
      rw [if_pos h4]
    have eT : cmT b wu V n = nLeaf V n + nClus V n := by
      unfold cmT
      rw [if_pos h4]
    have hC : cmC b wu w0 n = true := decide_eq_true (Or.inl h4)
    have eL : cmL b wu w0 (n + 1) = n / 8 + 1 := by rw [cmL, if_pos hC]
    rw [eT] at hr hK
    obtain ⟨u1, hI1, hu1, ho1, hrm1, haw1, hT1, hH1, hO1⟩ := gL_spec hi hns (by omega)
    obtain ⟨m1, m2, m3⟩ := gL_more hi hns (by omega)
    have hcl := gL_clus hi hns (by omega)
    have hns1 : n < gL V n 2 := by rw [hH1 2 (by decide)]; exact hns
    have e13 : gL V n 3 = V 3 := hH1 3 (by decide)
    have hdl := datm_lt (V := gL V n) (W := W) hI1.2.2.2.2 hWb b n
    obtain ⟨u2, hI2, hu2, hc2, hc3, hc4, hc5, hc6, hH2, hA2, hrm2⟩ := gC_spec (dat := datm (gL V n) W b n) hI1 hns1 ho1 (by omega) hdl
    obtain ⟨z2, z3, z4⟩ := gC_more (dat := datm (gL V n) W b n) hI1 hns1 ho1 (by omega) hdl
    have hcp : ∀ p, p / 8 ≠ gCc (gL V n) n → cpc (gC (gL V n) n (datm (gL V n) W b n)) wu (awd wu n / 4) (gCc (gL V n) n) p = gC (gL V n) n (datm (gL V n) W b n) p := fun p hp => by
      unfold cpc
      rw [if_neg hp]
    obtain ⟨hI3, hT3⟩ := data_inv (v := cpc (gC (gL V n) n (datm (gL V n) W b n)) wu (awd wu n / 4) (gCc (gL V n) n)) hI2 hc3 (by omega) (by omega) hcp (fun p => by
      unfold cpc
      split
      · exact hub _
      · exact hI2.2.2.2.2 p)
    rw [eS]
    have hwt : ∀ i, i < 8 → cpc (gC (gL V n) n (datm (gL V n) W b n)) wu (awd wu n / 4) (gCc (gL V n) n) (8 * V 3 + i) = gL V n (8 * V 3 + i) := fun i hi8 => by
      rw [hcp _ (by rw [ix_div hi8]; intro e; have := hI2.1.act; rw [hH2 3 (by decide), e13, e] at this; omega), ← e13, hA2 i hi8]
    refine ⟨u2, hI3, fun p hp hp2 => by rw [hcp _ (by omega), hH2 p hp, hH1 p hp]; exact hH p hp hp2, by rw [hcp _ (by omega), hH2 2 (by decide), hH1 2 (by decide)]; exact h2, fun m hm1 hm => ?_, fun i hi8 hni => ?_, ?_⟩
    · have hm3 := ha m (by omega) hm
      have q3 : awd (cpc (gC (gL V n) n (datm (gL V n) W b n)) wu (awd wu n / 4) (gCc (gL V n) n)) m = awd V m := by
        rw [awd_data hI2.1 hc3 (by omega) hcp hm, z2 m hm (by omega), m2 m hm]
      rw [q3]
      refine ⟨hm3.1, fun h0 => ?_⟩
      rw [← hm3.2 h0]
      rw [← hm3.1.1] at h0 ⊢
      obtain ⟨q1, q2⟩ := hblk m hm h0
      have q4 := hT1 _ (by omega) q2
      rw [hT3, z3 _ (by rw [q4]; exact q2) (fun e => by
        rw [haw1] at e
        have h0n : awd V n / 4 ≠ 0 := by rw [← e]; exact h0
        have := (hblk n hn h0n).1
        rw [← e] at this
        omega), q4]
    · rw [eL]
      by_cases e : n / 8 + 1 = i + 1
      · rw [if_pos e]
        have e' : i = n / 8 := by omega
        obtain ⟨o1, o2⟩ := ow_iff.mp ho1
        rw [e13] at o1 z4
        refine ow_iff.mpr ?_
        rw [← e3, e', hwt _ (by omega), hT3]
        exact ⟨o1, z4⟩
      · rw [if_neg e]
        have hi3 := hl i hi8 (by omega)
        rw [if_neg (by omega)] at hi3
        rw [← e3] at hi3 ⊢
        rw [hwt i hi8, m1 i hi8 (by omega)]
        refine ⟨hi3.1, fun h0 => ?_⟩
        rw [← hi3.2 h0]
        rw [← hi3.1] at h0 ⊢
        have q4 := m3 i hi8 (by omega) h0
        have q5 := T_leaf act_tb hi8 h0
        rw [hT3, z3 _ (by rw [q4]; omega) (fun e5 => by
          rw [haw1] at e5
          have h0n : awd V n / 4 ≠ 0 := by rw [← e5]; exact h0
          have h6 := (hblk n hn h0n).1
          have h7 := ((hs.tw act_tb hi8).lead h0).2.2.1
          rw [e5] at h7
          omega), q4]
    · have h9 := rm_mono (w := gC (gL V n) n (datm (gL V n) W b n)) (v := cpc (gC (gL V n) n (datm (gL V n) W b n)) wu (awd wu n / 4) (gCc (gL V n) n)) hI2 hI3 (fun X => by rw [hT3]; exact Nat.le_refl _) (hcp 4 (by omega)) (fun k hk => hcp _ (by rw [ix_div hk]; intro e; have := hI2.1.ct; rw [e] at this; omega))
      omega
end CM
end
section
/-! ===== takingsFor, takeIn ===== -/
def cmD (wu : Nat → Nat) (n : Nat) : Nat := sm n fun m => if awd wu m = 0 then 0 else 1
section TI
variable {d b k n : Nat} {h : xH} {wu w0 V u v w : Nat → Nat} {W U : Nat → Nat → Nat}
theorem jm_eq {a c : Nat} (ha : a < 1000) (hc : c < 1000) : jm a = nI c ↔ a = c + 1 := by
  cases a with
  | zero =>
    constructor
    · intro e
      exfalso
      have h1 : (-1 : Int32) < 0 := by decide
      have e : (-1 : Int32) = nI c := e
      rw [e] at h1
      exact nI_pos (by omega) h1
    · intro e; omega
  | succ a =>
    constructor
    · intro e
      have := (neq (by omega) (by omega)).mp (show nI a = nI c from e)
      omega
    · intro e
      rw [show a = c by omega]
      rfl
theorem cmK_mono {m : Nat} (hm : n ≤ m) : cmK b wu w0 n ≤ cmK b wu w0 m := by
  induction hm with
  | refl => exact Nat.le_refl _
  | step _ ih => rw [cmK]; omega
theorem JJ_upto {u0 : Nat → Nat} (hi : Inv w0 u0) (hsu : ∃ uu, Str wu uu) (h1 : w0 2 ≤ wu 2) (hWb : ∀ j p, W j p < 4294967296) (hub : ∀ p, wu p < 4294967296) : ∀ n, n ≤ 64 → cmK b wu w0 n ≤ rm w0 → ∃ u, JJ b wu w0 n (cmV b W wu w0 n) u := by
  intro n
  induction n with
  | zero =>
    intro _ _
    obtain ⟨uu, hs⟩ := hsu
    exact ⟨u0, JJ_base hi h1 hs.sz.2⟩
  | succ n ih =>
    intro hn hr
    have h2 := cmK_mono (b := b) (wu := wu) (w0 := w0) (n := n) (m := n + 1) (by omega)
    obtain ⟨u, J⟩ := ih (by omega) (by omega)
    have h3 := JJ_take J (by omega)
    have h4 := J.2.2.2.2.2
    exact JJ_step J hsu (by omega) (by omega) hWb hub
theorem awd_out {uu : Nat → Nat} (hs : Str wu uu) {m : Nat} (hm : m < 64) (h2 : wu 2 ≤ m) : awd wu m = 0 := by
  rcases hs.bok act_tb hm with e | ⟨e, -⟩
  · exact e
  · omega
theorem cm_tail {uu : Nat → Nat} (hs : Str wu uu) : ∀ i, wu 2 + i ≤ 64 → cmV b W wu w0 (wu 2 + i) = cmV b W wu w0 (wu 2) ∧ cmK b wu w0 (wu 2 + i) = cmK b wu w0 (wu 2) ∧ cmD wu (wu 2 + i) = cmD wu (wu 2) := by
  intro i
  induction i with
  | zero => intro _; exact ⟨rfl, rfl, rfl⟩
  | succ i ih =>
    intro hi
    obtain ⟨h1, h2, h3⟩ := ih (by omega)
    have h0 := awd_out hs (m := wu 2 + i) (by omega) (by omega)
    refine ⟨?_, ?_, ?_⟩
    · show cmS b W wu (cmV b W wu w0 (wu 2 + i)) (wu 2 + i) = _
      unfold cmS
      rw [h0, if_neg (by decide), if_neg (fun e => by have := e.1; omega)]
      exact h1
    · show cmK b wu w0 (wu 2 + i) + (if awd wu (wu 2 + i) / 4 ≠ 0 then nClus w0 (wu 2 + i) else 0) + (if cmC b wu w0 (wu 2 + i) = true ∧ cmL b wu w0 (wu 2 + i) ≠ (wu 2 + i) / 8 + 1 then nLeaf w0 (wu 2 + i) else 0) = _
      have hC : ¬ cmC b wu w0 (wu 2 + i) = true := fun z => by
        have z := of_decide_eq_true z
        rw [h0] at z
        rcases z with z | z
        · exact z rfl
        · have := z.1; omega
      rw [h0, if_neg (by decide), if_neg (fun z => hC z.1)]
      exact h2
    · show sm (wu 2 + i + 1) _ = _
      rw [sm_succ, if_pos h0]
      exact h3
theorem c_takingsFor {uu u0 : Nat → Nat} (hw : h (10, b) = E w0) (hi : Inv w0 u0) (hwu : h (10, k) = E wu) (hs : Str wu uu) : Cl (d + 4) MX1_takingsFor [vR (1, b), vR (1, k)] h (some (vI (nI (cmK b wu w0 64)))) h := by
  refine rnN 6 rfl ?_
  have go := lpN 64 (fun n => ∀ o5 o6 : Option xV, Rn (d + 4) MX1_takingsFor 7 [some (vR (1, b)), some (vR (1, k)), some (vI (nI (cmK b wu w0 n))), some (vI (jm (cmL b wu w0 n))), some (vI (nI n)), o5, o6] [] h (some (vI (nI (cmK b wu w0 64)))) h) (fun n hn K => ?_) ?_
  · exact go none none
  · intro o5 o6
    have hy := hs.bok act_tb hn
    have hyl : awd wu n < 256 := hy.lt
    have hLle := cmL_le (b := b) (wu := wu) (w0 := w0) n
    have hisl := hy.isLead
    have hisl : 2 < awd wu n ↔ awd wu n / 4 ≠ 0 := hisl
    rw [cmK] at K
    obtain ⟨A, hA⟩ : ∃ A, A = cmK b wu w0 n + (if awd wu n / 4 ≠ 0 then nClus w0 n else 0) := ⟨_, rfl⟩
    rw [← hA] at K
    -- behind the leaf's count
    have K98 : ∀ o6, ∀ z l, z = (if cmC b wu w0 n = true ∧ cmL b wu w0 n ≠ n / 8 + 1 then nLeaf w0 n else 0) → l = cmL b wu w0 (n + 1) → Rn (d + 4) MX1_takingsFor 98 [some (vR (1, b)), some (vR (1, k)), some (vI (nI (A + z))), some (vI (jm l)), some (vI (nI n)), some (vI (nI (awd wu n))), o6] [] h (some (vI (nI (cmK b wu w0 64)))) h := fun o6 z l hz hl => by
      rw [hz, hl]
      refine rnN 2 rfl ?_
      simp (disch := omega) only [nI_add, pk_mul, pk_sub, nd8, nd4, nsub8, nand63, nand7, nshr2, nI_clamp, E_at, hup_at, hup_hup]
      exact K _ _
    -- whether it changes is known
    have K67 : ∀ x, x = (if cmC b wu w0 n = true then 1 else 0) → Rn (d + 4) MX1_takingsFor 67 [some (vR (1, b)), some (vR (1, k)), some (vI (nI A)), some (vI (jm (cmL b wu w0 n))), some (vI (nI n)), some (vI (nI (awd wu n))), o6] [vI (nI x)] h (some (vI (nI (cmK b wu w0 64)))) h := fun x hx => by
      by_cases hC : cmC b wu w0 n = true
      · rw [if_pos hC] at hx
        have eL : cmL b wu w0 (n + 1) = n / 8 + 1 := by rw [cmL, if_pos hC]
        rw [hx]
        refine rnN 3 rfl ?_
        refine rnN 4 rfl ?_
        simp (disch := omega) only [nI_add, pk_mul, pk_sub, nd8, nd4, nsub8, nand63, nand7, nshr2, nI_clamp, E_at, hup_at, hup_hup]
        by_cases e : cmL b wu w0 n = n / 8 + 1
        · refine rnT (((jm_eq (by omega) (by omega)).mpr e)) rfl ?_
          have h9 := K98 (some (vI (nI 1))) 0 (cmL b wu w0 n) (by rw [if_neg (fun z => z.2 e)]) (by rw [eL, e])
          rw [Nat.add_zero] at h9
          exact h9
        · refine rnF ((fun z => e ((jm_eq (by omega) (by omega)).mp z))) rfl ?_
          refine rnN 3 rfl ?_
          refine rnK rfl (c_leavesFor hw hi hn) ?_
          refine rnN 6 rfl ?_
          simp (disch := omega) only [nI_add, pk_mul, pk_sub, nd8, nd4, nsub8, nand63, nand7, nshr2, nI_clamp, E_at, hup_at, hup_hup]
          exact K98 _ _ (n / 8 + 1) (by rw [if_pos ⟨hC, e⟩]) eL.symm
      · rw [if_neg hC] at hx
        have eL : cmL b wu w0 (n + 1) = cmL b wu w0 n := by rw [cmL, if_neg hC]
        rw [hx]
        refine rnN 3 rfl ?_
        have h9 := K98 (some (vI (nI 0))) 0 (cmL b wu w0 n) (by rw [if_neg (fun z => hC z.1)]) eL.symm
        rw [Nat.add_zero] at h9
        exact h9
    refine rnN 2 rfl ?_
    refine rnT (nI_lt hn (by decide)) rfl ?_
    refine rnN 2 rfl ?_
    refine rnK rfl (c_activeWord hwu hs hn) ?_
    refine rnN 2 rfl ?_
    refine rnK rfl (c_isLead (show awd wu n < 2147483648 by omega)) ?_
    by_cases hl : 2 < awd wu n
    · have h4 := hisl.mp hl
      rw [if_pos hl]
      refine rnN 4 rfl ?_
      refine rnK rfl (c_clustersFor hw hi hn) ?_
      refine rnN 2 rfl ?_
      simp (disch := omega) only [nI_add, pk_mul, pk_sub, nd8, nd4, nsub8, nand63, nand7, nshr2, nI_clamp, E_at, hup_at, hup_hup]
      refine rnN 1 rfl ?_
      refine rnK rfl (c_isLead (show awd wu n < 2147483648 by omega)) ?_
      rw [if_pos hl]
      refine rnN 3 rfl ?_
      have h9 := K67 1 (by rw [if_pos (show cmC b wu w0 n = true from decide_eq_true (Or.inl h4))])
      rw [if_pos h4] at hA
      rw [hA] at h9
      exact h9
    · have h4 : awd wu n / 4 = 0 := Classical.byContradiction fun e => hl (hisl.mpr e)
      rw [if_neg (fun e => e h4), Nat.add_zero] at hA
      rw [if_neg hl]
      refine rnN 1 rfl ?_
      refine rnN 1 rfl ?_
      refine rnK rfl (c_isLead (show awd wu n < 2147483648 by omega)) ?_
      rw [if_neg hl]
      refine rnN 3 rfl ?_
      rw [hA] at K67
      have h0l : awd wu n < 2147483648 := by omega
      by_cases h2 : awd wu n = 2
      · refine rnT ((show nI (awd wu n) = nI 2 by rw [h2])) rfl ?_
        refine rnN 2 rfl ?_
        refine rnK rfl (c_dropChanges hw hi.1 hn) ?_
        by_cases hd : dch b (awd w0 n) = true
        · rw [if_pos hd]
          refine rnN 3 rfl ?_
          exact K67 1 (by rw [if_pos (show cmC b wu w0 n = true from decide_eq_true (Or.inr ⟨h2, hd⟩))])
        · rw [if_neg hd]
          refine rnN 2 rfl ?_
          exact K67 0 (by rw [if_neg (show ¬ cmC b wu w0 n = true from fun z => (of_decide_eq_true z).elim (fun z => z h4) (fun z => hd z.2))])
      · refine rnF ((fun e => h2 ((neq h0l (by decide)).mp e))) rfl ?_
        refine rnN 1 rfl ?_
        exact K67 0 (by rw [if_neg (show ¬ cmC b wu w0 n = true from fun z => (of_decide_eq_true z).elim (fun z => z h4) (fun z => h2 z.1))])
  · intro o5 o6
    refine rnN 3 rfl ?_
    refine rnN 1 rfl ?_
    exact rnR rfl
theorem shB_congr {W W' : Nat → Nat → Nat} : ∀ n, (∀ j, j < n → W' j = W j) → ∀ b k, shB W' n b k = shB W n b k := by
  intro n
  induction n with
  | zero => intro _ b k; rfl
  | succ n ih =>
    intro h b k
    rw [shB, shB, h n (by omega), ih (fun j hj => h j (by omega))]
theorem c_takeInF {uu u0 : Nat → Nat} (hw : h (10, b) = E w0) (hi : Inv w0 u0) (hwu : h (10, k) = E wu) (hs : Str wu uu) (hr : ¬ cmK b wu w0 64 ≤ rm w0) (hK : cmK b wu w0 64 < 2147483648) : Cl (d + 5) MX1_takeIn [vR (1, b), vR (1, k)] h (some (vI (-2))) h := by
  refine rnN 2 rfl ?_
  refine rnK rfl (c_room hw hi.cg) ?_
  refine rnN 2 rfl ?_
  refine rnK rfl (c_takingsFor hw hi hwu hs) ?_
  refine rnT (nI_lt (show 64 - inUse w0 - noKeep w0 < cmK b wu w0 64 from Nat.lt_of_not_le hr) hK) rfl ?_
  refine rnN 1 rfl ?_
  exact rnR rfl
/-- the class's step of a commit -/
theorem c_takeIn {uu : Nat → Nat} (hh : ∀ j, j ≤ b → h (10, j) = E (W j) ∧ Inv (W j) (U j)) (hk : b < k) (hwu : h (10, k) = E wu) (hs : Str wu uu) (h1 : W b 2 ≤ wu 2) (hWb : ∀ j p, W j p < 4294967296) (hub : ∀ p, wu p < 4294967296) (hr : cmK b wu (W b) 64 ≤ rm (W b)) {u : Nat → Nat} (hu : Inv (cmV b W wu (W b) 64) u) :
    Cl (d + 5) MX1_takeIn [vR (1, b), vR (1, k)] h (some (vI (nI (cmD wu 64)))) (hup h (10, b) (E (flg (cmV b W wu (W b) 64) u))) := by
  obtain ⟨hw, hi⟩ := hh b (Nat.le_refl b)
  have hrm : rm (W b) ≤ 64 := by unfold rm; omega
  have hkb : ((10, k) : xP) ≠ (10, b) := fun e => by injection e with e1 e2; omega
  refine rnN 2 rfl ?_
  refine rnK rfl (c_room hw hi.cg) ?_
  refine rnN 2 rfl ?_
  refine rnK rfl (c_takingsFor hw hi hwu hs) ?_
  refine rnF (nI_nlt (show cmK b wu (W b) 64 ≤ 64 - inUse (W b) - noKeep (W b) from hr) (by unfold rm at hrm; omega)) rfl ?_
  refine rnN 5 rfl ?_
  refine rnK rfl (c_blocks hwu) ?_
  refine rnK rfl (c_hput hw (show 2 < 8 by decide)) ?_
  refine rnN 4 rfl ?_
  have go := lpN 64 (fun n => ∀ o4 : Option xV, Rn (d + 5) MX1_takeIn 35 [some (vR (1, b)), some (vR (1, k)), some (vI (nI (cmD wu n))), some (vI (nI n)), o4] [] (hup h (10, b) (E (cmV b W wu (W b) n))) (some (vI (nI (cmD wu 64)))) (hup h (10, b) (E (flg (cmV b W wu (W b) 64) u)))) (fun n hn K => ?_) ?_
  · exact go none
  · intro o4
    have hKn := cmK_mono (b := b) (wu := wu) (w0 := W b) (n := n + 1) (m := 64) (by omega)
    have hKn0 := cmK_mono (b := b) (wu := wu) (w0 := W b) (n := n) (m := n + 1) (by omega)
    obtain ⟨un, J⟩ := JJ_upto (b := b) (W := W) hi ⟨uu, hs⟩ h1 hWb hub n (by omega) (by omega)
    have hT := JJ_take J hn
    have hJr := J.2.2.2.2.2
    have hJ2 := J.2.2.1
    have hiV := J.1
    obtain ⟨V, hV⟩ : ∃ V, V = cmV b W wu (W b) n := ⟨_, rfl⟩
    have hVs : cmV b W wu (W b) (n + 1) = cmS b W wu V n := by rw [hV]; rfl
    rw [hVs] at K
    rw [← hV] at hT hJr hJ2 hiV ⊢
    have hy := hs.bok act_tb hn
    have hyl : awd wu n < 256 := hy.lt
    have hisl : 2 < awd wu n ↔ awd wu n / 4 ≠ 0 := hy.isLead
    have hup_k : hup h (10, b) (E V) (10, k) = E wu := by rw [hup_ne hkb]; exact hwu
    -- the end of a round
    have K109 : ∀ w', w' = cmS b W wu V n → Rn (d + 5) MX1_takeIn 109 [some (vR (1, b)), some (vR (1, k)), some (vI (nI (cmD wu n))), some (vI (nI n)), some (vI (nI (awd wu n)))] [] (hup h (10, b) (E w')) (some (vI (nI (cmD wu 64)))) (hup h (10, b) (E (flg (cmV b W wu (W b) 64) u))) := fun w' hw' => by
      rw [hw']
      have eD : cmD wu (n + 1) = cmD wu n + if awd wu n = 0 then 0 else 1 := rfl
      rw [eD] at K
      by_cases h0 : awd wu n = 0
      · rw [if_pos h0] at K
        rw [h0]
        refine rnN 5 rfl ?_
        refine rnN 4 rfl ?_
        simp (disch := omega) only [nI_add, pk_mul, pk_sub, nd8, nd4, nsub8, nand63, nand7, nshr2, nI_clamp, E_at, hup_at, hup_hup]
        exact K _
      · rw [if_neg h0] at K
        refine rnN 2 rfl ?_
        refine rnF (nI_ne0 (Nat.pos_of_ne_zero h0) (by omega)) rfl ?_
        refine rnN 1 rfl ?_
        refine rnN 4 rfl ?_
        simp (disch := omega) only [nI_add, pk_mul, pk_sub, nd8, nd4, nsub8, nand63, nand7, nshr2, nI_clamp, E_at, hup_at, hup_hup]
        exact K _
    refine rnN 2 rfl ?_
    refine rnT (nI_lt hn (by decide)) rfl ?_
    refine rnN 2 rfl ?_
    refine rnK rfl (c_activeWord hup_k hs hn) ?_
    refine rnN 2 rfl ?_
    refine rnK rfl (c_isLead (show awd wu n < 2147483648 by omega)) ?_
    by_cases hl : 2 < awd wu n
    · have h4 := hisl.mp hl
      have hlp : awd wu n / 4 < 64 := (hy.lead h4).1.pos.2
      have hns : n < V 2 := by
        rw [hJ2]
        have := (hy.lead h4).2.1
        omega
      have eT : cmT b wu V n = nLeaf V n + nClus V n := by unfold cmT; rw [if_pos h4]
      have eS : cmS b W wu V n = cpc (gC (gL V n) n (datm (gL V n) W b n)) wu (awd wu n / 4) (gCc (gL V n) n) := by unfold cmS; rw [if_pos h4]
      obtain ⟨u1, hI1, hu1, ho1, hrm1, haw1, hT1, hH1, hO1⟩ := gL_spec hiV hns (by omega)
      have hcl := gL_clus hiV hns (by omega)
      have hdl := datm_lt (V := gL V n) (W := W) hI1.2.2.2.2 hWb b n
      obtain ⟨u2, hI2, hu2, hc2, hc3, hc4, hc5, hc6, hH2, hA2, hrm2⟩ := gC_spec (dat := datm (gL V n) W b n) hI1 (by rw [hH1 2 (by decide)]; exact hns) ho1 (by omega) hdl
      have hh2 : ∀ j, j ≤ b → hup h (10, b) (E (gL V n)) (10, j) = E (setW W b (gL V n) j) ∧ Inv (setW W b (gL V n) j) (setW U b u1 j) := fun j hj => by
        by_cases e : j = b
        · rw [e, setW_at, setW_at, hup_at]
          exact ⟨rfl, hI1⟩
        · rw [setW_ne e, setW_ne e, hup_ne (fun e2 => by injection e2 with e1 e2; omega)]
          exact hh j hj
      have hgl := c_giveLeaf (d := d) (h := hup h (10, b) (E V)) (k := b) (b := n) hup_at hiV hns (by omega)
      rw [hup_hup] at hgl
      have hgc := c_giveCluster (d := d) (h := hup h (10, b) (E (gL V n))) (k := b) (W := setW W b (gL V n)) (U := setW U b u1) (b := n) hh2 (by rw [setW_at, hH1 2 (by decide)]; exact hns) (by rw [setW_at]; exact ho1) (by rw [setW_at]; omega)
      rw [setW_at, hup_hup] at hgc
      have hdat : gC (gL V n) n (fun j => sh (setW W b (gL V n)) b (awd (gL V n) n) (8 * n + j)) = gC (gL V n) n (datm (gL V n) W b n) := gC_congr fun i hi8 => by
        rw [sh_B, ix_div hi8, ix_mod hi8, setW_at, shB_congr (W := W) (W' := setW W b (gL V n)) b (fun j hj => setW_ne (by omega))]
        rfl
      rw [hdat] at hgc
      have hco := c_copyOther (d := d + 3) (h := hup h (10, b) (E (gC (gL V n) n (datm (gL V n) W b n)))) (k := b) (k2 := k) (a := awd wu n / 4) (b := gCc (gL V n) n) hup_at (by rw [hup_ne hkb]; exact hwu) hlp hc4 (by omega)
      rw [hup_hup] at hco
      rw [if_pos hl]
      refine rnN 3 rfl ?_
      refine rnK rfl (hgl) ?_
      refine rnN 5 rfl ?_
      refine rnK rfl (c_clusterOf (show awd wu n < 2147483648 by omega)) ?_
      refine rnN 2 rfl ?_
      refine rnK rfl (hgc) ?_
      refine rnK rfl (hco) ?_
      refine rnN 1 rfl ?_
      exact K109 _ eS.symm
    · have h4 : awd wu n / 4 = 0 := Classical.byContradiction fun e => hl (hisl.mpr e)
      rw [if_neg hl]
      refine rnN 3 rfl ?_
      by_cases h2 : awd wu n = 2
      · have hns : n < V 2 := by
          rw [hJ2]
          rcases hy with e | ⟨e, -⟩
          · have e : awd wu n = 0 := e
            omega
          · omega
        refine rnT ((show nI (awd wu n) = nI 2 by rw [h2])) rfl ?_
        refine rnN 2 rfl ?_
        refine rnK rfl (c_dropChanges hup_at hiV.1 hn) ?_
        by_cases hd : dch b (awd V n) = true
        · have eT : cmT b wu V n = nLeaf V n := by unfold cmT; rw [if_neg (fun e => e h4), if_pos ⟨h2, hd⟩]
          have eS : cmS b W wu V n = mzF (gL V n) n := by unfold cmS; rw [if_neg (fun e => e h4), if_pos ⟨h2, hd⟩]
          obtain ⟨u1, hI1, hu1, ho1, hrm1, haw1, hT1, hH1, hO1⟩ := gL_spec hiV hns (by omega)
          have hgl := c_giveLeaf (d := d) (h := hup h (10, b) (E V)) (k := b) (b := n) hup_at hiV hns (by omega)
          rw [hup_hup] at hgl
          have hmz := c_makeZero (d := d) (h := hup h (10, b) (E (gL V n))) (k := b) (b := n) hup_at hI1 (by rw [hH1 2 (by decide)]; exact hns) ho1
          rw [hup_hup] at hmz
          rw [if_pos hd]
          refine rnN 3 rfl ?_
          refine rnK rfl (hgl) ?_
          refine rnN 2 rfl ?_
          refine rnK rfl (hmz) ?_
          exact K109 _ eS.symm
        · have eS : cmS b W wu V n = V := by unfold cmS; rw [if_neg (fun e => e h4), if_neg (fun z => hd z.2)]
          rw [if_neg hd]
          refine rnN 1 rfl ?_
          exact K109 _ eS.symm
      · have eS : cmS b W wu V n = V := by unfold cmS; rw [if_neg (fun e => e h4), if_neg (fun z => h2 z.1)]
        refine rnF ((fun e => h2 ((neq (by omega) (by decide)).mp e))) rfl ?_
        exact K109 _ eS.symm
  · intro o4
    have ht := c_tellFlags (d := d) (h := hup h (10, b) (E (cmV b W wu (W b) 64))) (k := b) hup_at hu
    rw [hup_hup] at ht
    refine rnN 3 rfl ?_
    refine rnN 1 rfl ?_
    refine rnK rfl (ht) ?_
    refine rnN 1 rfl ?_
    exact rnR rfl
end TI
end
section
/-! ===== the reference: copyFile, commit ===== -/
section MC
variable {d b k n : Nat} {h H : xH} {M N wu w0 V u v w : Nat → Nat} {W U : Nat → Nat → Nat} {f s : Nat → Int32}
theorem m_copyFile {i j : Nat} {x : Nat → Nat} (hN : ∀ p, p < 512 → N (512 * i + p) = x p) (hi : i < 4) (hj : j < 4) (hne : i ≠ j) : Cl d MX4_copyFile [vR (4, 0), vI (nI i), vI (nI j)] (mh h f N) none (mh h f (pf N j x)) := by
  obtain ⟨w, hw⟩ : ∃ w : Nat → Nat, w = fun p => N (512 * j + p) := ⟨_, rfl⟩
  have hNw : pf N j w = N := pf_self fun p _ => by rw [hw]
  refine rnN 2 rfl ?_
  have e0 : mh h f N = mh h f (pf N j fun p => if p < 0 then x p else w p) := by
    rw [pf_congr (v := fun p => if p < 0 then x p else w p) (w := w) (fun p _ => by rw [if_neg (by omega)]), hNw]
  refine rnH e0 ?_
  refine lpN 512 (fun m => Rn d MX4_copyFile 2 [some (vR (4, 0)), some (vI (nI i)), some (vI (nI j)), some (vI (nI m))] [] (mh h f (pf N j fun p => if p < m then x p else w p)) none (mh h f (pf N j x))) (fun m hm K => ?_) ?_
  · refine rnN 2 rfl ?_
    refine rnT (nI_lt hm (by decide)) rfl ?_
    refine rnN 14 rfl ?_
    simp (disch := omega) only [nI_add, pk_mul, pk_sub, nd8, nd4, nsub8, nand63, nand7, nshr2, nI_clamp, E_at, hup_at, hup_hup, hpt_def, pf_at, pf_at2, cf_at, h12_14, h14_12, h12_15, h15_12, h14_15, h15_14]
    refine rnC (inN (show 512 * i + m < 2048 by omega) (by decide)) rfl ?_
    simp (disch := omega) only [nI_add, pk_mul, pk_sub, nd8, nd4, nsub8, nand63, nand7, nshr2, nI_clamp, E_at, hup_at, hup_hup, hpt_def, pf_at, pf_at2, cf_at, h12_14, h14_12, h12_15, h15_12, h14_15, h15_14, mh_12]
    rw [pf_ne hm hne, hN m hm]
    refine rnC (inN (show 512 * j + m < 2048 by omega) (by decide)) rfl ?_
    simp (disch := omega) only [nI_clamp, mhpt]
    rw [pf_up hm]
    refine rnN 2 rfl ?_
    simp (disch := omega) only [nI_add, pk_mul, pk_sub, nd8, nd4, nsub8, nand63, nand7, nshr2, nI_clamp, E_at, hup_at, hup_hup, hpt_def, pf_at, pf_at2, cf_at, h12_14, h14_12, h12_15, h15_12, h14_15, h15_14]
    refine rnH ?_ K
    congr 2
    funext p
    simp only [up]
    by_cases e : p = m
    · rw [if_pos e, if_pos (by omega), e]
    · rw [if_neg e]
      by_cases e2 : p < m
      · rw [if_pos e2, if_pos (by omega)]
      · rw [if_neg e2, if_neg (by omega)]
  · rw [pf_congr (v := fun p => if p < 512 then x p else w p) (w := x) (fun p hp => if_pos hp)]
    refine rnN 3 rfl ?_
    exact rnR rfl
theorem cmK_le : ∀ n, cmK b wu w0 n ≤ 2 * n := by
  intro n
  induction n with
  | zero => exact Nat.le_refl _
  | succ n ih =>
    rw [cmK]
    have h1 := nClus_le w0 n
    have h2 := nLeaf_le w0 n
    split <;> split <;> omega
theorem cmD_le (wu : Nat → Nat) (n : Nat) : cmD wu n ≤ n := by
  unfold cmD
  have h1 := sm_le (n := n) (f := fun m => if awd wu m = 0 then 0 else 1) (g := fun _ => 1) (fun m _ => by
    show (if awd wu m = 0 then 0 else 1) ≤ 1
    split <;> omega)
  rw [sm_const] at h1
  omega
theorem flg_cpc {V2 u2 : Nat → Nat} (hI : Inv V2 u2) {c a : Nat} (h1 : 1 ≤ c) (h2 : 24 ≤ u2 c) (h3 : T V2 c ≠ 0) (hub : ∀ p, wu p < 4294967296) : Inv (cpc V2 wu a c) u2 ∧ ∀ p, flg (cpc V2 wu a c) u2 p = if p / 8 = c then wu (8 * a + p % 8) else flg V2 u2 p := by
  have hcp : ∀ p, p / 8 ≠ c → cpc V2 wu a c p = V2 p := fun p hp => by unfold cpc; rw [if_neg hp]
  obtain ⟨hI3, hT⟩ := data_inv (v := cpc V2 wu a c) hI h1 h2 h3 hcp (fun p => by
    unfold cpc
    split
    · exact hub _
    · exact hI.2.2.2.2 p)
  refine ⟨hI3, fun p => ?_⟩
  by_cases e : p / 8 = c
  · rw [if_pos e, flg_out (fun z => by rw [e] at z; have := z.2.2; unfold TL at this; omega)]
    unfold cpc
    rw [if_pos e]
  · rw [if_neg e]
    by_cases e2 : 1 ≤ p / 8 ∧ p / 8 < 64 ∧ TL u2 (p / 8)
    · rw [flg_in e2, flg_in e2, hcp p e, mk_congr hT]
    · rw [flg_out e2, flg_out e2, hcp p e]
theorem mh_side {s' : Nat → Int32} {f' : Nat → Int32} {N' : Nat → Nat} : mh (hup (mh (hup H (15, 0) s) f N) (15, 0) s') f' N' = mh (hup H (15, 0) s') f' N' := by
  rw [mh_15, mh_mh, hup_hup]
theorem jm_two (b : Nat) : nI (b + 1) - nI 2 = jm b := by
  cases b with
  | zero => rfl
  | succ b =>
    rw [pk_sub (by omega)]
    rfl
/-- the reference's loop with more taken than there was room for -/
theorem mc_over {t fr done : Nat} {o7 o8 o9 : Option xV} {tt : Int32} {uu : Nat → Nat} {Hc : xH} {x : Nat → Nat} (hH : Hc (12, 0) = E (pf N 3 x)) (hk : k < 3) (hNk : ∀ p, p < 512 → N (512 * k + p) = wu p) (hs : Str wu uu) (hn : n ≤ 64) (ht : fr < t) (ht2 : t < 100000) :
    Rn (d + 1) MX4_commit 71 [some (vR (4, 0)), some (vI (nI k)), some (vI (nI fr)), some (vI tt), some (vI (nI t)), some (vI (nI done)), some (vI (nI n)), o7, o8, o9] [] Hc (some (vI (-2))) Hc := by
  have hHk : Hc (12, 0) = E (pf (pf N 3 x) k wu) := by
    rw [hH, pf_self (N := pf N 3 x) (j := k) (v := wu) (fun p hp => by rw [pf_ne hp (by omega)]; exact hNk p hp)]
  have K222 : Rn (d + 1) MX4_commit 222 [some (vR (4, 0)), some (vI (nI k)), some (vI (nI fr)), some (vI tt), some (vI (nI t)), some (vI (nI done)), some (vI (nI n)), o7, o8, o9] [] Hc (some (vI (-2))) Hc := by
    refine rnN 2 rfl ?_
    refine rnT (nI_lt ht (by omega)) rfl ?_
    refine rnN 1 rfl ?_
    exact rnR rfl
  have hsz := hs.sz
  refine rnN 3 rfl ?_
  refine rnK rfl (m_sizeOf hHk (show k < 4 by omega)) ?_
  by_cases hlt : n < wu 2
  · refine rnT (nI_lt hlt (by omega)) rfl ?_
    refine rnN 2 rfl ?_
    refine rnT (nI_lt ht (by omega)) rfl ?_
    exact K222
  · refine rnF (nI_nlt (Nat.le_of_not_lt hlt) (by omega)) rfl ?_
    exact K222
/-- a round's begin: the block's word in the upper image -/
theorem mc_head {t fr done : Nat} {o7 o8 o9 : Option xV} {uu : Nat → Nat} {Hc hf : xH} {r : Option xV} {x : Nat → Nat} (hH : Hc (12, 0) = E (pf N 3 x)) (hk : k < 3) (hNk : ∀ p, p < 512 → N (512 * k + p) = wu p) (hs : Str wu uu) (hn : n < wu 2) (ht : t ≤ fr) (ht2 : fr < 100000)
    (K : Rn 8 MX4_commit 95 [some (vR (4, 0)), some (vI (nI k)), some (vI (nI fr)), some (vI (nI (512 * k + 8 * wu 3))), some (vI (nI t)), some (vI (nI done)), some (vI (nI n)), o7, o8, o9] [vI (nI (awd wu n))] Hc r hf) :
    Rn 8 MX4_commit 71 [some (vR (4, 0)), some (vI (nI k)), some (vI (nI fr)), some (vI (nI (512 * k + 8 * wu 3))), some (vI (nI t)), some (vI (nI done)), some (vI (nI n)), o7, o8, o9] [] Hc r hf := by
  have hHk : Hc (12, 0) = E (pf (pf N 3 x) k wu) := by
    rw [hH, pf_self (N := pf N 3 x) (j := k) (v := wu) (fun p hp => by rw [pf_ne hp (by omega)]; exact hNk p hp)]
  have hsz := hs.sz
  refine rnN 3 rfl ?_
  refine rnK rfl (m_sizeOf hHk (show k < 4 by omega)) ?_
  refine rnT (nI_lt hn (by omega)) rfl ?_
  refine rnN 2 rfl ?_
  refine rnF (nI_nlt ht (by omega)) rfl ?_
  refine rnN 4 rfl ?_
  refine rnK rfl (m_entry hHk (show k < 4 by omega) hs act_tb (show n < 64 by omega)) ?_
  exact K
/-- own has been called: up to the copying of the block's words -/
theorem mc_lead {t fr done t1 : Nat} {o7 o8 o9 : Option xV} {uu X uX : Nat → Nat} {Hc H1 hf : xH} {r : Option xV} (hs : Str wu uu) (hk1 : k = b + 1) (hk : k < 3) (hn : n < wu 2) (h4 : awd wu n / 4 ≠ 0) (hown : Cl 7 MX4_own [vR (4, 0), vI (nI 3), vI (jm b), vI (nI n)] Hc (some (vI (nI t1))) H1) (hX : H1 (12, 0) = E (pf N 3 (flg X uX))) (hiX : Inv X uX)
    (K : Rn 8 MX4_commit 164 [some (vR (4, 0)), some (vI (nI k)), some (vI (nI fr)), some (vI (nI (512 * k + 8 * wu 3))), some (vI (nI (t + t1))), some (vI (nI done)), some (vI (nI n)), some (vI (nI (awd wu n))), some (vI (nI (awd (flg X uX) n / 4))), some (vI (nI 0))] [] H1 r hf) :
    Rn 8 MX4_commit 95 [some (vR (4, 0)), some (vI (nI k)), some (vI (nI fr)), some (vI (nI (512 * k + 8 * wu 3))), some (vI (nI t)), some (vI (nI done)), some (vI (nI n)), o7, o8, o9] [vI (nI (awd wu n))] Hc r hf := by
  have hsz := hs.sz
  have hy := hs.bok act_tb (show n < 64 by omega)
  have hyl : awd wu n < 256 := hy.lt
  have hsX := (flg_inv hiX).1.1
  have hXl : awd (flg X uX) n < 256 := (hsX.bok act_tb (show n < 64 by omega)).lt
  refine rnN 3 rfl ?_
  refine rnF ((show ¬ nI (awd wu n) = nI 2 from fun e => by have := (neq (by omega) (by decide)).mp e; omega)) rfl ?_
  refine rnN 1 rfl ?_
  refine rnF (nI_ne0 (show 0 < awd wu n by omega) (by omega)) rfl ?_
  refine rnN 6 rfl ?_
  rw [hk1, jm_two, ← hk1]
  refine rnN 1 rfl ?_
  refine rnK rfl (hown) ?_
  refine rnN 7 rfl ?_
  simp (disch := omega) only [nI_add, pk_mul, pk_sub, nd8, nd4, nsub8, nand63, nand7, nshr2, nI_clamp, E_at, hup_at, hup_hup]
  refine rnK rfl (m_table (n := 0) hX (show 3 < 4 by decide) hsX.l6 (by decide)) ?_
  rw [show tbn (flg X uX) 0 = flg X uX 3 from rfl]
  refine rnN 1 rfl ?_
  refine rnK rfl (m_entry hX (show 3 < 4 by decide) hsX act_tb (show n < 64 by omega)) ?_
  rw [show bwd (flg X uX) (flg X uX 3) n = awd (flg X uX) n from rfl]
  refine rnN 5 rfl ?_
  simp (disch := omega) only [nI_add, pk_mul, pk_sub, nd8, nd4, nsub8, nand63, nand7, nshr2, nI_clamp, E_at, hup_at, hup_hup, hpt_def, pf_at, pf_at2, cf_at, h12_14, h14_12, h12_15, h15_12, h14_15, h15_14]
  exact K
/-- too much was taken: no words are copied -/
theorem mc_leadF {t fr done : Nat} {c : Nat} {uu : Nat → Nat} {Hc : xH} {x : Nat → Nat} (hH : Hc (12, 0) = E (pf N 3 x)) (hk : k < 3) (hNk : ∀ p, p < 512 → N (512 * k + p) = wu p) (hs : Str wu uu) (hn : n < wu 2) (ht : fr < t) (ht2 : t < 100000) :
    Rn 8 MX4_commit 164 [some (vR (4, 0)), some (vI (nI k)), some (vI (nI fr)), some (vI (nI (512 * k + 8 * wu 3))), some (vI (nI t)), some (vI (nI done)), some (vI (nI n)), some (vI (nI (awd wu n))), some (vI (nI c)), some (vI (nI 0))] [] Hc (some (vI (-2))) Hc := by
  have hsz := hs.sz
  refine rnN 3 rfl ?_
  refine rnN 2 rfl ?_
  refine rnT (nI_lt ht (by omega)) rfl ?_
  refine rnN 1 rfl ?_
  refine rnN 2 rfl ?_
  simp (disch := omega) only [nI_add, pk_mul, pk_sub, nd8, nd4, nsub8, nand63, nand7, nshr2, nI_clamp, E_at, hup_at, hup_hup]
  exact mc_over hH hk hNk hs (by omega) ht ht2
end MC
end
section
/-! ===== the reference's commit: its loop ===== -/
section MC2
variable {d b k n : Nat} {h H : xH} {M N wu w0 V u v w : Nat → Nat} {W U : Nat → Nat → Nat} {f s : Nat → Int32}
/-- the state of the loop ahead of block n -/
def mcR (k b : Nat) (W : Nat → Nat → Nat) (wu N : Nat → Nat) (H : xH) (n : Nat) (r : Option xV) (P : xH → Prop) : Prop :=
  ∀ u f s o7 o8 o9, Inv (cmV b W wu (W b) n) u → ∃ hf, Rn 8 MX4_commit 71 [some (vR (4, 0)), some (vI (nI k)), some (vI (nI (rm (W b)))), some (vI (nI (512 * k + 8 * wu 3))), some (vI (nI (cmK b wu (W b) n))), some (vI (nI (cmD wu n))), some (vI (nI n)), o7, o8, o9] [] (mh (hup H (15, 0) s) f (pf N 3 (flg (cmV b W wu (W b) n) u))) r hf ∧ P hf
theorem mc_step {r : Option xV} {P : xH → Prop} {uu u0 : Nat → Nat} (hk1 : k = b + 1) (hk : k < 3) (hi0 : Inv (W b) u0) (hs : Str wu uu) (hNk : ∀ p, p < 512 → N (512 * k + p) = wu p) (hNW : ∀ j, j < b → j ≠ 3 ∧ Str (W j) (U j) ∧ ∀ p, p < 512 → N (512 * j + p) = W j p)
    (h1 : W b 2 ≤ wu 2) (hWb : ∀ j p, W j p < 4294967296) (hub : ∀ p, wu p < 4294967296) (hn : n < wu 2) (hr : cmK b wu (W b) (n + 1) ≤ rm (W b)) (K : mcR k b W wu N H (n + 1) r P) : mcR k b W wu N H n r P := by
  intro u f s o7 o8 o9 hu
  have hsz := hs.sz
  have hrml : rm (W b) ≤ 64 := by unfold rm; omega
  have hKn0 := cmK_mono (b := b) (wu := wu) (w0 := W b) (n := n) (m := n + 1) (by omega)
  obtain ⟨un, J⟩ := JJ_upto (b := b) (W := W) hi0 ⟨uu, hs⟩ h1 hWb hub n (by omega) (by omega)
  have hT := JJ_take J (by omega)
  have hJr := J.2.2.2.2.2
  have hJ2 := J.2.2.1
  unfold mcR at K
  obtain ⟨V, hV⟩ : ∃ V, V = cmV b W wu (W b) n := ⟨_, rfl⟩
  have hVs : cmV b W wu (W b) (n + 1) = cmS b W wu V n := by rw [hV]; rfl
  have eD : cmD wu (n + 1) = cmD wu n + if awd wu n = 0 then 0 else 1 := rfl
  rw [hVs, hT, eD] at K
  rw [← hV] at hT hJr hJ2 hu ⊢
  have hns : n < V 2 := by rw [hJ2]; exact hn
  have hy := hs.bok act_tb (show n < 64 by omega)
  have hyl : awd wu n < 256 := hy.lt
  rw [← hV] at K
  rw [hT] at hr
  by_cases h4 : awd wu n / 4 = 0
  · by_cases h2 : awd wu n = 2
    · rw [if_neg (show ¬ awd wu n = 0 by omega)] at K
      -- dropped
      have key : ∃ f' u', Inv (cmS b W wu V n) u' ∧ Cl 7 MX4_drop [vR (4, 0), vI (nI 3), vI (jm b), vI (nI n)] (mh (hup H (15, 0) s) f (pf N 3 (flg V u))) (some (vI (nI (cmT b wu V n)))) (mh (hup H (15, 0) s) f' (pf N 3 (flg (cmS b W wu V n) u'))) := by
        by_cases hd : dch b (awd V n) = true
        · have eT : cmT b wu V n = nLeaf V n := by unfold cmT; rw [if_neg (fun e => e h4), if_pos ⟨h2, hd⟩]
          have eS : cmS b W wu V n = mzF (gL V n) n := by unfold cmS; rw [if_neg (fun e => e h4), if_pos ⟨h2, hd⟩]
          obtain ⟨u1, hI1, hu1, ho1, hrm1, haw1, hT1, hH1, hO1⟩ := gL_spec hu hns (by omega)
          have hI2 := (mzF_spec hI1 (by rw [hH1 2 (by decide)]; exact hns) ho1).1
          obtain ⟨f', hc⟩ := m_drop (d := 1) (h := mh (hup H (15, 0) s) f (pf N 3 (flg V u))) (M := N) (g := 3) (nb := b) mh_12 (by decide) hu hns (by omega) hd (by omega) hI2
          rw [mh_mh] at hc
          rw [eT, eS]
          exact ⟨f', u1, hI2, hc⟩
        · have eT : cmT b wu V n = 0 := by unfold cmT; rw [if_neg (fun e => e h4), if_neg (fun z => hd z.2)]
          have eS : cmS b W wu V n = V := by unfold cmS; rw [if_neg (fun e => e h4), if_neg (fun z => hd z.2)]
          have hc := m_drop0 (d := 1) (h := mh (hup H (15, 0) s) f (pf N 3 (flg V u))) (M := N) (g := 3) (nb := b) mh_12 (by decide) hu hns (by omega) hd
          rw [eT, eS]
          exact ⟨f, u, hu, hc⟩
      obtain ⟨f', u', hI', hc⟩ := key
      obtain ⟨hf, hR, hP⟩ := K u' f' s (some (vI (nI (awd wu n)))) o8 o9 hI'
      refine ⟨hf, mc_head mh_12 hk hNk hs hn (by omega) (by omega) ?_, hP⟩
      refine rnN 3 rfl ?_
      refine rnT ((show nI (awd wu n) = nI 2 by rw [h2])) rfl ?_
      refine rnN 6 rfl ?_
      rw [hk1, jm_two, ← hk1]
      refine rnN 1 rfl ?_
      refine rnK rfl (hc) ?_
      refine rnN 4 rfl ?_
      simp (disch := omega) only [nI_add, pk_mul, pk_sub, nd8, nd4, nsub8, nand63, nand7, nshr2, nI_clamp, E_at, hup_at, hup_hup]
      refine rnN 2 rfl ?_
      simp (disch := omega) only [nI_add, pk_mul, pk_sub, nd8, nd4, nsub8, nand63, nand7, nshr2, nI_clamp, E_at, hup_at, hup_hup]
      exact hR
    · have h0 : awd wu n = 0 := (hy.flat h4).resolve_right h2
      have eT : cmT b wu V n = 0 := by unfold cmT; rw [if_neg (fun e => e h4), if_neg (fun z => h2 z.1)]
      have eS : cmS b W wu V n = V := by unfold cmS; rw [if_neg (fun e => e h4), if_neg (fun z => h2 z.1)]
      rw [if_pos h0, eS, eT, Nat.add_zero, Nat.add_zero] at K
      obtain ⟨hf, hR, hP⟩ := K u f s (some (vI (nI 0))) o8 o9 hu
      refine ⟨hf, mc_head mh_12 hk hNk hs hn (by omega) (by omega) ?_, hP⟩
      rw [h0]
      refine rnN 4 rfl ?_
      refine rnN 2 rfl ?_
      refine rnN 2 rfl ?_
      simp (disch := omega) only [nI_add, pk_mul, pk_sub, nd8, nd4, nsub8, nand63, nand7, nshr2, nI_clamp, E_at, hup_at, hup_hup]
      exact hR
  · rw [if_neg (show ¬ awd wu n = 0 by omega)] at K
    have hyp := (hy.lead h4).1.pos
    have hyp2 : awd wu n / 4 < 64 := hyp.2
    have eT : cmT b wu V n = nLeaf V n + nClus V n := by unfold cmT; rw [if_pos h4]
    have eS : cmS b W wu V n = cpc (gC (gL V n) n (datm (gL V n) W b n)) wu (awd wu n / 4) (gCc (gL V n) n) := by unfold cmS; rw [if_pos h4]
    obtain ⟨u1, hI1, hu1, ho1, hrm1, haw1, hT1, hH1, hO1⟩ := gL_spec hu hns (by omega)
    have hcl := gL_clus hu hns (by omega)
    have hdl := datm_lt (V := gL V n) (W := W) hI1.2.2.2.2 hWb b n
    obtain ⟨u2, hI2, hu2, hc2, hc3, hc4, hc5, hc6, hH2, hA2, hrm2⟩ := gC_spec (dat := datm (gL V n) W b n) hI1 (by rw [hH1 2 (by decide)]; exact hns) ho1 (by omega) hdl
    obtain ⟨hI3, hF3⟩ := flg_cpc (wu := wu) (a := awd wu n / 4) hI2 hc3 (by omega) (by omega) hub
    obtain ⟨f', s', hown⟩ := m_own (d := 1) (h := mh (hup H (15, 0) s) f (pf N 3 (flg V u))) (M := N) (g := 3) (W := W) (U := U) (nb := b) mh_12 (by decide) hu hns (by omega) (by omega) (by omega) hNW hWb hI2
    rw [mh_side, ← eT] at hown
    rw [← eS] at hI3 hF3
    have haw2 := (fl_aw hI2.1 (show n < 64 by omega)).1
    rw [hc6] at haw2
    obtain ⟨c, hc⟩ : ∃ c, c = gCc (gL V n) n := ⟨_, rfl⟩
    rw [← hc] at haw2 hF3 hc3 hc4
    obtain ⟨X, hX⟩ : ∃ X, X = gC (gL V n) n (datm (gL V n) W b n) := ⟨_, rfl⟩
    rw [← hX] at hown hI2 haw2 hF3
    obtain ⟨hf, hR, hP⟩ := K u2 f' s' (some (vI (nI (awd wu n)))) (some (vI (nI c))) (some (vI (nI 8))) hI3
    refine ⟨hf, mc_head mh_12 hk hNk hs hn (by omega) (by omega) (mc_lead hs hk1 hk hn h4 hown mh_12 hI2 ?_), hP⟩
    rw [haw2]
    have e0 : pf N 3 (flg X u2) = pf N 3 fun p => if p / 8 = c ∧ p % 8 < 0 then wu (8 * (awd wu n / 4) + p % 8) else flg X u2 p := pf_congr fun p _ => by rw [if_neg (by omega)]
    rw [e0]
    refine lpN 8 (fun i => Rn 8 MX4_commit 164 [some (vR (4, 0)), some (vI (nI k)), some (vI (nI (rm (W b)))), some (vI (nI (512 * k + 8 * wu 3))), some (vI (nI (cmK b wu (W b) n + cmT b wu V n))), some (vI (nI (cmD wu n))), some (vI (nI n)), some (vI (nI (awd wu n))), some (vI (nI c)), some (vI (nI i))] [] (mh (hup H (15, 0) s') f' (pf N 3 fun p => if p / 8 = c ∧ p % 8 < i then wu (8 * (awd wu n / 4) + p % 8) else flg X u2 p)) r hf) (fun i hi8 K2 => ?_) ?_
    · refine rnN 2 rfl ?_
      refine rnT (nI_lt hi8 (by decide)) rfl ?_
      refine rnN 2 rfl ?_
      refine rnF (nI_nlt hr (by omega)) rfl ?_
      refine rnN 4 rfl ?_
      refine rnK rfl (m_at) ?_
      refine rnN 8 rfl ?_
      simp (disch := omega) only [nI_add, pk_mul, pk_sub, nd8, nd4, nsub8, nand63, nand7, nshr2, nI_clamp, E_at, hup_at, hup_hup, hpt_def, pf_at, pf_at2, cf_at, h12_14, h14_12, h12_15, h15_12, h14_15, h15_14]
      refine rnK rfl (m_at) ?_
      refine rnN 2 rfl ?_
      simp (disch := omega) only [nI_add, pk_mul, pk_sub, nd8, nd4, nsub8, nand63, nand7, nshr2, nI_clamp, E_at, hup_at, hup_hup, hpt_def, pf_at, pf_at2, cf_at, h12_14, h14_12, h12_15, h15_12, h14_15, h15_14]
      rw [show 512 * k + 8 * (awd wu n / 4) + i = 512 * k + (8 * (awd wu n / 4) + i) by omega]
      refine rnC (inN (show 512 * k + (8 * (awd wu n / 4) + i) < 2048 by omega) (by decide)) rfl ?_
      simp (disch := omega) only [nI_add, pk_mul, pk_sub, nd8, nd4, nsub8, nand63, nand7, nshr2, nI_clamp, E_at, hup_at, hup_hup, hpt_def, pf_at, pf_at2, cf_at, h12_14, h14_12, h12_15, h15_12, h14_15, h15_14, mh_12]
      rw [pf_ne (show 8 * (awd wu n / 4) + i < 512 by omega) (show k ≠ 3 by omega), hNk _ (by omega)]
      refine rnC (inN (show 512 * 3 + 8 * c + i < 2048 by omega) (by decide)) rfl ?_
      simp (disch := omega) only [nI_clamp, mhpt]
      rw [show 512 * 3 + 8 * c + i = 512 * 3 + (8 * c + i) by omega, pf_up (show 8 * c + i < 512 by omega)]
      refine rnN 2 rfl ?_
      simp (disch := omega) only [nI_add, pk_mul, pk_sub, nd8, nd4, nsub8, nand63, nand7, nshr2, nI_clamp, E_at, hup_at, hup_hup, hpt_def, pf_at, pf_at2, cf_at, h12_14, h14_12, h12_15, h15_12, h14_15, h15_14]
      refine rnH ?_ K2
      congr 2
      funext p
      simp only [up]
      by_cases e : p = 8 * c + i
      · rw [if_pos e, if_pos (by omega), e, ix_mod hi8]
      · rw [if_neg e]
        by_cases e2 : p / 8 = c ∧ p % 8 < i
        · rw [if_pos e2, if_pos (show p / 8 = c ∧ p % 8 < i + 1 by omega)]
        · rw [if_neg e2, if_neg (show ¬ (p / 8 = c ∧ p % 8 < i + 1) by omega)]
    · have e1 : pf N 3 (fun p => if p / 8 = c ∧ p % 8 < 8 then wu (8 * (awd wu n / 4) + p % 8) else flg X u2 p) = pf N 3 (flg (cmS b W wu V n) u2) := pf_congr fun p _ => by
        rw [hF3]
        by_cases e2 : p / 8 = c
        · rw [if_pos e2, if_pos ⟨e2, by omega⟩]
        · rw [if_neg e2, if_neg (fun z => e2 z.1)]
      rw [e1]
      refine rnN 3 rfl ?_
      refine rnN 1 rfl ?_
      refine rnN 2 rfl ?_
      simp (disch := omega) only [nI_add, pk_mul, pk_sub, nd8, nd4, nsub8, nand63, nand7, nshr2, nI_clamp, E_at, hup_at, hup_hup]
      exact hR
/-- the step that takes more than there was room for -/
theorem mc_fail {uu u0 : Nat → Nat} (hk1 : k = b + 1) (hk : k < 3) (hi0 : Inv (W b) u0) (hs : Str wu uu) (hNk : ∀ p, p < 512 → N (512 * k + p) = wu p) (hNW : ∀ j, j < b → j ≠ 3 ∧ Str (W j) (U j) ∧ ∀ p, p < 512 → N (512 * j + p) = W j p)
    (h1 : W b 2 ≤ wu 2) (hWb : ∀ j p, W j p < 4294967296) (hub : ∀ p, wu p < 4294967296) (hn : n < wu 2) (hr0 : cmK b wu (W b) n ≤ rm (W b)) (hr : rm (W b) < cmK b wu (W b) (n + 1)) : mcR k b W wu N H n (some (vI (-2))) fun hf => ∃ s f x, hf = mh (hup H (15, 0) s) f (pf N 3 x) := by
  intro u f s o7 o8 o9 hu
  have hsz := hs.sz
  have hrml : rm (W b) ≤ 64 := by unfold rm; omega
  obtain ⟨un, J⟩ := JJ_upto (b := b) (W := W) hi0 ⟨uu, hs⟩ h1 hWb hub n (by omega) (by omega)
  have hT := JJ_take J (by omega)
  have hJ2 := J.2.2.1
  obtain ⟨V, hV⟩ : ∃ V, V = cmV b W wu (W b) n := ⟨_, rfl⟩
  rw [← hV] at hT hJ2 hu ⊢
  have hns : n < V 2 := by rw [hJ2]; exact hn
  have hy := hs.bok act_tb (show n < 64 by omega)
  have hyl : awd wu n < 256 := hy.lt
  rw [hT] at hr
  have hl1 := nLeaf_le V n
  have hl2 := nClus_le V n
  by_cases h4 : awd wu n / 4 = 0
  · have hh : awd wu n = 2 ∧ dch b (awd V n) = true := Classical.byContradiction fun e => by
      have eT : cmT b wu V n = 0 := by unfold cmT; rw [if_neg (fun e => e h4), if_neg e]
      omega
    obtain ⟨h2, hd⟩ := hh
    have eT : cmT b wu V n = nLeaf V n := by unfold cmT; rw [if_neg (fun e => e h4), if_pos ⟨h2, hd⟩]
    have key : ∃ f' x t1, rm (W b) < cmK b wu (W b) n + t1 ∧ t1 ≤ 1000 ∧ Cl 7 MX4_drop [vR (4, 0), vI (nI 3), vI (jm b), vI (nI n)] (mh (hup H (15, 0) s) f (pf N 3 (flg V u))) (some (vI (nI t1))) (mh (hup H (15, 0) s) f' (pf N 3 x)) := by
      by_cases hr2 : nLeaf V n ≤ rm V
      · obtain ⟨u1, hI1, hu1, ho1, hrm1, haw1, hT1, hH1, hO1⟩ := gL_spec hu hns hr2
        have hI2 := (mzF_spec hI1 (by rw [hH1 2 (by decide)]; exact hns) ho1).1
        obtain ⟨f', hc⟩ := m_drop (d := 1) (h := mh (hup H (15, 0) s) f (pf N 3 (flg V u))) (M := N) (g := 3) (nb := b) mh_12 (by decide) hu hns (by omega) hd hr2 hI2
        rw [mh_mh] at hc
        exact ⟨f', _, _, by omega, by omega, hc⟩
      · obtain ⟨f', hc⟩ := m_dropF (d := 1) (h := mh (hup H (15, 0) s) f (pf N 3 (flg V u))) (M := N) (g := 3) (nb := b) mh_12 (by decide) hu hns (by omega) hd hr2
        rw [mh_mh] at hc
        exact ⟨f', _, 1000, by omega, by omega, hc⟩
    obtain ⟨f', x, t1, ht1, ht2, hc⟩ := key
    refine ⟨_, mc_head mh_12 hk hNk hs hn hr0 (by omega) ?_, s, f', x, rfl⟩
    refine rnN 3 rfl ?_
    refine rnT ((show nI (awd wu n) = nI 2 by rw [h2])) rfl ?_
    refine rnN 6 rfl ?_
    rw [hk1, jm_two, ← hk1]
    refine rnN 1 rfl ?_
    refine rnK rfl (hc) ?_
    refine rnN 4 rfl ?_
    simp (disch := omega) only [nI_add, pk_mul, pk_sub, nd8, nd4, nsub8, nand63, nand7, nshr2, nI_clamp, E_at, hup_at, hup_hup]
    refine rnN 2 rfl ?_
    simp (disch := omega) only [nI_add, pk_mul, pk_sub, nd8, nd4, nsub8, nand63, nand7, nshr2, nI_clamp, E_at, hup_at, hup_hup]
    exact mc_over mh_12 hk hNk hs (by omega) ht1 (by omega)
  · have eT : cmT b wu V n = nLeaf V n + nClus V n := by unfold cmT; rw [if_pos h4]
    have key : ∃ f' s' X uX t1, Inv X uX ∧ rm (W b) < cmK b wu (W b) n + t1 ∧ t1 ≤ 1000 ∧ Cl 7 MX4_own [vR (4, 0), vI (nI 3), vI (jm b), vI (nI n)] (mh (hup H (15, 0) s) f (pf N 3 (flg V u))) (some (vI (nI t1))) (mh (hup H (15, 0) s') f' (pf N 3 (flg X uX))) := by
      by_cases hr1 : nLeaf V n ≤ rm V
      · obtain ⟨u1, hI1, hu1, ho1, hrm1, haw1, hT1, hH1, hO1⟩ := gL_spec hu hns hr1
        have hcl := gL_clus hu hns hr1
        by_cases hr2 : nClus V n ≤ rm (gL V n)
        · have hdl := datm_lt (V := gL V n) (W := W) hI1.2.2.2.2 hWb b n
          obtain ⟨u2, hI2, -⟩ := gC_spec (dat := datm (gL V n) W b n) hI1 (by rw [hH1 2 (by decide)]; exact hns) ho1 (by omega) hdl
          obtain ⟨f', s', hown⟩ := m_own (d := 1) (h := mh (hup H (15, 0) s) f (pf N 3 (flg V u))) (M := N) (g := 3) (W := W) (U := U) (nb := b) mh_12 (by decide) hu hns hr1 hr2 (by omega) hNW hWb hI2
          rw [mh_side] at hown
          exact ⟨f', s', _, u2, _, hI2, by omega, by omega, hown⟩
        · obtain ⟨f', s', u2, hI9, hown⟩ := m_ownF2 (d := 1) (h := mh (hup H (15, 0) s) f (pf N 3 (flg V u))) (M := N) (g := 3) (W := W) (U := U) (nb := b) mh_12 (by decide) hu hns hr1 hr2 (by omega) hNW
          rw [mh_side] at hown
          exact ⟨f', s', _, u2, 1000, hI9, by omega, by omega, hown⟩
      · obtain ⟨f', hown⟩ := m_ownF1 (d := 1) (h := mh (hup H (15, 0) s) f (pf N 3 (flg V u))) (M := N) (g := 3) (nb := b) mh_12 (by decide) hu hns hr1
        rw [mh_mh] at hown
        exact ⟨f', s, _, u, 1000, hu, by omega, by omega, hown⟩
    obtain ⟨f', s', X, uX, t1, hiX, ht1, ht2, hown⟩ := key
    exact ⟨_, mc_head mh_12 hk hNk hs hn hr0 (by omega) (mc_lead hs hk1 hk hn h4 hown mh_12 hiX (mc_leadF mh_12 hk hNk hs hn ht1 (by omega))), s', f', _, rfl⟩
end MC2
end
section
/-! ===== commit ===== -/
section OC
variable {d b k n : Nat} {h H : xH} {M N wu w0 V u v w : Nat → Nat} {W U : Nat → Nat → Nat} {f s : Nat → Int32}
theorem first_over {g : Nat → Nat} {fr : Nat} (h0 : g 0 ≤ fr) : ∀ m, fr < g m → ∃ n, n < m ∧ g n ≤ fr ∧ fr < g (n + 1) := by
  intro m
  induction m with
  | zero => intro h; omega
  | succ m ih =>
    intro h
    by_cases e : g m ≤ fr
    · exact ⟨m, by omega, e, h⟩
    · obtain ⟨n, h1, h2, h3⟩ := ih (by omega)
      exact ⟨n, by omega, h2, h3⟩
theorem nI_ne_m2 {n : Nat} (hn : n < 2147483648) : ¬ nI n = -2 := fun e => by
  have h1 : (-2 : Int32) < 0 := by decide
  rw [← e] at h1
  exact nI_pos hn h1
/-- the side rows of the reference don't count -/
theorem SI_side {x : Nat → Nat} (S : SI k W U h) (hM : ∀ j p, j ≤ k → p < 512 → M (512 * j + p) = W j p) : SI k W U (mh (hup h (15, 0) s) f (pf M 3 x)) := by
  obtain ⟨a1, a2, a3, a4, a5, a6, -, a8⟩ := S
  have hne : ∀ q : xP, q ≠ (12, 0) → q ≠ (14, 0) → q ≠ (15, 0) → mh (hup h (15, 0) s) f (pf M 3 x) q = h q := fun q q1 q2 q3 => by rw [mh_o q1 q2, hup_ne q3]
  refine ⟨a1, fun j hj => ?_, a3, a4, ?_, ?_, ⟨pf M 3 x, mh_12, fun j p hj hp => ?_⟩, fun p hp => ?_⟩
  · rw [hne _ (fun e => by injection e with e1 e2; omega) (fun e => by injection e with e1 e2; omega) (fun e => by injection e with e1 e2; omega)]
    exact a2 j hj
  · rw [hne _ (by decide) (by decide) (by decide)]; exact a5
  · rw [hne _ (by decide) (by decide) (by decide)]; exact a6
  · rw [pf_ne hp (by omega)]; exact hM j p hj hp
  · rw [hne _ (by decide) (by decide) (by decide), hne _ (by decide) (by decide) (by decide)]
    exact a8 p hp
/-- the top image goes into the one below -/
theorem SI_pop {w' u' x : Nat → Nat} {A C : Nat → Int32} (S : SI (b + 1) W U h) (hI : Inv w' u') (hf : flg w' u' = w') (h60 : w' 5 = 0 → w' 6 = 0) (h2 : W b 2 ≤ w' 2) (hM : ∀ j p, j ≤ b + 1 → p < 512 → M (512 * j + p) = W j p) (hA : A 1 = nI (b + 1)) (hC : C 2 = nI (b + 1)) (hx : ∀ p, p < 512 → x p = w' p) :
    SI b (setW W b w') (setW U b u') (hup (mh (hup (hup (hup h (10, b) (E w')) (3, 0) A) (15, 0) s) f (pf (pf M 3 x) b x)) (4, 0) C) := by
  obtain ⟨a1, a2, a3, a4, a5, a6, -, a8⟩ := S
  have hne : ∀ q : xP, q ≠ (12, 0) → q ≠ (14, 0) → q ≠ (15, 0) → q ≠ (4, 0) → q ≠ (3, 0) → q ≠ (10, b) → hup (mh (hup (hup (hup h (10, b) (E w')) (3, 0) A) (15, 0) s) f (pf (pf M 3 x) b x)) (4, 0) C q = h q := fun q q1 q2 q3 q4 q5 q6 => by
    rw [hup_ne q4, mh_o q1 q2, hup_ne q3, hup_ne q5, hup_ne q6]
  refine ⟨by omega, fun j hj => ?_, fun j hj => ?_, fun j p => ?_, ?_, ?_, ⟨pf (pf M 3 x) b x, ?_, fun j p hj hp => ?_⟩, fun p hp => ?_⟩
  · by_cases e : j = b
    · rw [e, setW_at, setW_at, hup_ne (fun e2 => by injection e2 with e1 e2; omega), mh_o (fun e2 => by injection e2 with e1 e2; omega) (fun e2 => by injection e2 with e1 e2; omega), hup_ne (fun e2 => by injection e2 with e1 e2; omega), hup_ne (fun e2 => by injection e2 with e1 e2; omega), hup_at]
      exact ⟨rfl, hI, hf, h60⟩
    · rw [setW_ne e, setW_ne e, hne _ (fun e2 => by injection e2 with e1 e2; omega) (fun e2 => by injection e2 with e1 e2; omega) (fun e2 => by injection e2 with e1 e2; omega) (fun e2 => by injection e2 with e1 e2; omega) (fun e2 => by injection e2 with e1 e2; omega) (fun e2 => by injection e2 with e1 e2; omega)]
      exact a2 j (by omega)
  · by_cases e : j + 1 = b
    · rw [e, setW_at, setW_ne (by omega)]
      have := a3 j (by omega)
      rw [e] at this
      omega
    · rw [setW_ne (by omega), setW_ne e]
      exact a3 j (by omega)
  · unfold setW
    split
    · exact hI.2.2.2.2 p
    · exact a4 j p
  · rw [hup_ne (by decide), mh_o (by decide) (by decide), hup_ne (by decide), hup_at]
    exact hA
  · rw [hup_at]
    exact hC
  · rw [hup_ne (by decide), mh_12]
  · by_cases e : j = b
    · rw [e, setW_at, pf_at hp]
      exact hx p hp
    · rw [setW_ne e, pf_ne hp e, pf_ne hp (by omega)]
      exact hM j p (by omega) hp
  · rw [hne (10, 3) (by decide) (by decide) (by decide) (by decide) (by decide) (fun e2 => by injection e2 with e1 e2; omega), hne (13, 0) (by decide) (by decide) (by decide) (by decide) (by decide) (fun e2 => by injection e2 with e1 e2; omega)]
    exact a8 p hp
/-- the reference's commit, up to its loop -/
theorem mcm_start {r : Option xV} {P : xH → Prop} {u0 uu : Nat → Nat} (hM : H (12, 0) = E M) (hn : H (4, 0) 2 = nI (k + 1)) (hk1 : k = b + 1) (hk : k < 3) (hi0 : Inv (W b) u0) (hf0 : flg (W b) u0 = W b) (hs : Str wu uu) (hMb : ∀ p, p < 512 → M (512 * b + p) = W b p) (hMk : ∀ p, p < 512 → M (512 * k + p) = wu p) (h1 : W b 2 ≤ wu 2) (h5 : wu 5 = 0)
    (K : mcR k b W wu M H 0 r P) : ∃ hf, Cl 8 MX4_commit [vR (4, 0)] H r hf ∧ P hf := by
  have hsz := hs.sz
  obtain ⟨g1, g2, g3⟩ := grow_inv hi0 h1 hsz.2
  have g2 := g2 hf0
  have hMk2 : pf M k wu = M := pf_self fun p hp => hMk p hp
  have hH : H = mh H (H (14, 0)) M := by
    unfold mh
    rw [hup_self (p := (14, 0)) rfl, hup_self hM]
  have hcf := m_copyFile (d := 7) (h := H) (f := H (14, 0)) (N := M) (i := b) (j := 3) (x := W b) hMb (by omega) (by decide) (by omega)
  rw [← hH] at hcf
  have hrm := m_room (d := 4) (h := mh H (H (14, 0)) (pf M 3 (W b))) (M := M) (g := 3) mh_12 (by decide) hi0
  rw [mh_mh, mh_14] at hrm
  obtain ⟨f1, hf1⟩ : ∃ f1, f1 = cf (H (14, 0)) (T (W b)) := ⟨_, rfl⟩
  rw [← hf1] at hrm
  have hk12 : ∀ x, mh H f1 (pf M 3 x) (12, 0) = E (pf (pf M 3 x) k wu) := fun x => by
    rw [mh_12, pf_self (N := pf M 3 x) (j := k) (v := wu) (fun p hp => by rw [pf_ne hp (by omega)]; exact hMk p hp)]
  obtain ⟨hf, hR, hP⟩ := K u0 f1 (H (15, 0)) none none none g1
  rw [show cmV b W wu (W b) 0 = up (W b) 2 (wu 2) from rfl, g2, hup_self rfl] at hR
  refine ⟨hf, ?_, hP⟩
  refine rnN 3 rfl ?_
  rw [hn]
  refine rnF ((show ¬ nI (k + 1) = nI 1 from fun e => by have := (neq (by omega) (by decide)).mp e; omega)) rfl ?_
  refine rnN 5 rfl ?_
  rw [m_top hn]
  refine rnN 2 rfl ?_
  refine rnK rfl (m_snapshots (w := wu) (M := M) (by rw [hM, hMk2]) (show k < 4 by omega)) ?_
  rw [h5]
  refine rnN 5 rfl ?_
  rw [show nI k - nI 1 = nI b by rw [hk1, pk_sub (by omega)]; congr 1]
  refine rnN 1 rfl ?_
  refine rnK rfl (hcf) ?_
  refine rnN 2 rfl ?_
  refine rnK rfl (hrm) ?_
  refine rnN 6 rfl ?_
  refine rnK rfl (m_sizeOf (hk12 (W b)) (show k < 4 by omega)) ?_
  refine rnC (inN (show 1538 < 2048 by decide) (by decide)) rfl ?_
  simp (disch := omega) only [nI_clamp, mhpt]
  rw [show 1538 = 512 * 3 + 2 from rfl, pf_up (show 2 < 512 by decide)]
  refine rnN 3 rfl ?_
  refine rnK rfl (m_table (n := 0) (hk12 (up (W b) 2 (wu 2))) (show k < 4 by omega) hs.l6 (by decide)) ?_
  rw [show tbn wu 0 = wu 3 from rfl]
  refine rnN 7 rfl ?_
  exact hR
/-- its end, when all went in -/
theorem mcm_end {uu : Nat → Nat} (hn : H (4, 0) 2 = nI (k + 1)) (hk1 : k = b + 1) (hk : k < 3) (hs : Str wu uu) (hMk : ∀ p, p < 512 → M (512 * k + p) = wu p) (hr : cmK b wu (W b) (wu 2) ≤ rm (W b)) :
    mcR k b W wu M H (wu 2) (some (vI (nI (cmD wu (wu 2))))) fun hf => ∃ s f u, Inv (cmV b W wu (W b) (wu 2)) u ∧ hf = hup (mh (hup H (15, 0) s) f (pf (pf M 3 (flg (cmV b W wu (W b) (wu 2)) u)) b (flg (cmV b W wu (W b) (wu 2)) u))) (4, 0) (upd (H (4, 0)) 2 (nI (b + 1))) := by
  intro u f s o7 o8 o9 hu
  have hsz := hs.sz
  have hrml : rm (W b) ≤ 64 := by unfold rm; omega
  obtain ⟨x, hx⟩ : ∃ x, x = flg (cmV b W wu (W b) (wu 2)) u := ⟨_, rfl⟩
  rw [← hx]
  have hH12 : mh (hup H (15, 0) s) f (pf M 3 x) (12, 0) = E (pf (pf M 3 x) k wu) := by
    rw [mh_12, pf_self (N := pf M 3 x) (j := k) (v := wu) (fun p hp => by rw [pf_ne hp (by omega)]; exact hMk p hp)]
  have hcf := m_copyFile (d := 7) (h := hup H (15, 0) s) (f := f) (N := pf M 3 x) (i := 3) (j := b) (x := x) (fun p hp => pf_at hp) (by decide) (by omega) (by omega)
  have h4 : mh (hup H (15, 0) s) f (pf (pf M 3 x) b x) (4, 0) = H (4, 0) := by rw [mh_o (by decide) (by decide), hup_ne (by decide)]
  refine ⟨hup (mh (hup H (15, 0) s) f (pf (pf M 3 x) b x)) (4, 0) (upd (H (4, 0)) 2 (nI (b + 1))), ?_, s, f, u, hu, by rw [hx]⟩
  refine rnN 3 rfl ?_
  refine rnK rfl (m_sizeOf hH12 (show k < 4 by omega)) ?_
  refine rnF (nI_nlt (Nat.le_refl _) (by omega)) rfl ?_
  refine rnN 2 rfl ?_
  refine rnF (nI_nlt hr (by omega)) rfl ?_
  refine rnN 5 rfl ?_
  rw [show nI k - nI 1 = nI b by rw [hk1, pk_sub (by omega)]; congr 1]
  refine rnK rfl (hcf) ?_
  refine rnN 4 rfl ?_
  rw [h4, hn]
  refine rnN 1 rfl ?_
  rw [show nI (k + 1) - nI 1 = nI (b + 1) by rw [hk1, pk_sub (by omega)]; congr 1]
  refine rnN 2 rfl ?_
  have e9 : hpt (mh (hup H (15, 0) s) f (pf (pf M 3 x) b x)) (4, 0) 2 (nI (b + 1)) = hup (mh (hup H (15, 0) s) f (pf (pf M 3 x) b x)) (4, 0) (upd (H (4, 0)) 2 (nI (b + 1))) := by
    unfold hpt
    rw [h4]
  rw [e9]
  exact rnR rfl
theorem op_commit (S : SI k W U h) : OpOK MX3_commit MX4_commit [] h := by
  obtain ⟨M, hM, hMw, hMp⟩ := S.mem
  have hk := S.1
  have hi := S.inv (Nat.le_refl k)
  have hw := S.file (Nat.le_refl k)
  have hs := hi.1
  have hns := hs.ns
  have hg : k < 4 := by omega
  have hw12 : h (12, 0) = E (pf M k (W k)) := by rw [hM, hMp k (Nat.le_refl k)]
  have hn3 := S.2.2.2.2.1
  have hn4 := S.2.2.2.2.2.1
  have hWb := S.2.2.2.1
  by_cases hk0 : k = 0
  · subst hk0
    refine ⟨vI (-1), h, h, 0, W, U, Cl_deep (n := 4) (by decide) ?_, Cl_deep (n := 4) (by decide) ?_, S⟩
    · refine rnN 1 rfl ?_
      refine rnK rfl (c_top hn3 hk) ?_
      refine rnN 7 rfl ?_
      exact rnR rfl
    · refine rnN 3 rfl ?_
      rw [hn4]
      refine rnN 2 rfl ?_
      exact rnR rfl
  · obtain ⟨b, hk1⟩ : ∃ b, k = b + 1 := ⟨k - 1, by omega⟩
    subst hk1
    by_cases h5 : W (b + 1) 5 = 0
    · have hib := S.inv (show b ≤ b + 1 by omega)
      have hfb := S.fl (show b ≤ b + 1 by omega)
      have hsz := S.2.2.1 b (by omega)
      have hsu := hs.sz
      have hKl := cmK_le (b := b) (wu := W (b + 1)) (w0 := W b) 64
      have htail := cm_tail (b := b) (W := W) (w0 := W b) hs (64 - W (b + 1) 2) (by omega)
      rw [show W (b + 1) 2 + (64 - W (b + 1) 2) = 64 by omega] at htail
      obtain ⟨t1, t2, t3⟩ := htail
      have hNW : ∀ j, j < b → j ≠ 3 ∧ Str (W j) (U j) ∧ ∀ p, p < 512 → M (512 * j + p) = W j p := fun j hj => ⟨by omega, (S.inv (by omega)).1, fun p hp => hMw j p (by omega) hp⟩
      by_cases hr : cmK b (W (b + 1)) (W b) 64 ≤ rm (W b)
      · obtain ⟨u, J⟩ := JJ_upto (b := b) (W := W) hib ⟨U (b + 1), hs⟩ hsz hWb (hWb (b + 1)) 64 (Nat.le_refl _) hr
        have hu := J.1
        obtain ⟨hF1, hF2, hF3⟩ := flg_inv hu
        have hHd : ∀ p, p < 8 → p ≠ 2 → flg (cmV b W (W (b + 1)) (W b) 64) u p = W b p := fun p hp hp2 => by rw [(flg_agr _ _).hdr hp]; exact J.2.1 p hp hp2
        have hH2 : flg (cmV b W (W (b + 1)) (W b) 64) u 2 = W (b + 1) 2 := by rw [(flg_agr _ _).hdr (by decide)]; exact J.2.2.1
        obtain ⟨w', hw'⟩ : ∃ w', w' = flg (cmV b W (W (b + 1)) (W b) 64) u := ⟨_, rfl⟩
        rw [← hw'] at hF1 hF3 hHd hH2
        obtain ⟨A, hA⟩ : ∃ A, A = upd (h (3, 0)) 1 (nI (b + 1)) := ⟨_, rfl⟩
        have hA1 : A 1 = nI (b + 1) := by rw [hA]; exact if_pos rfl
        obtain ⟨h1, hh1⟩ : ∃ h1, h1 = hup (hup h (10, b) (E w')) (3, 0) A := ⟨_, rfl⟩
        have n1 : ∀ q : xP, q ≠ (10, b) → q ≠ (3, 0) → h1 q = h q := fun q hq hq2 => by rw [hh1, hup_ne hq2, hup_ne hq]
        have q12 : h1 (12, 0) = E M := by rw [n1 _ (fun e => by injection e with e1 e2; omega) (by decide)]; exact hM
        have q4e : h1 (4, 0) = h (4, 0) := n1 _ (fun e => by injection e with e1 e2; omega) (by decide)
        have q4 : h1 (4, 0) 2 = nI (b + 1 + 1) := by rw [q4e]; exact hn4
        have hend := mcm_end (H := h1) (M := M) (W := W) q4 rfl hk hs (fun p hp => hMw _ p (Nat.le_refl _) hp) (by rw [← t2]; exact hr)
        have hst : mcR (b + 1) b W (W (b + 1)) M h1 0 _ _ := lpN (W (b + 1) 2) (fun n => mcR (b + 1) b W (W (b + 1)) M h1 n _ _) (fun n hn K => mc_step rfl hk hib hs (fun p hp => hMw _ p (Nat.le_refl _) hp) hNW hsz hWb (hWb (b + 1)) hn (by have := cmK_mono (b := b) (wu := W (b + 1)) (w0 := W b) (n := n + 1) (m := 64) (by omega); omega) K) hend
        obtain ⟨hf, hC, s, f, u', hu', rfl⟩ := mcm_start q12 q4 rfl hk hib hfb hs (fun p hp => hMw b p (by omega) hp) (fun p hp => hMw _ p (Nat.le_refl _) hp) hsz h5 hst
        have hx : flg (cmV b W (W (b + 1)) (W b) (W (b + 1) 2)) u' = w' := by
          rw [← t1] at hu' ⊢
          rw [hw']
          exact flg_u hu' hu
        rw [hx, ← t3] at hC
        have h9 := SI_pop (s := s) (f := f) (x := w') (A := A) (C := upd (h1 (4, 0)) 2 (nI (b + 1))) S hF1 hF3 (fun e => by rw [hHd 5 (by decide) (by decide)] at e; rw [hHd 6 (by decide) (by decide)]; exact (S.2.1 b (by omega)).2.2.2 e) (by rw [hH2]; exact hsz) hMw hA1 (if_pos rfl) (fun p _ => rfl)
        rw [← hh1] at h9
        refine ⟨vI (nI (cmD (W (b + 1)) 64)), h1, _, b, _, _, Cl_deep (n := 6) (by decide) ?_, hC, h9⟩
        have hDl := cmD_le (W (b + 1)) 64
        rw [hh1]
        refine rnN 1 rfl ?_
        refine rnK rfl (c_top hn3 hk) ?_
        refine rnN 7 rfl ?_
        refine rnK rfl (c_snapshotCount hw) ?_
        rw [h5]
        refine rnN 3 rfl ?_
        have hti := c_takeIn (d := 0) (b := b) (k := b + 1) (W := W) (U := U) (fun j hj => ⟨S.file (by omega), S.inv (by omega)⟩) (by omega) hw hs hsz hWb (hWb (b + 1)) hr hu
        rw [← hw'] at hti
        refine rnK rfl (hti) ?_
        refine rnN 3 rfl ?_
        refine rnF (nI_ne_m2 (by omega)) rfl ?_
        refine rnN 4 rfl ?_
        have h3 : hup h (10, b) (E w') (3, 0) = h (3, 0) := hup_ne (fun e => by injection e with e1 e2; omega)
        rw [h3, hn3]
        refine rnN 1 rfl ?_
        rw [show nI (b + 1 + 1) - nI 1 = nI (b + 1) by rw [pk_sub (by omega)]; congr 1]
        refine rnN 2 rfl ?_
        have e9 : hpt (hup h (10, b) (E w')) (3, 0) 1 (nI (b + 1)) = hup (hup h (10, b) (E w')) (3, 0) A := by
          unfold hpt
          rw [h3, hA]
        rw [e9]
        exact rnR rfl
      · obtain ⟨n, hn1, hn2, hn3'⟩ := first_over (g := cmK b (W (b + 1)) (W b)) (fr := rm (W b)) (Nat.zero_le _) (W (b + 1) 2) (by rw [← t2]; omega)
        have hend := mc_fail (H := h) (N := M) (n := n) rfl hk hib hs (fun p hp => hMw _ p (Nat.le_refl _) hp) hNW hsz hWb (hWb (b + 1)) hn1 hn2 hn3'
        have hst : mcR (b + 1) b W (W (b + 1)) M h 0 _ _ := lpN n (fun n => mcR (b + 1) b W (W (b + 1)) M h n _ _) (fun m hm K => mc_step rfl hk hib hs (fun p hp => hMw _ p (Nat.le_refl _) hp) hNW hsz hWb (hWb (b + 1)) (by omega) (by have := cmK_mono (b := b) (wu := W (b + 1)) (w0 := W b) (n := m + 1) (m := n) (by omega); omega) K) hend
        obtain ⟨hf, hC, s, f, x, rfl⟩ := mcm_start hM hn4 rfl hk hib hfb hs (fun p hp => hMw b p (by omega) hp) (fun p hp => hMw _ p (Nat.le_refl _) hp) hsz h5 hst
        refine ⟨vI (-2), h, _, b + 1, W, U, Cl_deep (n := 6) (by decide) ?_, hC, SI_side S hMw⟩
        refine rnN 1 rfl ?_
        refine rnK rfl (c_top hn3 hk) ?_
        refine rnN 7 rfl ?_
        refine rnK rfl (c_snapshotCount hw) ?_
        rw [h5]
        refine rnN 3 rfl ?_
        refine rnK rfl (c_takeInF (S.file (show b ≤ b + 1 by omega)) hib hw hs hr (by omega)) ?_
        refine rnN 4 rfl ?_
        refine rnN 1 rfl ?_
        exact rnR rfl
    · refine ⟨vI (-4), h, h, b + 1, W, U, Cl_deep (n := 4) (by decide) ?_, Cl_deep (n := 4) (by decide) ?_, S⟩
      · refine rnN 1 rfl ?_
        refine rnK rfl (c_top hn3 hk) ?_
        refine rnN 7 rfl ?_
        refine rnK rfl (c_snapshotCount hw) ?_
        refine rnT ((n0lt (show W (b + 1) 5 < 2147483648 by omega)).mpr (by omega)) rfl ?_
        refine rnN 1 rfl ?_
        exact rnR rfl
      · refine rnN 3 rfl ?_
        rw [hn4]
        refine rnF ((show ¬ nI (b + 1 + 1) = nI 1 from fun e => by have := (neq (by omega) (by decide)).mp e; omega)) rfl ?_
        refine rnN 5 rfl ?_
        rw [m_top hn4]
        refine rnN 2 rfl ?_
        refine rnK rfl (m_snapshots hw12 hg) ?_
        refine rnT ((n0lt (show W (b + 1) 5 < 2147483648 by omega)).mpr (by omega)) rfl ?_
        refine rnN 1 rfl ?_
        exact rnR rfl
end OC
end
section
/-! ===== words of the stage as ints; claims ===== -/
theorem nI_toI {x : Nat} (h : x < 4294967296) : (nI x).toInt = if x < 2147483648 then (x : Int) else (x : Int) - 4294967296 := by
  have h1 : (nI x).toBitVec.toNat = x := pk_tn h
  show (nI x).toBitVec.toInt = _
  rw [BitVec.toInt_eq_toNat_cond, h1]
  by_cases e : x < 2147483648
  · rw [if_pos e, if_pos (by omega)]
  · rw [if_neg e, if_neg (by omega)]
    omega
/-- smaller, as ints, for words of 32 bits -/
theorem nltS {x c : Nat} (hx : x < 4294967296) (hc : c < 2147483648) : nI x < nI c ↔ (x < c ∨ 2147483648 ≤ x) := by
  rw [Int32.lt_iff_toInt_lt, nI_toI hx, nI_toInt hc]
  split <;> omega
theorem ngtS {x c : Nat} (hx : x < 4294967296) (hc : c < 2147483648) : nI c < nI x ↔ (c < x ∧ x < 2147483648) := by
  rw [Int32.lt_iff_toInt_lt, nI_toI hx, nI_toInt hc]
  split <;> omega
theorem nlt0S {x : Nat} (hx : x < 4294967296) : nI x < 0 ↔ 2147483648 ≤ x := by
  have h1 := nltS (c := 0) hx (by decide)
  rw [nI_0] at h1
  rw [h1]
  omega
theorem neqS {x y : Nat} (hx : x < 4294967296) (hy : y < 4294967296) : nI x = nI y ↔ x = y := by
  constructor
  · intro e
    have h1 := congrArg tn e
    rwa [tn_nI hx, tn_nI hy] at h1
  · intro e; rw [e]
theorem neq0S {x : Nat} (hx : x < 4294967296) : nI x = 0 ↔ x = 0 := by
  rw [← nI_0]
  exact neqS hx (by decide)
theorem nand3 {x : Nat} (hx : x < 4294967296) : nI x &&& nI 3 = nI (x % 4) := pk_andN hx (m := nI 3) 2 (by decide)
theorem nand2 {x : Nat} (hx : x < 4294967296) : (nI x &&& nI 2 = 0) ↔ x / 2 % 2 = 0 := by
  have h1 : nI x &&& nI 2 = nI (x % 4) &&& nI 2 := by
    rw [← nand3 hx, Int32.and_assoc]
    congr 1
  have h2 : ∀ k, k < 4 → ((nI k &&& nI 2 = 0) ↔ k / 2 % 2 = 0) := by decide
  rw [h1, h2 _ (by omega)]
  omega
theorem nshrS {x : Nat} (hx : x < 4294967296) : ∃ v, nI x >>> (nI 2 &&& 31) = v ∧ (x < 2147483648 → v = nI (x / 4)) ∧ (2147483648 ≤ x → v < 0) := by
  refine ⟨_, rfl, fun h => nshr2 h, fun h => ?_⟩
  have h1 := pk_shr (nI x) (nI 2 &&& 31) 2 (by decide)
  rw [Int32.lt_iff_toInt_lt, h1, nI_toI hx, if_neg (by omega)]
  show ((x : Int) - 4294967296) >>> 2 < 0
  rw [Int.shiftRight_eq_div_pow]
  omega
/-- later uses keep what earlier ones said -/
def le (us v : Nat → Nat) : Prop := ∀ c, us c ≠ 0 → v c = us c
def gd (us ct : Nat → Nat) : Prop := (∀ c, us c < 88) ∧ us 0 = 0 ∧ ∀ c, 1 ≤ c → (us c = 0 ↔ ct c = 0)
/-- the reader's rows -/
def rh (h : xH) (f0 f1 : Nat → Int32) (us ct : Nat → Nat) : xH := hup (hup h (11, 0) (cf f0 us)) (11, 1) (cf f1 ct)
/-- the reference's numbers of the uses -/
def mu (a : Nat) : Nat := if a = 0 then 0 else if a < 4 then a else if a < 8 then 16 + a else if a < 16 then 92 + a else if a < 24 then a - 6 else 176 + a
section CL
variable {d : Nat} {h : xH} {f0 f1 f : Nat → Int32} {us ct u v : Nat → Nat} {w : Nat → Nat}
theorem le_refl' (us : Nat → Nat) : le us us := fun _ _ => rfl
theorem le_trans' {a b c : Nat → Nat} (h1 : le a b) (h2 : le b c) : le a c := fun x hx => by
  have e := h1 x hx
  rw [h2 x (by rw [e]; exact hx), e]
theorem mu_inj {a b : Nat} (ha : a < 88) (hb : b < 88) (e : mu a = mu b) : a = b := by
  unfold mu at e
  repeat' (split at e)
  all_goals omega
theorem mu_0 {a : Nat} (ha : a < 88) : mu a = 0 ↔ a = 0 := by
  constructor
  · intro e; exact mu_inj ha (by decide) e
  · intro e; rw [e]; rfl
theorem mu_lt {a : Nat} (ha : a < 88) : mu a < 300 := by
  unfold mu
  repeat' split
  all_goals omega
theorem gd_claim {c a : Nat} (hg : gd us ct) (h1 : 1 ≤ c) (ha : a < 88) (ha0 : a ≠ 0) (hc : us c = 0 ∨ us c = a) : gd (up us c a) (fun X => ct X + iv c X) ∧ le us (up us c a) ∧ (∀ u, le us u → u c = a → le (up us c a) u) := by
  obtain ⟨g1, g2, g3⟩ := hg
  refine ⟨⟨fun x => ?_, by rw [up_ne (by omega)]; exact g2, fun x hx => ?_⟩, fun x hx => ?_, fun u hu e x hx => ?_⟩
  · unfold up
    split
    · exact ha
    · exact g1 x
  · by_cases e : x = c
    · subst e
      show up us x a x = 0 ↔ ct x + iv x x = 0
      rw [up_at, iv_self]
      omega
    · show up us c a x = 0 ↔ ct x + iv c x = 0
      rw [up_ne e, iv_ne (fun z => e z.symm), Nat.add_zero]
      exact g3 x hx
  · by_cases e : x = c
    · subst e
      rw [up_at]
      rcases hc with hc | hc
      · exact absurd hc hx
      · exact hc.symm
    · exact up_ne e
  · by_cases e2 : x = c
    · subst e2
      rw [up_at]
      exact e
    · rw [up_ne e2] at hx ⊢
      exact hu x hx
theorem cf_put {X x : Nat} (h : X < 64) : upd (cf f us) X (nI x) = cf f (up us X x) := by
  funext c
  simp only [upd, cf, up]
  by_cases e : c = X
  · rw [if_pos e, if_pos (by omega), if_pos e]
  · rw [if_neg e, if_neg e]
theorem rh_0 : rh h f0 f1 us ct (11, 0) = cf f0 us := by
  unfold rh
  rw [hup_ne (by decide), hup_at]
theorem rh_1 : rh h f0 f1 us ct (11, 1) = cf f1 ct := hup_at
theorem rh_o {q : xP} (h1 : q ≠ (11, 0)) (h2 : q ≠ (11, 1)) : rh h f0 f1 us ct q = h q := by
  unfold rh
  rw [hup_ne h2, hup_ne h1]
theorem rhpt0 {i x : Nat} (hi : i < 64) : hpt (rh h f0 f1 us ct) (11, 0) i (nI x) = rh h f0 f1 (up us i x) ct := by
  unfold hpt
  rw [rh_0, cf_put hi]
  funext q
  unfold rh hup
  by_cases h1 : q = (11, 0)
  · subst h1; rfl
  · simp only [if_neg h1]
theorem rhpt1 {i x : Nat} (hi : i < 64) : hpt (rh h f0 f1 us ct) (11, 1) i (nI x) = rh h f0 f1 us (up ct i x) := by
  unfold hpt
  rw [rh_1, cf_put hi]
  unfold rh
  rw [hup_hup]
/-- what a claim of a cluster comes to -/
theorem c_claim {v0 : Int32} {a : Nat} (hg : gd us ct) (ha : a < 88) (ha0 : a ≠ 0) : (∃ c, 1 ≤ c ∧ c < 64 ∧ v0 = nI c ∧ (us c = 0 ∨ us c = a) ∧ Cl d MX2_claim [vR (2, 0), vI v0, vI (nI a)] (rh h f0 f1 us ct) (some (vI (nI 1))) (rh h f0 f1 (up us c a) (fun X => ct X + iv c X)))
    ∨ ((∀ c, 1 ≤ c → c < 64 → v0 = nI c → us c ≠ 0 ∧ us c ≠ a) ∧ Cl d MX2_claim [vR (2, 0), vI v0, vI (nI a)] (rh h f0 f1 us ct) (some (vI (nI 0))) (rh h f0 f1 us ct)) := by
  by_cases h1 : v0 < nI 1
  · right
    refine ⟨fun c h2 h3 e => by rw [e] at h1; exact absurd ((nlt (by omega) (by decide)).mp h1) (by omega), ?_⟩
    refine rnN 2 rfl ?_
    refine rnT (h1) rfl ?_
    refine rnN 1 rfl ?_
    exact rnR rfl
  · by_cases h2 : nI 63 < v0
    · right
      refine ⟨fun c h3 h4 e => by rw [e] at h2; exact absurd ((nlt (by decide) (by omega)).mp h2) (by omega), ?_⟩
      refine rnN 2 rfl ?_
      refine rnF (h1) rfl ?_
      refine rnN 2 rfl ?_
      refine rnT (h2) rfl ?_
      refine rnN 1 rfl ?_
      exact rnR rfl
    · have h0 : ¬ v0 < 0 := fun e => h1 (Int32.lt_trans e (by decide))
      obtain ⟨c, hc, rfl⟩ := nI_of_small (n := 64) h0 (fun e => h2 (Int32.lt_of_lt_of_le (by decide) e)) (by decide)
      have hc1 : 1 ≤ c := by
        refine Classical.byContradiction fun e => h1 ?_
        exact nI_lt (by omega) (by decide)
      have hub := hg.1 c
      have tail : (us c = 0 ∨ us c = a) → Rn d MX2_claim 34 [some (vR (2, 0)), some (vI (nI c)), some (vI (nI a))] [] (rh h f0 f1 us ct) (some (vI (nI 1))) (rh h f0 f1 (up us c a) (fun X => ct X + iv c X)) := fun _ => by
        refine rnN 4 rfl ?_
        refine rnC (inN hc (by decide)) rfl ?_
        simp (disch := omega) only [nI_clamp, rhpt0]
        refine rnN 4 rfl ?_
        refine rnC (inN hc (by decide)) rfl ?_
        simp (disch := omega) only [nI_clamp, rh_1, cf_at]
        refine rnN 2 rfl ?_
        simp (disch := omega) only [nI_add, pk_mul, pk_sub, nd8, nd4, nsub8, nand63, nand7, nshr2, nI_clamp, E_at, hup_at, hup_hup, hpt_def, pf_at, pf_at2, cf_at, h12_14, h14_12, h12_15, h15_12, h14_15, h15_14]
        refine rnC (inN hc (by decide)) rfl ?_
        simp (disch := omega) only [nI_clamp, rhpt1]
        have e : rh h f0 f1 (up us c a) (up ct c (ct c + 1)) = rh h f0 f1 (up us c a) (fun X => ct X + iv c X) := by
          unfold rh
          congr 1
          refine cf_congr fun X _ => ?_
          by_cases e : X = c
          · subst e; rw [up_at, iv_self]
          · rw [up_ne e, iv_ne (fun z => e z.symm)]; rfl
        rw [e]
        refine rnN 1 rfl ?_
        exact rnR rfl
      by_cases h3 : us c = 0
      · left
        refine ⟨c, hc1, hc, rfl, Or.inl h3, ?_⟩
        refine rnN 2 rfl ?_
        refine rnF (h1) rfl ?_
        refine rnN 2 rfl ?_
        refine rnF (h2) rfl ?_
        refine rnN 3 rfl ?_
        refine rnC (inN hc (by decide)) rfl ?_
        simp (disch := omega) only [nI_clamp, rh_0, cf_at]
        rw [h3]
        refine rnN 1 rfl ?_
        exact tail (Or.inl h3)
      · by_cases h4 : us c = a
        · left
          refine ⟨c, hc1, hc, rfl, Or.inr h4, ?_⟩
          refine rnN 2 rfl ?_
          refine rnF (h1) rfl ?_
          refine rnN 2 rfl ?_
          refine rnF (h2) rfl ?_
          refine rnN 3 rfl ?_
          refine rnC (inN hc (by decide)) rfl ?_
          simp (disch := omega) only [nI_clamp, rh_0, cf_at]
          refine rnF (nI_ne0 (Nat.pos_of_ne_zero h3) (by omega)) rfl ?_
          refine rnN 3 rfl ?_
          refine rnC (inN hc (by decide)) rfl ?_
          simp (disch := omega) only [nI_clamp, rh_0, cf_at]
          refine rnN 1 rfl ?_
          refine rnT ((show nI (us c) = nI a by rw [h4])) rfl ?_
          exact tail (Or.inr h4)
        · right
          refine ⟨fun c' h5 h6 e => ?_, ?_⟩
          · have := (neq (by omega) (by omega)).mp e
            rw [← this]
            exact ⟨h3, h4⟩
          · refine rnN 2 rfl ?_
            refine rnF (h1) rfl ?_
            refine rnN 2 rfl ?_
            refine rnF (h2) rfl ?_
            refine rnN 3 rfl ?_
            refine rnC (inN hc (by decide)) rfl ?_
            simp (disch := omega) only [nI_clamp, rh_0, cf_at]
            refine rnF (nI_ne0 (Nat.pos_of_ne_zero h3) (by omega)) rfl ?_
            refine rnN 3 rfl ?_
            refine rnC (inN hc (by decide)) rfl ?_
            simp (disch := omega) only [nI_clamp, rh_0, cf_at]
            refine rnN 1 rfl ?_
            refine rnF ((fun e => h4 ((neq (by omega) (by omega)).mp e))) rfl ?_
            refine rnN 1 rfl ?_
            exact rnR rfl
/-- the cluster that a word leads to, or none -/
theorem c_clusterLedTo {y : Nat} (hy : y < 4294967296) : ∃ v0, Cl (d + 1) MX2_clusterLedTo [vI (nI y)] h (some (vI v0)) h ∧ ((LD y ∧ v0 = nI (y / 4)) ∨ (¬ LD y ∧ ∀ c, 1 ≤ c → c < 64 → v0 ≠ nI c)) := by
  by_cases h2 : y / 2 % 2 = 0
  · obtain ⟨v, e1, e2, e3⟩ := nshrS hy
    have hcl : Cl d MX3_clusterOf [vI (nI y)] h (some (vI v)) h := by
      refine rnN 3 rfl ?_
      rw [e1]
      exact rnR rfl
    refine ⟨v, ?_, ?_⟩
    · refine rnN 3 rfl ?_
      refine rnT (((nand2 hy).mpr h2)) rfl ?_
      refine rnN 1 rfl ?_
      refine rnK rfl (hcl) ?_
      refine rnN 1 rfl ?_
      exact rnR rfl
    · by_cases hL : LD y
      · exact Or.inl ⟨hL, e2 (by unfold LD at hL; omega)⟩
      · refine Or.inr ⟨hL, fun c h1 h3 e => ?_⟩
        by_cases h4 : y < 2147483648
        · rw [e2 h4] at e
          have := (neq (by omega) (by omega)).mp e
          exact hL (by unfold LD; omega)
        · have h5 := e3 (by omega)
          rw [e] at h5
          exact nI_pos (by omega) h5
  · refine ⟨nI 0, ?_, Or.inr ⟨fun h => by unfold LD at h; omega, fun c h1 h3 e => ?_⟩⟩
    · refine rnN 3 rfl ?_
      refine rnF ((fun e => h2 ((nand2 hy).mp e))) rfl ?_
      refine rnN 1 rfl ?_
      exact rnR rfl
    · have := (neq (by decide) (by omega)).mp e
      omega
end CL
end
