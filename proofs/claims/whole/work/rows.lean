section
-- ===== PART A: goes FIRST, ahead of the names: the tables' words, and 'selects' of the private methods out of them =====
/-- a private method of a class that the tables say can be made, by its rows of tables_1 -/
def lw_okq (q : MethodName × Nat) : Prop := (q.1.cls ≠ "java/lang/invoke/MethodHandle" ∧ q.1.cls ≠ "java/lang/invoke/VarHandle") ∧ Cond.instantiable q.1.cls q.2 ∈ tables_1 ∧ Cond.privateMethod q.1 ∈ tables_1 ∧ Cond.instanceMethod q.1 ∈ tables_1
theorem lw_p0 : lw_okq (⟨"SlabHeap", "answer", "(II)I"⟩, 7) := ⟨⟨by decide +kernel, by decide +kernel⟩, List.mem_of_getElem? (i := 9) (by decide +kernel), List.mem_of_getElem? (i := 89) (by decide +kernel), List.mem_of_getElem? (i := 90) (by decide +kernel)⟩
theorem lw_p1 : lw_okq (⟨"SlabHeap$Pages", "emptySlot", "(I)I"⟩, 4) := ⟨⟨by decide +kernel, by decide +kernel⟩, List.mem_of_getElem? (i := 41) (by decide +kernel), List.mem_of_getElem? (i := 102) (by decide +kernel), List.mem_of_getElem? (i := 103) (by decide +kernel)⟩
theorem lw_p2 : lw_okq (⟨"SlabHeap$Pages", "isSlabOf", "(II)Z"⟩, 4) := ⟨⟨by decide +kernel, by decide +kernel⟩, List.mem_of_getElem? (i := 41) (by decide +kernel), List.mem_of_getElem? (i := 106) (by decide +kernel), List.mem_of_getElem? (i := 107) (by decide +kernel)⟩
theorem lw_p3 : lw_okq (⟨"SlabHeap$Pages", "stepOf", "(I)I"⟩, 4) := ⟨⟨by decide +kernel, by decide +kernel⟩, List.mem_of_getElem? (i := 41) (by decide +kernel), List.mem_of_getElem? (i := 117) (by decide +kernel), List.mem_of_getElem? (i := 118) (by decide +kernel)⟩
theorem lw_p4 : lw_okq (⟨"SlabHeap$Pages", "isTaken", "(II)Z"⟩, 4) := ⟨⟨by decide +kernel, by decide +kernel⟩, List.mem_of_getElem? (i := 41) (by decide +kernel), List.mem_of_getElem? (i := 121) (by decide +kernel), List.mem_of_getElem? (i := 122) (by decide +kernel)⟩
theorem lw_p5 : lw_okq (⟨"SlabHeap$Pages", "isFreeExtent", "(II)Z"⟩, 4) := ⟨⟨by decide +kernel, by decide +kernel⟩, List.mem_of_getElem? (i := 41) (by decide +kernel), List.mem_of_getElem? (i := 136) (by decide +kernel), List.mem_of_getElem? (i := 137) (by decide +kernel)⟩
theorem lw_p6 : lw_okq (⟨"SlabHeap$Pages", "isFreeRun", "(II)Z"⟩, 4) := ⟨⟨by decide +kernel, by decide +kernel⟩, List.mem_of_getElem? (i := 41) (by decide +kernel), List.mem_of_getElem? (i := 140) (by decide +kernel), List.mem_of_getElem? (i := 141) (by decide +kernel)⟩
theorem lw_p7 : lw_okq (⟨"SlabHeap$Pages", "lay", "(III)V"⟩, 4) := ⟨⟨by decide +kernel, by decide +kernel⟩, List.mem_of_getElem? (i := 41) (by decide +kernel), List.mem_of_getElem? (i := 158) (by decide +kernel), List.mem_of_getElem? (i := 159) (by decide +kernel)⟩
theorem lw_p8 : lw_okq (⟨"SlabHeap$Pages", "layExtent", "(II)V"⟩, 4) := ⟨⟨by decide +kernel, by decide +kernel⟩, List.mem_of_getElem? (i := 41) (by decide +kernel), List.mem_of_getElem? (i := 162) (by decide +kernel), List.mem_of_getElem? (i := 163) (by decide +kernel)⟩
theorem lw_p9 : lw_okq (⟨"SlabHeap$Pages", "slotAt", "(I)I"⟩, 4) := ⟨⟨by decide +kernel, by decide +kernel⟩, List.mem_of_getElem? (i := 41) (by decide +kernel), List.mem_of_getElem? (i := 166) (by decide +kernel), List.mem_of_getElem? (i := 167) (by decide +kernel)⟩
theorem lw_p10 : lw_okq (⟨"SlabHeap", "leadsTo", "(I)I"⟩, 7) := ⟨⟨by decide +kernel, by decide +kernel⟩, List.mem_of_getElem? (i := 9) (by decide +kernel), List.mem_of_getElem? (i := 198) (by decide +kernel), List.mem_of_getElem? (i := 199) (by decide +kernel)⟩
theorem lw_p11 : lw_okq (⟨"SlabHeap", "equalWords", "(III)I"⟩, 7) := ⟨⟨by decide +kernel, by decide +kernel⟩, List.mem_of_getElem? (i := 9) (by decide +kernel), List.mem_of_getElem? (i := 202) (by decide +kernel), List.mem_of_getElem? (i := 203) (by decide +kernel)⟩
theorem lw_p12 : lw_okq (⟨"SlabHeap", "listLive", "()I"⟩, 7) := ⟨⟨by decide +kernel, by decide +kernel⟩, List.mem_of_getElem? (i := 9) (by decide +kernel), List.mem_of_getElem? (i := 210) (by decide +kernel), List.mem_of_getElem? (i := 211) (by decide +kernel)⟩
theorem lw_p13 : lw_okq (⟨"SlabHeap", "rowAt", "(I)I"⟩, 7) := ⟨⟨by decide +kernel, by decide +kernel⟩, List.mem_of_getElem? (i := 9) (by decide +kernel), List.mem_of_getElem? (i := 219) (by decide +kernel), List.mem_of_getElem? (i := 220) (by decide +kernel)⟩
theorem lw_p14 : lw_okq (⟨"SlabHeap", "refsOf", "(I)I"⟩, 7) := ⟨⟨by decide +kernel, by decide +kernel⟩, List.mem_of_getElem? (i := 9) (by decide +kernel), List.mem_of_getElem? (i := 223) (by decide +kernel), List.mem_of_getElem? (i := 224) (by decide +kernel)⟩
theorem lw_p15 : lw_okq (⟨"SlabHeap", "lengthOf", "(I)I"⟩, 7) := ⟨⟨by decide +kernel, by decide +kernel⟩, List.mem_of_getElem? (i := 9) (by decide +kernel), List.mem_of_getElem? (i := 230) (by decide +kernel), List.mem_of_getElem? (i := 231) (by decide +kernel)⟩
def lw_privs_1 : List (MethodName × Nat) := [(⟨"SlabHeap", "answer", "(II)I"⟩, 7), (⟨"SlabHeap$Pages", "emptySlot", "(I)I"⟩, 4), (⟨"SlabHeap$Pages", "isSlabOf", "(II)Z"⟩, 4), (⟨"SlabHeap$Pages", "stepOf", "(I)I"⟩, 4), (⟨"SlabHeap$Pages", "isTaken", "(II)Z"⟩, 4), (⟨"SlabHeap$Pages", "isFreeExtent", "(II)Z"⟩, 4), (⟨"SlabHeap$Pages", "isFreeRun", "(II)Z"⟩, 4), (⟨"SlabHeap$Pages", "lay", "(III)V"⟩, 4), (⟨"SlabHeap$Pages", "layExtent", "(II)V"⟩, 4), (⟨"SlabHeap$Pages", "slotAt", "(I)I"⟩, 4), (⟨"SlabHeap", "leadsTo", "(I)I"⟩, 7), (⟨"SlabHeap", "equalWords", "(III)I"⟩, 7), (⟨"SlabHeap", "listLive", "()I"⟩, 7), (⟨"SlabHeap", "rowAt", "(I)I"⟩, 7), (⟨"SlabHeap", "refsOf", "(I)I"⟩, 7), (⟨"SlabHeap", "lengthOf", "(I)I"⟩, 7)]
theorem lw_r1 : ∀ q ∈ lw_privs_1, lw_okq q := List.forall_mem_cons.mpr ⟨lw_p0, List.forall_mem_cons.mpr ⟨lw_p1, List.forall_mem_cons.mpr ⟨lw_p2, List.forall_mem_cons.mpr ⟨lw_p3, List.forall_mem_cons.mpr ⟨lw_p4, List.forall_mem_cons.mpr ⟨lw_p5, List.forall_mem_cons.mpr ⟨lw_p6, List.forall_mem_cons.mpr ⟨lw_p7, List.forall_mem_cons.mpr ⟨lw_p8, List.forall_mem_cons.mpr ⟨lw_p9, List.forall_mem_cons.mpr ⟨lw_p10, List.forall_mem_cons.mpr ⟨lw_p11, List.forall_mem_cons.mpr ⟨lw_p12, List.forall_mem_cons.mpr ⟨lw_p13, List.forall_mem_cons.mpr ⟨lw_p14, List.forall_mem_cons.mpr ⟨lw_p15, fun _ h => absurd h List.not_mem_nil⟩⟩⟩⟩⟩⟩⟩⟩⟩⟩⟩⟩⟩⟩⟩⟩
theorem lw_p16 : lw_okq (⟨"SlabHeap", "sizeOf", "(I)I"⟩, 7) := ⟨⟨by decide +kernel, by decide +kernel⟩, List.mem_of_getElem? (i := 9) (by decide +kernel), List.mem_of_getElem? (i := 234) (by decide +kernel), List.mem_of_getElem? (i := 235) (by decide +kernel)⟩
theorem lw_p17 : lw_okq (⟨"SlabHeap", "release", "(I)V"⟩, 7) := ⟨⟨by decide +kernel, by decide +kernel⟩, List.mem_of_getElem? (i := 9) (by decide +kernel), List.mem_of_getElem? (i := 241) (by decide +kernel), List.mem_of_getElem? (i := 242) (by decide +kernel)⟩
theorem lw_p18 : lw_okq (⟨"SlabHeap", "hasWord", "(II)Z"⟩, 7) := ⟨⟨by decide +kernel, by decide +kernel⟩, List.mem_of_getElem? (i := 9) (by decide +kernel), List.mem_of_getElem? (i := 253) (by decide +kernel), List.mem_of_getElem? (i := 254) (by decide +kernel)⟩
theorem lw_p19 : lw_okq (⟨"SlabHeap", "settle", "(I)Z"⟩, 7) := ⟨⟨by decide +kernel, by decide +kernel⟩, List.mem_of_getElem? (i := 9) (by decide +kernel), List.mem_of_getElem? (i := 257) (by decide +kernel), List.mem_of_getElem? (i := 258) (by decide +kernel)⟩
theorem lw_p20 : lw_okq (⟨"SlabHeap", "isTarget", "(I)Z"⟩, 7) := ⟨⟨by decide +kernel, by decide +kernel⟩, List.mem_of_getElem? (i := 9) (by decide +kernel), List.mem_of_getElem? (i := 265) (by decide +kernel), List.mem_of_getElem? (i := 266) (by decide +kernel)⟩
theorem lw_p21 : lw_okq (⟨"SlabHeap$Words", "settleLine", "(I[I[I)V"⟩, 5) := ⟨⟨by decide +kernel, by decide +kernel⟩, List.mem_of_getElem? (i := 17) (by decide +kernel), List.mem_of_getElem? (i := 300) (by decide +kernel), List.mem_of_getElem? (i := 301) (by decide +kernel)⟩
theorem lw_p22 : lw_okq (⟨"SlabHeap", "recover", "()V"⟩, 7) := ⟨⟨by decide +kernel, by decide +kernel⟩, List.mem_of_getElem? (i := 9) (by decide +kernel), List.mem_of_getElem? (i := 309) (by decide +kernel), List.mem_of_getElem? (i := 310) (by decide +kernel)⟩
theorem lw_p23 : lw_okq (⟨"SlabHeap", "reviveFrom", "(II)V"⟩, 7) := ⟨⟨by decide +kernel, by decide +kernel⟩, List.mem_of_getElem? (i := 9) (by decide +kernel), List.mem_of_getElem? (i := 320) (by decide +kernel), List.mem_of_getElem? (i := 321) (by decide +kernel)⟩
theorem lw_p24 : lw_okq (⟨"SlabHeap", "canRevive", "(I)Z"⟩, 7) := ⟨⟨by decide +kernel, by decide +kernel⟩, List.mem_of_getElem? (i := 9) (by decide +kernel), List.mem_of_getElem? (i := 324) (by decide +kernel), List.mem_of_getElem? (i := 325) (by decide +kernel)⟩
theorem lw_p25 : lw_okq (⟨"SlabHeap", "addFound", "(I)V"⟩, 7) := ⟨⟨by decide +kernel, by decide +kernel⟩, List.mem_of_getElem? (i := 9) (by decide +kernel), List.mem_of_getElem? (i := 332) (by decide +kernel), List.mem_of_getElem? (i := 333) (by decide +kernel)⟩
theorem lw_p26 : lw_okq (⟨"SlabHeap", "markReached", "()V"⟩, 7) := ⟨⟨by decide +kernel, by decide +kernel⟩, List.mem_of_getElem? (i := 9) (by decide +kernel), List.mem_of_getElem? (i := 340) (by decide +kernel), List.mem_of_getElem? (i := 341) (by decide +kernel)⟩
theorem lw_p27 : lw_okq (⟨"SlabHeap", "markFrom", "(II)V"⟩, 7) := ⟨⟨by decide +kernel, by decide +kernel⟩, List.mem_of_getElem? (i := 9) (by decide +kernel), List.mem_of_getElem? (i := 348) (by decide +kernel), List.mem_of_getElem? (i := 349) (by decide +kernel)⟩
theorem lw_p28 : lw_okq (⟨"SlabHeap", "isOfBlock", "(I)Z"⟩, 7) := ⟨⟨by decide +kernel, by decide +kernel⟩, List.mem_of_getElem? (i := 9) (by decide +kernel), List.mem_of_getElem? (i := 374) (by decide +kernel), List.mem_of_getElem? (i := 375) (by decide +kernel)⟩
theorem lw_p29 : lw_okq (⟨"SlabHeap$Pages", "freeOrderAt", "(I)I"⟩, 4) := ⟨⟨by decide +kernel, by decide +kernel⟩, List.mem_of_getElem? (i := 41) (by decide +kernel), List.mem_of_getElem? (i := 402) (by decide +kernel), List.mem_of_getElem? (i := 403) (by decide +kernel)⟩
theorem lw_p30 : lw_okq (⟨"SlabHeap", "liveWords", "()I"⟩, 7) := ⟨⟨by decide +kernel, by decide +kernel⟩, List.mem_of_getElem? (i := 9) (by decide +kernel), List.mem_of_getElem? (i := 451) (by decide +kernel), List.mem_of_getElem? (i := 452) (by decide +kernel)⟩
theorem lw_p31 : lw_okq (⟨"SlabHeapModel", "is", "(III)Z"⟩, 18) := ⟨⟨by decide +kernel, by decide +kernel⟩, List.mem_of_getElem? (i := 468) (by decide +kernel), List.mem_of_getElem? (i := 533) (by decide +kernel), List.mem_of_getElem? (i := 534) (by decide +kernel)⟩
def lw_privs_2 : List (MethodName × Nat) := [(⟨"SlabHeap", "sizeOf", "(I)I"⟩, 7), (⟨"SlabHeap", "release", "(I)V"⟩, 7), (⟨"SlabHeap", "hasWord", "(II)Z"⟩, 7), (⟨"SlabHeap", "settle", "(I)Z"⟩, 7), (⟨"SlabHeap", "isTarget", "(I)Z"⟩, 7), (⟨"SlabHeap$Words", "settleLine", "(I[I[I)V"⟩, 5), (⟨"SlabHeap", "recover", "()V"⟩, 7), (⟨"SlabHeap", "reviveFrom", "(II)V"⟩, 7), (⟨"SlabHeap", "canRevive", "(I)Z"⟩, 7), (⟨"SlabHeap", "addFound", "(I)V"⟩, 7), (⟨"SlabHeap", "markReached", "()V"⟩, 7), (⟨"SlabHeap", "markFrom", "(II)V"⟩, 7), (⟨"SlabHeap", "isOfBlock", "(I)Z"⟩, 7), (⟨"SlabHeap$Pages", "freeOrderAt", "(I)I"⟩, 4), (⟨"SlabHeap", "liveWords", "()I"⟩, 7), (⟨"SlabHeapModel", "is", "(III)Z"⟩, 18)]
theorem lw_r2 : ∀ q ∈ lw_privs_2, lw_okq q := List.forall_mem_cons.mpr ⟨lw_p16, List.forall_mem_cons.mpr ⟨lw_p17, List.forall_mem_cons.mpr ⟨lw_p18, List.forall_mem_cons.mpr ⟨lw_p19, List.forall_mem_cons.mpr ⟨lw_p20, List.forall_mem_cons.mpr ⟨lw_p21, List.forall_mem_cons.mpr ⟨lw_p22, List.forall_mem_cons.mpr ⟨lw_p23, List.forall_mem_cons.mpr ⟨lw_p24, List.forall_mem_cons.mpr ⟨lw_p25, List.forall_mem_cons.mpr ⟨lw_p26, List.forall_mem_cons.mpr ⟨lw_p27, List.forall_mem_cons.mpr ⟨lw_p28, List.forall_mem_cons.mpr ⟨lw_p29, List.forall_mem_cons.mpr ⟨lw_p30, List.forall_mem_cons.mpr ⟨lw_p31, fun _ h => absurd h List.not_mem_nil⟩⟩⟩⟩⟩⟩⟩⟩⟩⟩⟩⟩⟩⟩⟩⟩
theorem lw_p32 : lw_okq (⟨"SlabHeapModel", "no", "(I)I"⟩, 18) := ⟨⟨by decide +kernel, by decide +kernel⟩, List.mem_of_getElem? (i := 468) (by decide +kernel), List.mem_of_getElem? (i := 537) (by decide +kernel), List.mem_of_getElem? (i := 538) (by decide +kernel)⟩
theorem lw_p33 : lw_okq (⟨"SlabHeapModel", "placeFor", "(I)I"⟩, 18) := ⟨⟨by decide +kernel, by decide +kernel⟩, List.mem_of_getElem? (i := 468) (by decide +kernel), List.mem_of_getElem? (i := 541) (by decide +kernel), List.mem_of_getElem? (i := 542) (by decide +kernel)⟩
theorem lw_p34 : lw_okq (⟨"SlabHeapModel", "map", "()V"⟩, 18) := ⟨⟨by decide +kernel, by decide +kernel⟩, List.mem_of_getElem? (i := 468) (by decide +kernel), List.mem_of_getElem? (i := 545) (by decide +kernel), List.mem_of_getElem? (i := 546) (by decide +kernel)⟩
theorem lw_p35 : lw_okq (⟨"SlabHeapModel", "sizeAt", "(I)I"⟩, 18) := ⟨⟨by decide +kernel, by decide +kernel⟩, List.mem_of_getElem? (i := 468) (by decide +kernel), List.mem_of_getElem? (i := 549) (by decide +kernel), List.mem_of_getElem? (i := 550) (by decide +kernel)⟩
theorem lw_p36 : lw_okq (⟨"SlabHeapModel", "classOf", "(I)I"⟩, 18) := ⟨⟨by decide +kernel, by decide +kernel⟩, List.mem_of_getElem? (i := 468) (by decide +kernel), List.mem_of_getElem? (i := 553) (by decide +kernel), List.mem_of_getElem? (i := 554) (by decide +kernel)⟩
theorem lw_p37 : lw_okq (⟨"SlabHeapModel", "orderOf", "(I)I"⟩, 18) := ⟨⟨by decide +kernel, by decide +kernel⟩, List.mem_of_getElem? (i := 468) (by decide +kernel), List.mem_of_getElem? (i := 557) (by decide +kernel), List.mem_of_getElem? (i := 558) (by decide +kernel)⟩
theorem lw_p38 : lw_okq (⟨"SlabHeapModel", "areFree", "(II)Z"⟩, 18) := ⟨⟨by decide +kernel, by decide +kernel⟩, List.mem_of_getElem? (i := 468) (by decide +kernel), List.mem_of_getElem? (i := 561) (by decide +kernel), List.mem_of_getElem? (i := 562) (by decide +kernel)⟩
theorem lw_p39 : lw_okq (⟨"SlabHeapModel", "taken", "(I)I"⟩, 18) := ⟨⟨by decide +kernel, by decide +kernel⟩, List.mem_of_getElem? (i := 468) (by decide +kernel), List.mem_of_getElem? (i := 565) (by decide +kernel), List.mem_of_getElem? (i := 566) (by decide +kernel)⟩
theorem lw_p40 : lw_okq (⟨"SlabHeapModel", "slots", "(I)I"⟩, 18) := ⟨⟨by decide +kernel, by decide +kernel⟩, List.mem_of_getElem? (i := 468) (by decide +kernel), List.mem_of_getElem? (i := 569) (by decide +kernel), List.mem_of_getElem? (i := 570) (by decide +kernel)⟩
theorem lw_p41 : lw_okq (⟨"SlabHeapModel", "headOf", "(III)I"⟩, 18) := ⟨⟨by decide +kernel, by decide +kernel⟩, List.mem_of_getElem? (i := 468) (by decide +kernel), List.mem_of_getElem? (i := 573) (by decide +kernel), List.mem_of_getElem? (i := 574) (by decide +kernel)⟩
theorem lw_p42 : lw_okq (⟨"SlabHeapModel", "write", "(II)V"⟩, 18) := ⟨⟨by decide +kernel, by decide +kernel⟩, List.mem_of_getElem? (i := 468) (by decide +kernel), List.mem_of_getElem? (i := 578) (by decide +kernel), List.mem_of_getElem? (i := 579) (by decide +kernel)⟩
theorem lw_p43 : lw_okq (⟨"SlabHeapModel", "isBlock", "(I)Z"⟩, 18) := ⟨⟨by decide +kernel, by decide +kernel⟩, List.mem_of_getElem? (i := 468) (by decide +kernel), List.mem_of_getElem? (i := 586) (by decide +kernel), List.mem_of_getElem? (i := 587) (by decide +kernel)⟩
theorem lw_p44 : lw_okq (⟨"SlabHeapModel", "leading", "(I)I"⟩, 18) := ⟨⟨by decide +kernel, by decide +kernel⟩, List.mem_of_getElem? (i := 468) (by decide +kernel), List.mem_of_getElem? (i := 590) (by decide +kernel), List.mem_of_getElem? (i := 591) (by decide +kernel)⟩
theorem lw_p45 : lw_okq (⟨"SlabHeapModel", "refsAt", "(I)I"⟩, 18) := ⟨⟨by decide +kernel, by decide +kernel⟩, List.mem_of_getElem? (i := 468) (by decide +kernel), List.mem_of_getElem? (i := 594) (by decide +kernel), List.mem_of_getElem? (i := 595) (by decide +kernel)⟩
theorem lw_p46 : lw_okq (⟨"SlabHeapModel", "freed", "(I)I"⟩, 18) := ⟨⟨by decide +kernel, by decide +kernel⟩, List.mem_of_getElem? (i := 468) (by decide +kernel), List.mem_of_getElem? (i := 598) (by decide +kernel), List.mem_of_getElem? (i := 599) (by decide +kernel)⟩
theorem lw_p47 : lw_okq (⟨"SlabHeapModel", "not", "(I)Z"⟩, 18) := ⟨⟨by decide +kernel, by decide +kernel⟩, List.mem_of_getElem? (i := 468) (by decide +kernel), List.mem_of_getElem? (i := 606) (by decide +kernel), List.mem_of_getElem? (i := 607) (by decide +kernel)⟩
def lw_privs_3 : List (MethodName × Nat) := [(⟨"SlabHeapModel", "no", "(I)I"⟩, 18), (⟨"SlabHeapModel", "placeFor", "(I)I"⟩, 18), (⟨"SlabHeapModel", "map", "()V"⟩, 18), (⟨"SlabHeapModel", "sizeAt", "(I)I"⟩, 18), (⟨"SlabHeapModel", "classOf", "(I)I"⟩, 18), (⟨"SlabHeapModel", "orderOf", "(I)I"⟩, 18), (⟨"SlabHeapModel", "areFree", "(II)Z"⟩, 18), (⟨"SlabHeapModel", "taken", "(I)I"⟩, 18), (⟨"SlabHeapModel", "slots", "(I)I"⟩, 18), (⟨"SlabHeapModel", "headOf", "(III)I"⟩, 18), (⟨"SlabHeapModel", "write", "(II)V"⟩, 18), (⟨"SlabHeapModel", "isBlock", "(I)Z"⟩, 18), (⟨"SlabHeapModel", "leading", "(I)I"⟩, 18), (⟨"SlabHeapModel", "refsAt", "(I)I"⟩, 18), (⟨"SlabHeapModel", "freed", "(I)I"⟩, 18), (⟨"SlabHeapModel", "not", "(I)Z"⟩, 18)]
theorem lw_r3 : ∀ q ∈ lw_privs_3, lw_okq q := List.forall_mem_cons.mpr ⟨lw_p32, List.forall_mem_cons.mpr ⟨lw_p33, List.forall_mem_cons.mpr ⟨lw_p34, List.forall_mem_cons.mpr ⟨lw_p35, List.forall_mem_cons.mpr ⟨lw_p36, List.forall_mem_cons.mpr ⟨lw_p37, List.forall_mem_cons.mpr ⟨lw_p38, List.forall_mem_cons.mpr ⟨lw_p39, List.forall_mem_cons.mpr ⟨lw_p40, List.forall_mem_cons.mpr ⟨lw_p41, List.forall_mem_cons.mpr ⟨lw_p42, List.forall_mem_cons.mpr ⟨lw_p43, List.forall_mem_cons.mpr ⟨lw_p44, List.forall_mem_cons.mpr ⟨lw_p45, List.forall_mem_cons.mpr ⟨lw_p46, List.forall_mem_cons.mpr ⟨lw_p47, fun _ h => absurd h List.not_mem_nil⟩⟩⟩⟩⟩⟩⟩⟩⟩⟩⟩⟩⟩⟩⟩⟩
theorem lw_p48 : lw_okq (⟨"SlabHeapModel", "keepLine", "(I)V"⟩, 18) := ⟨⟨by decide +kernel, by decide +kernel⟩, List.mem_of_getElem? (i := 468) (by decide +kernel), List.mem_of_getElem? (i := 630) (by decide +kernel), List.mem_of_getElem? (i := 631) (by decide +kernel)⟩
theorem lw_p49 : lw_okq (⟨"SlabHeapModel", "nothingWaits", "()V"⟩, 18) := ⟨⟨by decide +kernel, by decide +kernel⟩, List.mem_of_getElem? (i := 468) (by decide +kernel), List.mem_of_getElem? (i := 634) (by decide +kernel), List.mem_of_getElem? (i := 635) (by decide +kernel)⟩
theorem lw_p50 : lw_okq (⟨"SlabHeapModel", "look", "(I)V"⟩, 18) := ⟨⟨by decide +kernel, by decide +kernel⟩, List.mem_of_getElem? (i := 468) (by decide +kernel), List.mem_of_getElem? (i := 642) (by decide +kernel), List.mem_of_getElem? (i := 643) (by decide +kernel)⟩
theorem lw_p51 : lw_okq (⟨"SlabHeapModel", "fits", "(I)Z"⟩, 18) := ⟨⟨by decide +kernel, by decide +kernel⟩, List.mem_of_getElem? (i := 468) (by decide +kernel), List.mem_of_getElem? (i := 646) (by decide +kernel), List.mem_of_getElem? (i := 647) (by decide +kernel)⟩
theorem lw_p52 : lw_okq (⟨"SlabHeapModel", "isHead", "(I)Z"⟩, 18) := ⟨⟨by decide +kernel, by decide +kernel⟩, List.mem_of_getElem? (i := 468) (by decide +kernel), List.mem_of_getElem? (i := 650) (by decide +kernel), List.mem_of_getElem? (i := 651) (by decide +kernel)⟩
theorem lw_p53 : lw_okq (⟨"SlabHeapModel", "see", "(I)V"⟩, 18) := ⟨⟨by decide +kernel, by decide +kernel⟩, List.mem_of_getElem? (i := 468) (by decide +kernel), List.mem_of_getElem? (i := 658) (by decide +kernel), List.mem_of_getElem? (i := 659) (by decide +kernel)⟩
def lw_privs_4 : List (MethodName × Nat) := [(⟨"SlabHeapModel", "keepLine", "(I)V"⟩, 18), (⟨"SlabHeapModel", "nothingWaits", "()V"⟩, 18), (⟨"SlabHeapModel", "look", "(I)V"⟩, 18), (⟨"SlabHeapModel", "fits", "(I)Z"⟩, 18), (⟨"SlabHeapModel", "isHead", "(I)Z"⟩, 18), (⟨"SlabHeapModel", "see", "(I)V"⟩, 18)]
theorem lw_r4 : ∀ q ∈ lw_privs_4, lw_okq q := List.forall_mem_cons.mpr ⟨lw_p48, List.forall_mem_cons.mpr ⟨lw_p49, List.forall_mem_cons.mpr ⟨lw_p50, List.forall_mem_cons.mpr ⟨lw_p51, List.forall_mem_cons.mpr ⟨lw_p52, List.forall_mem_cons.mpr ⟨lw_p53, fun _ h => absurd h List.not_mem_nil⟩⟩⟩⟩⟩⟩
def lw_privs : List (MethodName × Nat) := lw_privs_1 ++ (lw_privs_2 ++ (lw_privs_3 ++ (lw_privs_4)))
def lw_tbl : List Cond := k2_sels lw_privs ++ tables_1
theorem lw_privs_ok : ∀ q ∈ lw_privs, lw_okq q := by
  show ∀ q ∈ lw_privs_1 ++ (lw_privs_2 ++ (lw_privs_3 ++ (lw_privs_4))), lw_okq q
  exact List.forall_mem_append.mpr ⟨lw_r1, List.forall_mem_append.mpr ⟨lw_r2, List.forall_mem_append.mpr ⟨lw_r3, lw_r4⟩⟩⟩
end
section
/-! ===== BEGIN words of one list among another's, by their places ===== -/
theorem goodIn_r {big : List Cond} (ws : List Cond) (ps : List Nat) (hp : ws = ps.filterMap (fun i => big[i]?)) (h : ws.all goodWord = true) : GoodIn big ws := by
  intro w hw
  have h1 := List.all_eq_true.mp h w hw
  rw [hp] at hw
  obtain ⟨i, -, hi⟩ := List.mem_filterMap.mp hw
  have hm : w ∈ big := by first | exact List.mem_of_getElem? hi | exact List.getElem?_mem hi
  exact ⟨hm, good_of_word h1⟩
theorem goodIn_app {big a b : List Cond} (ha : GoodIn big a) (hb : GoodIn big b) : GoodIn big (a ++ b) := fun w h => (List.mem_append.mp h).elim (ha w) (hb w)
theorem goodIn_ca {big a b : List Cond} {c : Cond} (ha : GoodIn big (c :: a)) (hb : GoodIn big b) : GoodIn big (c :: (a ++ b)) := fun w h => (List.mem_cons.mp h).elim (fun e => ha w (List.mem_cons.mpr (Or.inl e))) (fun h => (List.mem_append.mp h).elim (fun h => ha w (List.mem_cons.mpr (Or.inr h))) (hb w))
theorem goodIn_sub {big ws : List Cond} (hm : ∀ w ∈ ws, w ∈ big) (h : ws.all goodWord = true) : GoodIn big ws := fun w hw => ⟨hm w hw, good_of_word (List.all_eq_true.mp h w hw)⟩
/-! ===== END ===== -/

/-! ===== BEGIN printed: names, fields, word lists, decode rows ===== -/
def RX0 : String := "SlabHeap$Pages"
def TX0 : u_T := fun k => match k with
  | 0 => ("SlabHeap$Pages", "kinds", "[I", true)
  | 1 => ("SlabHeap$Pages", "forms", "[I", true)
  | 2 => ("SlabHeap$Pages", "taken", "[I", true)
  | _ => ("SlabHeap$Pages", "marks", "[I", true)
def tyX0 : Nat → FieldType := fun k => match k with
  | 0 => .array .int
  | 1 => .array .int
  | 2 => .array .int
  | _ => .array .int
abbrev wsX00 : List Cond := u_ws RX0 TX0 4
theorem nmX0 : ∀ a, a < 4 → ∀ b, b < 4 → a ≠ b → (TX0 a).2.1 ≠ (TX0 b).2.1 := by decide +kernel
theorem tyX0_ok : ∀ k, k < 4 → parseFieldDescriptor (TX0 k).2.2.1 = some (tyX0 k) := by decide +kernel
abbrev cX0_init : ByteArray := prog_2_method_1_code
def yX0_init : MethodName := ⟨RX0, "<init>", "()V"⟩
abbrev cX0_freeAll : ByteArray := prog_2_method_2_code
def yX0_freeAll : MethodName := ⟨RX0, "freeAll", "()V"⟩
abbrev cX0_kindOf : ByteArray := prog_2_method_3_code
def yX0_kindOf : MethodName := ⟨RX0, "kindOf", "(I)I"⟩
abbrev cX0_formOf : ByteArray := prog_2_method_4_code
def yX0_formOf : MethodName := ⟨RX0, "formOf", "(I)I"⟩
abbrev cX0_firstOf : ByteArray := prog_2_method_5_code
def yX0_firstOf : MethodName := ⟨RX0, "firstOf", "(I)I"⟩
abbrev cX0_blocksOn : ByteArray := prog_2_method_6_code
def yX0_blocksOn : MethodName := ⟨RX0, "blocksOn", "(I)I"⟩
abbrev cX0_slotsOf : ByteArray := prog_2_method_7_code
def yX0_slotsOf : MethodName := ⟨RX0, "slotsOf", "(I)I"⟩
abbrev cX0_blockIn : ByteArray := prog_2_method_8_code
def yX0_blockIn : MethodName := ⟨RX0, "blockIn", "(II)I"⟩
abbrev cX0_isLive : ByteArray := prog_2_method_9_code
def yX0_isLive : MethodName := ⟨RX0, "isLive", "(I)Z"⟩
abbrev cX0_blockOver : ByteArray := prog_2_method_10_code
def yX0_blockOver : MethodName := ⟨RX0, "blockOver", "(I)I"⟩
abbrev cX0_placeFor : ByteArray := prog_2_method_11_code
def yX0_placeFor : MethodName := ⟨RX0, "placeFor", "(I)I"⟩
abbrev cX0_canHold : ByteArray := prog_2_method_12_code
def yX0_canHold : MethodName := ⟨RX0, "canHold", "(II)Z"⟩
abbrev cX0_add : ByteArray := prog_2_method_13_code
def yX0_add : MethodName := ⟨RX0, "add", "(II)V"⟩
abbrev cX0_remove : ByteArray := prog_2_method_14_code
def yX0_remove : MethodName := ⟨RX0, "remove", "(I)V"⟩
abbrev cX0_clearMarks : ByteArray := prog_2_method_15_code
def yX0_clearMarks : MethodName := ⟨RX0, "clearMarks", "()V"⟩
abbrev cX0_isMarked : ByteArray := prog_2_method_16_code
def yX0_isMarked : MethodName := ⟨RX0, "isMarked", "(I)Z"⟩
abbrev cX0_mark : ByteArray := prog_2_method_17_code
def yX0_mark : MethodName := ⟨RX0, "mark", "(I)Z"⟩
abbrev cX0_howMany : ByteArray := prog_2_method_18_code
def yX0_howMany : MethodName := ⟨RX0, "howMany", "(I)I"⟩
abbrev cX0_emptySlots : ByteArray := prog_2_method_19_code
def yX0_emptySlots : MethodName := ⟨RX0, "emptySlots", "()I"⟩
abbrev cX0_freeExtents : ByteArray := prog_2_method_20_code
def yX0_freeExtents : MethodName := ⟨RX0, "freeExtents", "(I)I"⟩
abbrev cX0_extentFor : ByteArray := prog_2_method_21_code
def yX0_extentFor : MethodName := ⟨RX0, "extentFor", "(I)I"⟩
abbrev cX0_pageOf : ByteArray := prog_2_method_22_code
def yX0_pageOf : MethodName := ⟨RX0, "pageOf", "(I)I"⟩
abbrev cX0_alignedTo : ByteArray := prog_2_method_23_code
def yX0_alignedTo : MethodName := ⟨RX0, "alignedTo", "(II)I"⟩
abbrev cX0_slotBy : ByteArray := prog_2_method_24_code
def yX0_slotBy : MethodName := ⟨RX0, "slotBy", "(II)I"⟩
abbrev cX0_stepOf : ByteArray := prog_2_method_25_code
def yX0_stepOf : MethodName := ⟨RX0, "stepOf", "(I)I"⟩
abbrev cX0_slotAt : ByteArray := prog_2_method_26_code
def yX0_slotAt : MethodName := ⟨RX0, "slotAt", "(I)I"⟩
abbrev cX0_isTaken : ByteArray := prog_2_method_27_code
def yX0_isTaken : MethodName := ⟨RX0, "isTaken", "(II)Z"⟩
abbrev cX0_isSlabOf : ByteArray := prog_2_method_28_code
def yX0_isSlabOf : MethodName := ⟨RX0, "isSlabOf", "(II)Z"⟩
abbrev cX0_emptySlot : ByteArray := prog_2_method_29_code
def yX0_emptySlot : MethodName := ⟨RX0, "emptySlot", "(I)I"⟩
abbrev cX0_lay : ByteArray := prog_2_method_30_code
def yX0_lay : MethodName := ⟨RX0, "lay", "(III)V"⟩
abbrev cX0_layExtent : ByteArray := prog_2_method_31_code
def yX0_layExtent : MethodName := ⟨RX0, "layExtent", "(II)V"⟩
abbrev cX0_isFreeRun : ByteArray := prog_2_method_32_code
def yX0_isFreeRun : MethodName := ⟨RX0, "isFreeRun", "(II)Z"⟩
abbrev cX0_isFreeExtent : ByteArray := prog_2_method_33_code
def yX0_isFreeExtent : MethodName := ⟨RX0, "isFreeExtent", "(II)Z"⟩
abbrev cX0_freeOrderAt : ByteArray := prog_2_method_34_code
def yX0_freeOrderAt : MethodName := ⟨RX0, "freeOrderAt", "(I)I"⟩
def RX1 : String := "SlabHeap$Words"
def TX1 : u_T := fun k => match k with
  | 0 => ("SlabHeap$Words", "now", "[I", true)
  | 1 => ("SlabHeap$Words", "kept", "[I", true)
  | 2 => ("SlabHeap$Words", "queue", "[I", true)
  | 3 => ("SlabHeap$Words", "queued", "[Z", true)
  | _ => ("SlabHeap$Words", "queueLength", "I", false)
def tyX1 : Nat → FieldType := fun k => match k with
  | 0 => .array .int
  | 1 => .array .int
  | 2 => .array .int
  | 3 => .array .boolean
  | _ => .int
abbrev wsX10 : List Cond := u_ws RX1 TX1 5
theorem nmX1 : ∀ a, a < 5 → ∀ b, b < 5 → a ≠ b → (TX1 a).2.1 ≠ (TX1 b).2.1 := by decide +kernel
theorem tyX1_ok : ∀ k, k < 5 → parseFieldDescriptor (TX1 k).2.2.1 = some (tyX1 k) := by decide +kernel
abbrev cX1_init : ByteArray := prog_3_method_1_code
def yX1_init : MethodName := ⟨RX1, "<init>", "()V"⟩
abbrev cX1_at : ByteArray := prog_3_method_2_code
def yX1_at : MethodName := ⟨RX1, "at", "(I)I"⟩
abbrev cX1_keptAt : ByteArray := prog_3_method_3_code
def yX1_keptAt : MethodName := ⟨RX1, "keptAt", "(I)I"⟩
abbrev cX1_waiting : ByteArray := prog_3_method_4_code
def yX1_waiting : MethodName := ⟨RX1, "waiting", "()I"⟩
abbrev cX1_lineAt : ByteArray := prog_3_method_5_code
def yX1_lineAt : MethodName := ⟨RX1, "lineAt", "(I)I"⟩
abbrev cX1_write : ByteArray := prog_3_method_6_code
def yX1_write : MethodName := ⟨RX1, "write", "(II)V"⟩
abbrev cX1_keepAll : ByteArray := prog_3_method_7_code
def yX1_keepAll : MethodName := ⟨RX1, "keepAll", "()I"⟩
abbrev cX1_keepSome : ByteArray := prog_3_method_8_code
def yX1_keepSome : MethodName := ⟨RX1, "keepSome", "(I)V"⟩
abbrev cX1_settleLine : ByteArray := prog_3_method_9_code
def yX1_settleLine : MethodName := ⟨RX1, "settleLine", "(I[I[I)V"⟩
def RX2 : String := "SlabHeap"
def TX2 : u_T := fun k => match k with
  | 0 => ("SlabHeap", "words", "LSlabHeap$Words;", true)
  | 1 => ("SlabHeap", "pages", "LSlabHeap$Pages;", true)
  | 2 => ("SlabHeap", "row", "[I", true)
  | 3 => ("SlabHeap", "found", "I", false)
  | 4 => ("SlabHeap", "cleared", "I", false)
  | 5 => ("SlabHeap", "crashes", "I", false)
  | _ => ("SlabHeap", "latestTrouble", "I", false)
def tyX2 : Nat → FieldType := fun k => match k with
  | 0 => .object "SlabHeap$Words"
  | 1 => .object "SlabHeap$Pages"
  | 2 => .array .int
  | 3 => .int
  | 4 => .int
  | 5 => .int
  | _ => .int
abbrev wsX20 : List Cond := u_ws RX2 TX2 7
theorem nmX2 : ∀ a, a < 7 → ∀ b, b < 7 → a ≠ b → (TX2 a).2.1 ≠ (TX2 b).2.1 := by decide +kernel
theorem tyX2_ok : ∀ k, k < 7 → parseFieldDescriptor (TX2 k).2.2.1 = some (tyX2 k) := by decide +kernel
abbrev cX2_init : ByteArray := prog_1_method_1_code
def yX2_init : MethodName := ⟨RX2, "<init>", "()V"⟩
abbrev cX2_alloc : ByteArray := prog_1_method_2_code
def yX2_alloc : MethodName := ⟨RX2, "alloc", "(II)I"⟩
abbrev cX2_free : ByteArray := prog_1_method_3_code
def yX2_free : MethodName := ⟨RX2, "free", "(I)I"⟩
abbrev cX2_put : ByteArray := prog_1_method_4_code
def yX2_put : MethodName := ⟨RX2, "put", "(III)Z"⟩
abbrev cX2_refer : ByteArray := prog_1_method_5_code
def yX2_refer : MethodName := ⟨RX2, "refer", "(III)Z"⟩
abbrev cX2_get : ByteArray := prog_1_method_6_code
def yX2_get : MethodName := ⟨RX2, "get", "(II)I"⟩
abbrev cX2_root : ByteArray := prog_1_method_7_code
def yX2_root : MethodName := ⟨RX2, "root", "(II)Z"⟩
abbrev cX2_rootOf : ByteArray := prog_1_method_8_code
def yX2_rootOf : MethodName := ⟨RX2, "rootOf", "(I)I"⟩
abbrev cX2_fence : ByteArray := prog_1_method_9_code
def yX2_fence : MethodName := ⟨RX2, "fence", "()I"⟩
abbrev cX2_crash : ByteArray := prog_1_method_10_code
def yX2_crash : MethodName := ⟨RX2, "crash", "(I)I"⟩
abbrev cX2_collect : ByteArray := prog_1_method_11_code
def yX2_collect : MethodName := ⟨RX2, "collect", "()I"⟩
abbrev cX2_word : ByteArray := prog_1_method_12_code
def yX2_word : MethodName := ⟨RX2, "word", "(IZ)I"⟩
abbrev cX2_scribble : ByteArray := prog_1_method_13_code
def yX2_scribble : MethodName := ⟨RX2, "scribble", "(II)Z"⟩
abbrev cX2_block : ByteArray := prog_1_method_14_code
def yX2_block : MethodName := ⟨RX2, "block", "(II)I"⟩
abbrev cX2_live : ByteArray := prog_1_method_15_code
def yX2_live : MethodName := ⟨RX2, "live", "(I)I"⟩
abbrev cX2_page : ByteArray := prog_1_method_16_code
def yX2_page : MethodName := ⟨RX2, "page", "(II)I"⟩
abbrev cX2_extents : ByteArray := prog_1_method_17_code
def yX2_extents : MethodName := ⟨RX2, "extents", "(I)I"⟩
abbrev cX2_next : ByteArray := prog_1_method_18_code
def yX2_next : MethodName := ⟨RX2, "next", "(I)I"⟩
abbrev cX2_count : ByteArray := prog_1_method_19_code
def yX2_count : MethodName := ⟨RX2, "count", "(I)I"⟩
abbrev cX2_head : ByteArray := prog_1_method_20_code
def yX2_head : MethodName := ⟨RX2, "head", "(III)I"⟩
abbrev cX2_waits : ByteArray := prog_1_method_21_code
def yX2_waits : MethodName := ⟨RX2, "waits", "(I)I"⟩
abbrev cX2_trouble : ByteArray := prog_1_method_22_code
def yX2_trouble : MethodName := ⟨RX2, "trouble", "()I"⟩
abbrev cX2_settle : ByteArray := prog_1_method_23_code
def yX2_settle : MethodName := ⟨RX2, "settle", "(I)Z"⟩
abbrev cX2_answer : ByteArray := prog_1_method_24_code
def yX2_answer : MethodName := ⟨RX2, "answer", "(II)I"⟩
abbrev cX2_isWord : ByteArray := prog_1_method_25_code
def yX2_isWord : MethodName := ⟨RX2, "isWord", "(I)Z"⟩
abbrev cX2_isPage : ByteArray := prog_1_method_26_code
def yX2_isPage : MethodName := ⟨RX2, "isPage", "(I)Z"⟩
abbrev cX2_isOrder : ByteArray := prog_1_method_27_code
def yX2_isOrder : MethodName := ⟨RX2, "isOrder", "(I)Z"⟩
abbrev cX2_isRoot : ByteArray := prog_1_method_28_code
def yX2_isRoot : MethodName := ⟨RX2, "isRoot", "(I)Z"⟩
abbrev cX2_isShape : ByteArray := prog_1_method_29_code
def yX2_isShape : MethodName := ⟨RX2, "isShape", "(II)Z"⟩
abbrev cX2_wordOf : ByteArray := prog_1_method_30_code
def yX2_wordOf : MethodName := ⟨RX2, "wordOf", "(II)I"⟩
abbrev cX2_headOf : ByteArray := prog_1_method_31_code
def yX2_headOf : MethodName := ⟨RX2, "headOf", "(III)I"⟩
abbrev cX2_sizeIn : ByteArray := prog_1_method_32_code
def yX2_sizeIn : MethodName := ⟨RX2, "sizeIn", "(I)I"⟩
abbrev cX2_refsIn : ByteArray := prog_1_method_33_code
def yX2_refsIn : MethodName := ⟨RX2, "refsIn", "(I)I"⟩
abbrev cX2_classFor : ByteArray := prog_1_method_34_code
def yX2_classFor : MethodName := ⟨RX2, "classFor", "(I)I"⟩
abbrev cX2_orderFor : ByteArray := prog_1_method_35_code
def yX2_orderFor : MethodName := ⟨RX2, "orderFor", "(I)I"⟩
abbrev cX2_sizeOf : ByteArray := prog_1_method_36_code
def yX2_sizeOf : MethodName := ⟨RX2, "sizeOf", "(I)I"⟩
abbrev cX2_refsOf : ByteArray := prog_1_method_37_code
def yX2_refsOf : MethodName := ⟨RX2, "refsOf", "(I)I"⟩
abbrev cX2_lengthOf : ByteArray := prog_1_method_38_code
def yX2_lengthOf : MethodName := ⟨RX2, "lengthOf", "(I)I"⟩
abbrev cX2_hasWord : ByteArray := prog_1_method_39_code
def yX2_hasWord : MethodName := ⟨RX2, "hasWord", "(II)Z"⟩
abbrev cX2_isTarget : ByteArray := prog_1_method_40_code
def yX2_isTarget : MethodName := ⟨RX2, "isTarget", "(I)Z"⟩
abbrev cX2_isOfBlock : ByteArray := prog_1_method_41_code
def yX2_isOfBlock : MethodName := ⟨RX2, "isOfBlock", "(I)Z"⟩
abbrev cX2_rowAt : ByteArray := prog_1_method_42_code
def yX2_rowAt : MethodName := ⟨RX2, "rowAt", "(I)I"⟩
abbrev cX2_listLive : ByteArray := prog_1_method_43_code
def yX2_listLive : MethodName := ⟨RX2, "listLive", "()I"⟩
abbrev cX2_liveWords : ByteArray := prog_1_method_44_code
def yX2_liveWords : MethodName := ⟨RX2, "liveWords", "()I"⟩
abbrev cX2_leadsTo : ByteArray := prog_1_method_45_code
def yX2_leadsTo : MethodName := ⟨RX2, "leadsTo", "(I)I"⟩
abbrev cX2_equalWords : ByteArray := prog_1_method_46_code
def yX2_equalWords : MethodName := ⟨RX2, "equalWords", "(III)I"⟩
abbrev cX2_release : ByteArray := prog_1_method_47_code
def yX2_release : MethodName := ⟨RX2, "release", "(I)V"⟩
abbrev cX2_addFound : ByteArray := prog_1_method_48_code
def yX2_addFound : MethodName := ⟨RX2, "addFound", "(I)V"⟩
abbrev cX2_markReached : ByteArray := prog_1_method_49_code
def yX2_markReached : MethodName := ⟨RX2, "markReached", "()V"⟩
abbrev cX2_markFrom : ByteArray := prog_1_method_50_code
def yX2_markFrom : MethodName := ⟨RX2, "markFrom", "(II)V"⟩
abbrev cX2_recover : ByteArray := prog_1_method_51_code
def yX2_recover : MethodName := ⟨RX2, "recover", "()V"⟩
abbrev cX2_reviveFrom : ByteArray := prog_1_method_52_code
def yX2_reviveFrom : MethodName := ⟨RX2, "reviveFrom", "(II)V"⟩
abbrev cX2_canRevive : ByteArray := prog_1_method_53_code
def yX2_canRevive : MethodName := ⟨RX2, "canRevive", "(I)Z"⟩
def RX3 : String := "SlabHeapModel"
def TX3 : u_T := fun k => match k with
  | 0 => ("SlabHeapModel", "words", "[I", true)
  | 1 => ("SlabHeapModel", "kept", "[I", true)
  | 2 => ("SlabHeapModel", "isLive", "[Z", true)
  | 3 => ("SlabHeapModel", "isWaiting", "[Z", true)
  | 4 => ("SlabHeapModel", "waiting", "[I", true)
  | 5 => ("SlabHeapModel", "waits", "I", false)
  | 6 => ("SlabHeapModel", "trouble", "I", false)
  | 7 => ("SlabHeapModel", "cleared", "I", false)
  | 8 => ("SlabHeapModel", "crashes", "I", false)
  | 9 => ("SlabHeapModel", "thrown", "I", false)
  | 10 => ("SlabHeapModel", "kind", "[I", true)
  | 11 => ("SlabHeapModel", "sort", "[I", true)
  | 12 => ("SlabHeapModel", "first", "[I", true)
  | 13 => ("SlabHeapModel", "blocks", "[I", true)
  | 14 => ("SlabHeapModel", "free", "[I", true)
  | 15 => ("SlabHeapModel", "found", "[I", true)
  | 16 => ("SlabHeapModel", "foundMany", "I", false)
  | _ => ("SlabHeapModel", "isSeen", "[Z", true)
def tyX3 : Nat → FieldType := fun k => match k with
  | 0 => .array .int
  | 1 => .array .int
  | 2 => .array .boolean
  | 3 => .array .boolean
  | 4 => .array .int
  | 5 => .int
  | 6 => .int
  | 7 => .int
  | 8 => .int
  | 9 => .int
  | 10 => .array .int
  | 11 => .array .int
  | 12 => .array .int
  | 13 => .array .int
  | 14 => .array .int
  | 15 => .array .int
  | 16 => .int
  | _ => .array .boolean
abbrev wsX30 : List Cond := u_ws RX3 TX3 18
theorem nmX3 : ∀ a, a < 18 → ∀ b, b < 18 → a ≠ b → (TX3 a).2.1 ≠ (TX3 b).2.1 := by decide +kernel
theorem tyX3_ok : ∀ k, k < 18 → parseFieldDescriptor (TX3 k).2.2.1 = some (tyX3 k) := by decide +kernel
abbrev cX3_init : ByteArray := prog_5_method_1_code
def yX3_init : MethodName := ⟨RX3, "<init>", "()V"⟩
abbrev cX3_no : ByteArray := prog_5_method_3_code
def yX3_no : MethodName := ⟨RX3, "no", "(I)I"⟩
abbrev cX3_not : ByteArray := prog_5_method_4_code
def yX3_not : MethodName := ⟨RX3, "not", "(I)Z"⟩
abbrev cX3_is : ByteArray := prog_5_method_5_code
def yX3_is : MethodName := ⟨RX3, "is", "(III)Z"⟩
abbrev cX3_write : ByteArray := prog_5_method_6_code
def yX3_write : MethodName := ⟨RX3, "write", "(II)V"⟩
abbrev cX3_headOf : ByteArray := prog_5_method_7_code
def yX3_headOf : MethodName := ⟨RX3, "headOf", "(III)I"⟩
abbrev cX3_sizeAt : ByteArray := prog_5_method_8_code
def yX3_sizeAt : MethodName := ⟨RX3, "sizeAt", "(I)I"⟩
abbrev cX3_refsAt : ByteArray := prog_5_method_9_code
def yX3_refsAt : MethodName := ⟨RX3, "refsAt", "(I)I"⟩
abbrev cX3_isHead : ByteArray := prog_5_method_10_code
def yX3_isHead : MethodName := ⟨RX3, "isHead", "(I)Z"⟩
abbrev cX3_classOf : ByteArray := prog_5_method_11_code
def yX3_classOf : MethodName := ⟨RX3, "classOf", "(I)I"⟩
abbrev cX3_orderOf : ByteArray := prog_5_method_12_code
def yX3_orderOf : MethodName := ⟨RX3, "orderOf", "(I)I"⟩
abbrev cX3_isBlock : ByteArray := prog_5_method_13_code
def yX3_isBlock : MethodName := ⟨RX3, "isBlock", "(I)Z"⟩
abbrev cX3_map : ByteArray := prog_5_method_14_code
def yX3_map : MethodName := ⟨RX3, "map", "()V"⟩
abbrev cX3_areFree : ByteArray := prog_5_method_15_code
def yX3_areFree : MethodName := ⟨RX3, "areFree", "(II)Z"⟩
abbrev cX3_taken : ByteArray := prog_5_method_16_code
def yX3_taken : MethodName := ⟨RX3, "taken", "(I)I"⟩
abbrev cX3_slots : ByteArray := prog_5_method_17_code
def yX3_slots : MethodName := ⟨RX3, "slots", "(I)I"⟩
abbrev cX3_placeFor : ByteArray := prog_5_method_18_code
def yX3_placeFor : MethodName := ⟨RX3, "placeFor", "(I)I"⟩
abbrev cX3_alloc : ByteArray := prog_5_method_19_code
def yX3_alloc : MethodName := ⟨RX3, "alloc", "(II)I"⟩
abbrev cX3_leading : ByteArray := prog_5_method_20_code
def yX3_leading : MethodName := ⟨RX3, "leading", "(I)I"⟩
abbrev cX3_freed : ByteArray := prog_5_method_21_code
def yX3_freed : MethodName := ⟨RX3, "freed", "(I)I"⟩
abbrev cX3_free : ByteArray := prog_5_method_22_code
def yX3_free : MethodName := ⟨RX3, "free", "(I)I"⟩
abbrev cX3_put : ByteArray := prog_5_method_23_code
def yX3_put : MethodName := ⟨RX3, "put", "(III)Z"⟩
abbrev cX3_refer : ByteArray := prog_5_method_24_code
def yX3_refer : MethodName := ⟨RX3, "refer", "(III)Z"⟩
abbrev cX3_get : ByteArray := prog_5_method_25_code
def yX3_get : MethodName := ⟨RX3, "get", "(II)I"⟩
abbrev cX3_root : ByteArray := prog_5_method_26_code
def yX3_root : MethodName := ⟨RX3, "root", "(II)Z"⟩
abbrev cX3_rootOf : ByteArray := prog_5_method_27_code
def yX3_rootOf : MethodName := ⟨RX3, "rootOf", "(I)I"⟩
abbrev cX3_keepLine : ByteArray := prog_5_method_28_code
def yX3_keepLine : MethodName := ⟨RX3, "keepLine", "(I)V"⟩
abbrev cX3_nothingWaits : ByteArray := prog_5_method_29_code
def yX3_nothingWaits : MethodName := ⟨RX3, "nothingWaits", "()V"⟩
abbrev cX3_fence : ByteArray := prog_5_method_30_code
def yX3_fence : MethodName := ⟨RX3, "fence", "()I"⟩
abbrev cX3_crash : ByteArray := prog_5_method_31_code
def yX3_crash : MethodName := ⟨RX3, "crash", "(I)I"⟩
abbrev cX3_look : ByteArray := prog_5_method_32_code
def yX3_look : MethodName := ⟨RX3, "look", "(I)V"⟩
abbrev cX3_fits : ByteArray := prog_5_method_33_code
def yX3_fits : MethodName := ⟨RX3, "fits", "(I)Z"⟩
abbrev cX3_collect : ByteArray := prog_5_method_34_code
def yX3_collect : MethodName := ⟨RX3, "collect", "()I"⟩
abbrev cX3_see : ByteArray := prog_5_method_35_code
def yX3_see : MethodName := ⟨RX3, "see", "(I)V"⟩
abbrev cX3_word : ByteArray := prog_5_method_36_code
def yX3_word : MethodName := ⟨RX3, "word", "(IZ)I"⟩
abbrev cX3_scribble : ByteArray := prog_5_method_37_code
def yX3_scribble : MethodName := ⟨RX3, "scribble", "(II)Z"⟩
abbrev cX3_block : ByteArray := prog_5_method_38_code
def yX3_block : MethodName := ⟨RX3, "block", "(II)I"⟩
abbrev cX3_live : ByteArray := prog_5_method_39_code
def yX3_live : MethodName := ⟨RX3, "live", "(I)I"⟩
abbrev cX3_page : ByteArray := prog_5_method_40_code
def yX3_page : MethodName := ⟨RX3, "page", "(II)I"⟩
abbrev cX3_extents : ByteArray := prog_5_method_41_code
def yX3_extents : MethodName := ⟨RX3, "extents", "(I)I"⟩
abbrev cX3_next : ByteArray := prog_5_method_42_code
def yX3_next : MethodName := ⟨RX3, "next", "(I)I"⟩
abbrev cX3_count : ByteArray := prog_5_method_43_code
def yX3_count : MethodName := ⟨RX3, "count", "(I)I"⟩
abbrev cX3_head : ByteArray := prog_5_method_44_code
def yX3_head : MethodName := ⟨RX3, "head", "(III)I"⟩
abbrev cX3_waits : ByteArray := prog_5_method_45_code
def yX3_waits : MethodName := ⟨RX3, "waits", "(I)I"⟩
abbrev cX3_trouble : ByteArray := prog_5_method_46_code
def yX3_trouble : MethodName := ⟨RX3, "trouble", "()I"⟩
def RJ6 : String := "java/lang/Integer"
def TJ6 : u_T := fun k => match k with
  | _ => ("", "", "", false)
def tyJ6 : Nat → FieldType := fun k => match k with
  | _ => .int
abbrev wsJ60 : List Cond := u_ws RJ6 TJ6 0
theorem nmJ6 : ∀ a, a < 0 → ∀ b, b < 0 → a ≠ b → (TJ6 a).2.1 ≠ (TJ6 b).2.1 := by decide +kernel
theorem tyJ6_ok : ∀ k, k < 0 → parseFieldDescriptor (TJ6 k).2.2.1 = some (tyJ6 k) := by decide +kernel
abbrev cJ6_bitCount_0f7a4 : ByteArray := prog_6_method_49_code
def yJ6_bitCount_0f7a4 : MethodName := ⟨RJ6, "bitCount", "(I)I"⟩
def RJ9 : String := "java/lang/Math"
def TJ9 : u_T := fun k => match k with
  | _ => ("", "", "", false)
def tyJ9 : Nat → FieldType := fun k => match k with
  | _ => .int
abbrev wsJ90 : List Cond := u_ws RJ9 TJ9 0
theorem nmJ9 : ∀ a, a < 0 → ∀ b, b < 0 → a ≠ b → (TJ9 a).2.1 ≠ (TJ9 b).2.1 := by decide +kernel
theorem tyJ9_ok : ∀ k, k < 0 → parseFieldDescriptor (TJ9 k).2.2.1 = some (tyJ9 k) := by decide +kernel
abbrev cJ9_floorMod_7cf53 : ByteArray := prog_7_method_50_code
def yJ9_floorMod_7cf53 : MethodName := ⟨RJ9, "floorMod", "(II)I"⟩
def RJ7 : String := "java/util/Arrays"
def TJ7 : u_T := fun k => match k with
  | _ => ("", "", "", false)
def tyJ7 : Nat → FieldType := fun k => match k with
  | _ => .int
abbrev wsJ70 : List Cond := u_ws RJ7 TJ7 0
theorem nmJ7 : ∀ a, a < 0 → ∀ b, b < 0 → a ≠ b → (TJ7 a).2.1 ≠ (TJ7 b).2.1 := by decide +kernel
theorem tyJ7_ok : ∀ k, k < 0 → parseFieldDescriptor (TJ7 k).2.2.1 = some (tyJ7 k) := by decide +kernel
abbrev cJ7_fill_53178 : ByteArray := prog_8_method_103_code
def yJ7_fill_53178 : MethodName := ⟨RJ7, "fill", "([II)V"⟩
def RL : String := "SlabHeapLaw"
abbrev cL_law : ByteArray := code
def yL_law : MethodName := ⟨RL, "law", "([I)Z"⟩
def wsX0_init : List Cond := .code yX0_init cX0_init 1 none :: ([.methodLink RX0 3 objectInit, .instanceMethod objectInit, .code objectInit ⟨#[0xb1]⟩ 1 none, .arrayClass .int, .fieldLink RX0 9 "SlabHeap$Pages" "kinds" "[I", .fieldLink RX0 15 "SlabHeap$Pages" "forms" "[I", .fieldLink RX0 18 "SlabHeap$Pages" "taken" "[I", .fieldLink RX0 21 "SlabHeap$Pages" "marks" "[I"] ++ wsX00)
def wsJ7_fill_53178 : List Cond := .code yJ7_fill_53178 cJ7_fill_53178 4 none :: ([])
def wsX0_freeAll : List Cond := .code yX0_freeAll cX0_freeAll 1 none :: ([.fieldLink RX0 9 "SlabHeap$Pages" "kinds" "[I", .fieldLink RX0 18 "SlabHeap$Pages" "taken" "[I", .methodLink RX0 24 yJ7_fill_53178, .static yJ7_fill_53178, .initialized RJ7, .code yJ7_fill_53178 cJ7_fill_53178 4 none] ++ wsX00)
def wsX0_kindOf : List Cond := .code yX0_kindOf cX0_kindOf 2 (some .int) :: ([.fieldLink RX0 9 "SlabHeap$Pages" "kinds" "[I"] ++ wsX00)
def wsX2_isPage : List Cond := .code yX2_isPage cX2_isPage 1 (some .boolean) :: ([])
def wsX2_isOrder : List Cond := .code yX2_isOrder cX2_isOrder 1 (some .boolean) :: ([])
def wsX0_alignedTo : List Cond := .code yX0_alignedTo cX0_alignedTo 2 (some .int) :: ([.static yX2_isOrder, .initialized RX2, .code yX2_isOrder cX2_isOrder 1 (some .boolean)])
def wsX0_isFreeRun : List Cond := .code yX0_isFreeRun cX0_isFreeRun 5 (some .boolean) :: ([.static yX2_isOrder, .initialized RX2, .code yX2_isOrder cX2_isOrder 1 (some .boolean), .methodLink RX0 38 yX0_kindOf, .instanceMethod yX0_kindOf, .selects RX0 yX0_kindOf yX0_kindOf, .initialized RX0, .code yX0_kindOf cX0_kindOf 2 (some .int), .fieldLink RX0 9 "SlabHeap$Pages" "kinds" "[I"] ++ wsX00)
def wsX0_isFreeExtent : List Cond := .code yX0_isFreeExtent cX0_isFreeExtent 3 (some .boolean) :: ([.methodLink RX0 87 yX0_isFreeRun, .instanceMethod yX0_isFreeRun, .selects RX0 yX0_isFreeRun yX0_isFreeRun, .initialized RX0, .code yX0_isFreeRun cX0_isFreeRun 5 (some .boolean), .static yX2_isOrder, .initialized RX2, .code yX2_isOrder cX2_isOrder 1 (some .boolean), .methodLink RX0 38 yX0_kindOf, .instanceMethod yX0_kindOf, .selects RX0 yX0_kindOf yX0_kindOf, .code yX0_kindOf cX0_kindOf 2 (some .int), .fieldLink RX0 9 "SlabHeap$Pages" "kinds" "[I", .methodLink RX0 44 yX0_alignedTo, .static yX0_alignedTo, .code yX0_alignedTo cX0_alignedTo 2 (some .int)] ++ wsX00)
def wsX0_freeOrderAt : List Cond := .code yX0_freeOrderAt cX0_freeOrderAt 3 (some .int) :: ([.methodLink RX0 44 yX0_alignedTo, .static yX0_alignedTo, .initialized RX0, .code yX0_alignedTo cX0_alignedTo 2 (some .int), .static yX2_isOrder, .initialized RX2, .code yX2_isOrder cX2_isOrder 1 (some .boolean), .methodLink RX0 113 yX0_isFreeExtent, .instanceMethod yX0_isFreeExtent, .selects RX0 yX0_isFreeExtent yX0_isFreeExtent, .code yX0_isFreeExtent cX0_isFreeExtent 3 (some .boolean), .methodLink RX0 87 yX0_isFreeRun, .instanceMethod yX0_isFreeRun, .selects RX0 yX0_isFreeRun yX0_isFreeRun, .code yX0_isFreeRun cX0_isFreeRun 5 (some .boolean), .methodLink RX0 38 yX0_kindOf, .instanceMethod yX0_kindOf, .selects RX0 yX0_kindOf yX0_kindOf, .code yX0_kindOf cX0_kindOf 2 (some .int), .fieldLink RX0 9 "SlabHeap$Pages" "kinds" "[I"] ++ wsX00)
def wsX0_formOf_r1 : List Cond := [Cond.fieldLink RX0 9 "SlabHeap$Pages" "kinds" "[I", Cond.fieldLink RX0 15 "SlabHeap$Pages" "forms" "[I", Cond.static yX2_isPage, Cond.initialized RX2, Cond.code yX2_isPage cX2_isPage 1 (some .boolean), Cond.methodLink RX0 34 yX0_freeOrderAt, Cond.instanceMethod yX0_freeOrderAt, Cond.selects RX0 yX0_freeOrderAt yX0_freeOrderAt, Cond.initialized RX0, Cond.code yX0_freeOrderAt cX0_freeOrderAt 3 (some .int), Cond.methodLink RX0 44 yX0_alignedTo, Cond.static yX0_alignedTo, Cond.code yX0_alignedTo cX0_alignedTo 2 (some .int), Cond.static yX2_isOrder, Cond.code yX2_isOrder cX2_isOrder 1 (some .boolean), Cond.methodLink RX0 113 yX0_isFreeExtent, Cond.instanceMethod yX0_isFreeExtent, Cond.selects RX0 yX0_isFreeExtent yX0_isFreeExtent, Cond.code yX0_isFreeExtent cX0_isFreeExtent 3 (some .boolean), Cond.methodLink RX0 87 yX0_isFreeRun, Cond.instanceMethod yX0_isFreeRun, Cond.selects RX0 yX0_isFreeRun yX0_isFreeRun, Cond.code yX0_isFreeRun cX0_isFreeRun 5 (some .boolean), Cond.methodLink RX0 38 yX0_kindOf]
def wsX0_formOf_r2 : List Cond := [Cond.instanceMethod yX0_kindOf, Cond.selects RX0 yX0_kindOf yX0_kindOf, Cond.code yX0_kindOf cX0_kindOf 2 (some .int)]
def wsX0_formOf : List Cond := .code yX0_formOf cX0_formOf 2 (some .int) :: ((wsX0_formOf_r1 ++ wsX0_formOf_r2) ++ wsX00)
def wsX0_firstOf_r1 : List Cond := [Cond.methodLink RX0 38 yX0_kindOf, Cond.instanceMethod yX0_kindOf, Cond.selects RX0 yX0_kindOf yX0_kindOf, Cond.initialized RX0, Cond.code yX0_kindOf cX0_kindOf 2 (some .int), Cond.fieldLink RX0 9 "SlabHeap$Pages" "kinds" "[I", Cond.methodLink RX0 41 yX0_formOf, Cond.instanceMethod yX0_formOf, Cond.selects RX0 yX0_formOf yX0_formOf, Cond.code yX0_formOf cX0_formOf 2 (some .int), Cond.fieldLink RX0 15 "SlabHeap$Pages" "forms" "[I", Cond.static yX2_isPage, Cond.initialized RX2, Cond.code yX2_isPage cX2_isPage 1 (some .boolean), Cond.methodLink RX0 34 yX0_freeOrderAt, Cond.instanceMethod yX0_freeOrderAt, Cond.selects RX0 yX0_freeOrderAt yX0_freeOrderAt, Cond.code yX0_freeOrderAt cX0_freeOrderAt 3 (some .int), Cond.methodLink RX0 44 yX0_alignedTo, Cond.static yX0_alignedTo, Cond.code yX0_alignedTo cX0_alignedTo 2 (some .int), Cond.static yX2_isOrder, Cond.code yX2_isOrder cX2_isOrder 1 (some .boolean), Cond.methodLink RX0 113 yX0_isFreeExtent]
def wsX0_firstOf_r2 : List Cond := [Cond.instanceMethod yX0_isFreeExtent, Cond.selects RX0 yX0_isFreeExtent yX0_isFreeExtent, Cond.code yX0_isFreeExtent cX0_isFreeExtent 3 (some .boolean), Cond.methodLink RX0 87 yX0_isFreeRun, Cond.instanceMethod yX0_isFreeRun, Cond.selects RX0 yX0_isFreeRun yX0_isFreeRun, Cond.code yX0_isFreeRun cX0_isFreeRun 5 (some .boolean)]
def wsX0_firstOf : List Cond := .code yX0_firstOf cX0_firstOf 4 (some .int) :: ((wsX0_firstOf_r1 ++ wsX0_firstOf_r2) ++ wsX00)
def wsJ6_bitCount_0f7a4 : List Cond := .code yJ6_bitCount_0f7a4 cJ6_bitCount_0f7a4 1 (some .int) :: ([.constant RJ6 265 (1431655765), .constant RJ6 266 (858993459), .constant RJ6 267 (252645135)])
def wsX0_blocksOn : List Cond := .code yX0_blocksOn cX0_blocksOn 2 (some .int) :: ([.fieldLink RX0 18 "SlabHeap$Pages" "taken" "[I", .static yX2_isPage, .initialized RX2, .code yX2_isPage cX2_isPage 1 (some .boolean), .methodLink RX0 48 yJ6_bitCount_0f7a4, .static yJ6_bitCount_0f7a4, .initialized RJ6, .code yJ6_bitCount_0f7a4 cJ6_bitCount_0f7a4 1 (some .int), .constant RJ6 265 (1431655765), .constant RJ6 266 (858993459), .constant RJ6 267 (252645135)] ++ wsX00)
def wsX0_stepOf : List Cond := .code yX0_stepOf cX0_stepOf 2 (some .int) :: ([.fieldLink RX0 9 "SlabHeap$Pages" "kinds" "[I", .fieldLink RX0 15 "SlabHeap$Pages" "forms" "[I"] ++ wsX00)
def wsX0_slotsOf : List Cond := .code yX0_slotsOf cX0_slotsOf 3 (some .int) :: ([.methodLink RX0 53 yX0_stepOf, .instanceMethod yX0_stepOf, .selects RX0 yX0_stepOf yX0_stepOf, .initialized RX0, .code yX0_stepOf cX0_stepOf 2 (some .int), .fieldLink RX0 9 "SlabHeap$Pages" "kinds" "[I", .fieldLink RX0 15 "SlabHeap$Pages" "forms" "[I"] ++ wsX00)
def wsX0_isTaken : List Cond := .code yX0_isTaken cX0_isTaken 3 (some .boolean) :: ([.fieldLink RX0 18 "SlabHeap$Pages" "taken" "[I"] ++ wsX00)
def wsX0_blockIn : List Cond := .code yX0_blockIn cX0_blockIn 3 (some .int) :: ([.methodLink RX0 56 yX0_isTaken, .instanceMethod yX0_isTaken, .selects RX0 yX0_isTaken yX0_isTaken, .initialized RX0, .code yX0_isTaken cX0_isTaken 3 (some .boolean), .fieldLink RX0 18 "SlabHeap$Pages" "taken" "[I", .methodLink RX0 53 yX0_stepOf, .instanceMethod yX0_stepOf, .selects RX0 yX0_stepOf yX0_stepOf, .code yX0_stepOf cX0_stepOf 2 (some .int), .fieldLink RX0 9 "SlabHeap$Pages" "kinds" "[I", .fieldLink RX0 15 "SlabHeap$Pages" "forms" "[I"] ++ wsX00)
def wsX0_pageOf : List Cond := .code yX0_pageOf cX0_pageOf 1 (some .int) :: ([])
def wsX0_slotBy : List Cond := .code yX0_slotBy cX0_slotBy 3 (some .int) :: ([])
def wsX0_slotAt : List Cond := .code yX0_slotAt cX0_slotAt 2 (some .int) :: ([.methodLink RX0 60 yX0_pageOf, .static yX0_pageOf, .initialized RX0, .code yX0_pageOf cX0_pageOf 1 (some .int), .methodLink RX0 53 yX0_stepOf, .instanceMethod yX0_stepOf, .selects RX0 yX0_stepOf yX0_stepOf, .code yX0_stepOf cX0_stepOf 2 (some .int), .fieldLink RX0 9 "SlabHeap$Pages" "kinds" "[I", .fieldLink RX0 15 "SlabHeap$Pages" "forms" "[I", .methodLink RX0 81 yX0_slotBy, .static yX0_slotBy, .code yX0_slotBy cX0_slotBy 3 (some .int)] ++ wsX00)
def wsX0_isLive : List Cond := .code yX0_isLive cX0_isLive 2 (some .boolean) :: ([.methodLink RX0 60 yX0_pageOf, .static yX0_pageOf, .initialized RX0, .code yX0_pageOf cX0_pageOf 1 (some .int), .methodLink RX0 63 yX0_slotAt, .instanceMethod yX0_slotAt, .selects RX0 yX0_slotAt yX0_slotAt, .code yX0_slotAt cX0_slotAt 2 (some .int), .methodLink RX0 53 yX0_stepOf, .instanceMethod yX0_stepOf, .selects RX0 yX0_stepOf yX0_stepOf, .code yX0_stepOf cX0_stepOf 2 (some .int), .fieldLink RX0 9 "SlabHeap$Pages" "kinds" "[I", .fieldLink RX0 15 "SlabHeap$Pages" "forms" "[I", .methodLink RX0 81 yX0_slotBy, .static yX0_slotBy, .code yX0_slotBy cX0_slotBy 3 (some .int), .methodLink RX0 56 yX0_isTaken, .instanceMethod yX0_isTaken, .selects RX0 yX0_isTaken yX0_isTaken, .code yX0_isTaken cX0_isTaken 3 (some .boolean), .fieldLink RX0 18 "SlabHeap$Pages" "taken" "[I"] ++ wsX00)
def wsX0_blockOver_r1 : List Cond := [Cond.fieldLink RX0 9 "SlabHeap$Pages" "kinds" "[I", Cond.fieldLink RX0 15 "SlabHeap$Pages" "forms" "[I", Cond.methodLink RX0 60 yX0_pageOf, Cond.static yX0_pageOf, Cond.initialized RX0, Cond.code yX0_pageOf cX0_pageOf 1 (some .int), Cond.static yX2_isPage, Cond.initialized RX2, Cond.code yX2_isPage cX2_isPage 1 (some .boolean), Cond.methodLink RX0 44 yX0_alignedTo, Cond.static yX0_alignedTo, Cond.code yX0_alignedTo cX0_alignedTo 2 (some .int), Cond.static yX2_isOrder, Cond.code yX2_isOrder cX2_isOrder 1 (some .boolean), Cond.methodLink RX0 66 yX0_blockIn, Cond.instanceMethod yX0_blockIn, Cond.selects RX0 yX0_blockIn yX0_blockIn, Cond.code yX0_blockIn cX0_blockIn 3 (some .int), Cond.methodLink RX0 56 yX0_isTaken, Cond.instanceMethod yX0_isTaken, Cond.selects RX0 yX0_isTaken yX0_isTaken, Cond.code yX0_isTaken cX0_isTaken 3 (some .boolean), Cond.fieldLink RX0 18 "SlabHeap$Pages" "taken" "[I", Cond.methodLink RX0 53 yX0_stepOf]
def wsX0_blockOver_r2 : List Cond := [Cond.instanceMethod yX0_stepOf, Cond.selects RX0 yX0_stepOf yX0_stepOf, Cond.code yX0_stepOf cX0_stepOf 2 (some .int)]
def wsX0_blockOver : List Cond := .code yX0_blockOver cX0_blockOver 4 (some .int) :: ((wsX0_blockOver_r1 ++ wsX0_blockOver_r2) ++ wsX00)
def wsX2_classFor : List Cond := .code yX2_classFor cX2_classFor 5 (some .int) :: ([.fieldLink RX2 177 "SlabHeap" "CLASSES" "[I"])
def wsX0_isSlabOf : List Cond := .code yX0_isSlabOf cX0_isSlabOf 3 (some .boolean) :: ([.fieldLink RX0 9 "SlabHeap$Pages" "kinds" "[I", .fieldLink RX0 15 "SlabHeap$Pages" "forms" "[I", .static yX2_isPage, .initialized RX2, .code yX2_isPage cX2_isPage 1 (some .boolean)] ++ wsX00)
def wsX0_emptySlot : List Cond := .code yX0_emptySlot cX0_emptySlot 5 (some .int) :: ([.methodLink RX0 84 yX0_isSlabOf, .instanceMethod yX0_isSlabOf, .selects RX0 yX0_isSlabOf yX0_isSlabOf, .initialized RX0, .code yX0_isSlabOf cX0_isSlabOf 3 (some .boolean), .fieldLink RX0 9 "SlabHeap$Pages" "kinds" "[I", .fieldLink RX0 15 "SlabHeap$Pages" "forms" "[I", .static yX2_isPage, .initialized RX2, .code yX2_isPage cX2_isPage 1 (some .boolean), .methodLink RX0 104 yX0_slotsOf, .instanceMethod yX0_slotsOf, .selects RX0 yX0_slotsOf yX0_slotsOf, .code yX0_slotsOf cX0_slotsOf 3 (some .int), .methodLink RX0 53 yX0_stepOf, .instanceMethod yX0_stepOf, .selects RX0 yX0_stepOf yX0_stepOf, .code yX0_stepOf cX0_stepOf 2 (some .int), .methodLink RX0 56 yX0_isTaken, .instanceMethod yX0_isTaken, .selects RX0 yX0_isTaken yX0_isTaken, .code yX0_isTaken cX0_isTaken 3 (some .boolean), .fieldLink RX0 18 "SlabHeap$Pages" "taken" "[I"] ++ wsX00)
def wsX2_orderFor : List Cond := .code yX2_orderFor cX2_orderFor 2 (some .int) :: ([.methodLink RX2 129 yX2_classFor, .static yX2_classFor, .initialized RX2, .code yX2_classFor cX2_classFor 5 (some .int), .fieldLink RX2 177 "SlabHeap" "CLASSES" "[I"])
def wsX0_extentFor : List Cond := .code yX0_extentFor cX0_extentFor 4 (some .int) :: ([.static yX2_isOrder, .initialized RX2, .code yX2_isOrder cX2_isOrder 1 (some .boolean), .methodLink RX0 113 yX0_isFreeExtent, .instanceMethod yX0_isFreeExtent, .selects RX0 yX0_isFreeExtent yX0_isFreeExtent, .initialized RX0, .code yX0_isFreeExtent cX0_isFreeExtent 3 (some .boolean), .methodLink RX0 87 yX0_isFreeRun, .instanceMethod yX0_isFreeRun, .selects RX0 yX0_isFreeRun yX0_isFreeRun, .code yX0_isFreeRun cX0_isFreeRun 5 (some .boolean), .methodLink RX0 38 yX0_kindOf, .instanceMethod yX0_kindOf, .selects RX0 yX0_kindOf yX0_kindOf, .code yX0_kindOf cX0_kindOf 2 (some .int), .fieldLink RX0 9 "SlabHeap$Pages" "kinds" "[I", .methodLink RX0 44 yX0_alignedTo, .static yX0_alignedTo, .code yX0_alignedTo cX0_alignedTo 2 (some .int)] ++ wsX00)
def wsX0_placeFor_r1 : List Cond := [Cond.static yX2_classFor, Cond.initialized RX2, Cond.code yX2_classFor cX2_classFor 5 (some .int), Cond.fieldLink RX2 177 "SlabHeap" "CLASSES" "[I", Cond.methodLink RX0 72 yX0_emptySlot, Cond.instanceMethod yX0_emptySlot, Cond.selects RX0 yX0_emptySlot yX0_emptySlot, Cond.initialized RX0, Cond.code yX0_emptySlot cX0_emptySlot 5 (some .int), Cond.methodLink RX0 84 yX0_isSlabOf, Cond.instanceMethod yX0_isSlabOf, Cond.selects RX0 yX0_isSlabOf yX0_isSlabOf, Cond.code yX0_isSlabOf cX0_isSlabOf 3 (some .boolean), Cond.fieldLink RX0 9 "SlabHeap$Pages" "kinds" "[I", Cond.fieldLink RX0 15 "SlabHeap$Pages" "forms" "[I", Cond.static yX2_isPage, Cond.code yX2_isPage cX2_isPage 1 (some .boolean), Cond.methodLink RX0 104 yX0_slotsOf, Cond.instanceMethod yX0_slotsOf, Cond.selects RX0 yX0_slotsOf yX0_slotsOf, Cond.code yX0_slotsOf cX0_slotsOf 3 (some .int), Cond.methodLink RX0 53 yX0_stepOf, Cond.instanceMethod yX0_stepOf, Cond.selects RX0 yX0_stepOf yX0_stepOf]
def wsX0_placeFor_r2 : List Cond := [Cond.code yX0_stepOf cX0_stepOf 2 (some .int), Cond.methodLink RX0 56 yX0_isTaken, Cond.instanceMethod yX0_isTaken, Cond.selects RX0 yX0_isTaken yX0_isTaken, Cond.code yX0_isTaken cX0_isTaken 3 (some .boolean), Cond.fieldLink RX0 18 "SlabHeap$Pages" "taken" "[I", Cond.static yX2_orderFor, Cond.code yX2_orderFor cX2_orderFor 2 (some .int), Cond.methodLink RX2 129 yX2_classFor, Cond.methodLink RX0 78 yX0_extentFor, Cond.instanceMethod yX0_extentFor, Cond.selects RX0 yX0_extentFor yX0_extentFor, Cond.code yX0_extentFor cX0_extentFor 4 (some .int), Cond.static yX2_isOrder, Cond.code yX2_isOrder cX2_isOrder 1 (some .boolean), Cond.methodLink RX0 113 yX0_isFreeExtent, Cond.instanceMethod yX0_isFreeExtent, Cond.selects RX0 yX0_isFreeExtent yX0_isFreeExtent, Cond.code yX0_isFreeExtent cX0_isFreeExtent 3 (some .boolean), Cond.methodLink RX0 87 yX0_isFreeRun, Cond.instanceMethod yX0_isFreeRun, Cond.selects RX0 yX0_isFreeRun yX0_isFreeRun, Cond.code yX0_isFreeRun cX0_isFreeRun 5 (some .boolean), Cond.methodLink RX0 38 yX0_kindOf]
def wsX0_placeFor_r3 : List Cond := [Cond.instanceMethod yX0_kindOf, Cond.selects RX0 yX0_kindOf yX0_kindOf, Cond.code yX0_kindOf cX0_kindOf 2 (some .int), Cond.methodLink RX0 44 yX0_alignedTo, Cond.static yX0_alignedTo, Cond.code yX0_alignedTo cX0_alignedTo 2 (some .int)]
def wsX0_placeFor : List Cond := .code yX0_placeFor cX0_placeFor 5 (some .int) :: ((wsX0_placeFor_r1 ++ (wsX0_placeFor_r2 ++ wsX0_placeFor_r3)) ++ wsX00)
def wsX0_canHold_r1 : List Cond := [Cond.methodLink RX0 60 yX0_pageOf, Cond.static yX0_pageOf, Cond.initialized RX0, Cond.code yX0_pageOf cX0_pageOf 1 (some .int), Cond.static yX2_classFor, Cond.initialized RX2, Cond.code yX2_classFor cX2_classFor 5 (some .int), Cond.fieldLink RX2 177 "SlabHeap" "CLASSES" "[I", Cond.methodLink RX0 81 yX0_slotBy, Cond.static yX0_slotBy, Cond.code yX0_slotBy cX0_slotBy 3 (some .int), Cond.methodLink RX0 38 yX0_kindOf, Cond.instanceMethod yX0_kindOf, Cond.selects RX0 yX0_kindOf yX0_kindOf, Cond.code yX0_kindOf cX0_kindOf 2 (some .int), Cond.fieldLink RX0 9 "SlabHeap$Pages" "kinds" "[I", Cond.methodLink RX0 84 yX0_isSlabOf, Cond.instanceMethod yX0_isSlabOf, Cond.selects RX0 yX0_isSlabOf yX0_isSlabOf, Cond.code yX0_isSlabOf cX0_isSlabOf 3 (some .boolean), Cond.fieldLink RX0 15 "SlabHeap$Pages" "forms" "[I", Cond.static yX2_isPage, Cond.code yX2_isPage cX2_isPage 1 (some .boolean), Cond.static yX2_orderFor]
def wsX0_canHold_r2 : List Cond := [Cond.code yX2_orderFor cX2_orderFor 2 (some .int), Cond.methodLink RX2 129 yX2_classFor, Cond.methodLink RX0 44 yX0_alignedTo, Cond.static yX0_alignedTo, Cond.code yX0_alignedTo cX0_alignedTo 2 (some .int), Cond.static yX2_isOrder, Cond.code yX2_isOrder cX2_isOrder 1 (some .boolean), Cond.methodLink RX0 87 yX0_isFreeRun, Cond.instanceMethod yX0_isFreeRun, Cond.selects RX0 yX0_isFreeRun yX0_isFreeRun, Cond.code yX0_isFreeRun cX0_isFreeRun 5 (some .boolean)]
def wsX0_canHold : List Cond := .code yX0_canHold cX0_canHold 6 (some .boolean) :: ((wsX0_canHold_r1 ++ wsX0_canHold_r2) ++ wsX00)
def wsX0_lay : List Cond := .code yX0_lay cX0_lay 4 none :: ([.fieldLink RX0 9 "SlabHeap$Pages" "kinds" "[I", .fieldLink RX0 15 "SlabHeap$Pages" "forms" "[I", .static yX2_isPage, .initialized RX2, .code yX2_isPage cX2_isPage 1 (some .boolean)] ++ wsX00)
def wsX0_layExtent : List Cond := .code yX0_layExtent cX0_layExtent 5 none :: ([.static yX2_isOrder, .initialized RX2, .code yX2_isOrder cX2_isOrder 1 (some .boolean), .methodLink RX0 90 yX0_lay, .instanceMethod yX0_lay, .selects RX0 yX0_lay yX0_lay, .initialized RX0, .code yX0_lay cX0_lay 4 none, .fieldLink RX0 9 "SlabHeap$Pages" "kinds" "[I", .fieldLink RX0 15 "SlabHeap$Pages" "forms" "[I", .static yX2_isPage, .code yX2_isPage cX2_isPage 1 (some .boolean)] ++ wsX00)
def wsX0_add_r1 : List Cond := [Cond.fieldLink RX0 18 "SlabHeap$Pages" "taken" "[I", Cond.methodLink RX0 60 yX0_pageOf, Cond.static yX0_pageOf, Cond.initialized RX0, Cond.code yX0_pageOf cX0_pageOf 1 (some .int), Cond.static yX2_classFor, Cond.initialized RX2, Cond.code yX2_classFor cX2_classFor 5 (some .int), Cond.fieldLink RX2 177 "SlabHeap" "CLASSES" "[I", Cond.methodLink RX0 90 yX0_lay, Cond.instanceMethod yX0_lay, Cond.selects RX0 yX0_lay yX0_lay, Cond.code yX0_lay cX0_lay 4 none, Cond.fieldLink RX0 9 "SlabHeap$Pages" "kinds" "[I", Cond.fieldLink RX0 15 "SlabHeap$Pages" "forms" "[I", Cond.static yX2_isPage, Cond.code yX2_isPage cX2_isPage 1 (some .boolean), Cond.static yX2_orderFor, Cond.code yX2_orderFor cX2_orderFor 2 (some .int), Cond.methodLink RX2 129 yX2_classFor, Cond.methodLink RX0 94 yX0_layExtent, Cond.instanceMethod yX0_layExtent, Cond.selects RX0 yX0_layExtent yX0_layExtent, Cond.code yX0_layExtent cX0_layExtent 5 none]
def wsX0_add_r2 : List Cond := [Cond.static yX2_isOrder, Cond.code yX2_isOrder cX2_isOrder 1 (some .boolean), Cond.methodLink RX0 63 yX0_slotAt, Cond.instanceMethod yX0_slotAt, Cond.selects RX0 yX0_slotAt yX0_slotAt, Cond.code yX0_slotAt cX0_slotAt 2 (some .int), Cond.methodLink RX0 53 yX0_stepOf, Cond.instanceMethod yX0_stepOf, Cond.selects RX0 yX0_stepOf yX0_stepOf, Cond.code yX0_stepOf cX0_stepOf 2 (some .int), Cond.methodLink RX0 81 yX0_slotBy, Cond.static yX0_slotBy, Cond.code yX0_slotBy cX0_slotBy 3 (some .int)]
def wsX0_add : List Cond := .code yX0_add cX0_add 6 none :: ((wsX0_add_r1 ++ wsX0_add_r2) ++ wsX00)
def wsX0_remove_r1 : List Cond := [Cond.fieldLink RX0 18 "SlabHeap$Pages" "taken" "[I", Cond.fieldLink RX0 9 "SlabHeap$Pages" "kinds" "[I", Cond.fieldLink RX0 15 "SlabHeap$Pages" "forms" "[I", Cond.methodLink RX0 60 yX0_pageOf, Cond.static yX0_pageOf, Cond.initialized RX0, Cond.code yX0_pageOf cX0_pageOf 1 (some .int), Cond.methodLink RX0 63 yX0_slotAt, Cond.instanceMethod yX0_slotAt, Cond.selects RX0 yX0_slotAt yX0_slotAt, Cond.code yX0_slotAt cX0_slotAt 2 (some .int), Cond.methodLink RX0 53 yX0_stepOf, Cond.instanceMethod yX0_stepOf, Cond.selects RX0 yX0_stepOf yX0_stepOf, Cond.code yX0_stepOf cX0_stepOf 2 (some .int), Cond.methodLink RX0 81 yX0_slotBy, Cond.static yX0_slotBy, Cond.code yX0_slotBy cX0_slotBy 3 (some .int), Cond.static yX2_isPage, Cond.initialized RX2, Cond.code yX2_isPage cX2_isPage 1 (some .boolean), Cond.methodLink RX0 56 yX0_isTaken, Cond.instanceMethod yX0_isTaken, Cond.selects RX0 yX0_isTaken yX0_isTaken]
def wsX0_remove_r2 : List Cond := [Cond.code yX0_isTaken cX0_isTaken 3 (some .boolean), Cond.methodLink RX0 90 yX0_lay, Cond.instanceMethod yX0_lay, Cond.selects RX0 yX0_lay yX0_lay, Cond.code yX0_lay cX0_lay 4 none]
def wsX0_remove : List Cond := .code yX0_remove cX0_remove 6 none :: ((wsX0_remove_r1 ++ wsX0_remove_r2) ++ wsX00)
def wsX0_clearMarks : List Cond := .code yX0_clearMarks cX0_clearMarks 1 none :: ([.fieldLink RX0 21 "SlabHeap$Pages" "marks" "[I", .methodLink RX0 24 yJ7_fill_53178, .static yJ7_fill_53178, .initialized RJ7, .code yJ7_fill_53178 cJ7_fill_53178 4 none] ++ wsX00)
def wsX0_isMarked_r1 : List Cond := [Cond.fieldLink RX0 21 "SlabHeap$Pages" "marks" "[I", Cond.methodLink RX0 60 yX0_pageOf, Cond.static yX0_pageOf, Cond.initialized RX0, Cond.code yX0_pageOf cX0_pageOf 1 (some .int), Cond.methodLink RX0 63 yX0_slotAt, Cond.instanceMethod yX0_slotAt, Cond.selects RX0 yX0_slotAt yX0_slotAt, Cond.code yX0_slotAt cX0_slotAt 2 (some .int), Cond.methodLink RX0 53 yX0_stepOf, Cond.instanceMethod yX0_stepOf, Cond.selects RX0 yX0_stepOf yX0_stepOf, Cond.code yX0_stepOf cX0_stepOf 2 (some .int), Cond.fieldLink RX0 9 "SlabHeap$Pages" "kinds" "[I", Cond.fieldLink RX0 15 "SlabHeap$Pages" "forms" "[I", Cond.methodLink RX0 81 yX0_slotBy, Cond.static yX0_slotBy, Cond.code yX0_slotBy cX0_slotBy 3 (some .int), Cond.static yX2_isPage, Cond.initialized RX2, Cond.code yX2_isPage cX2_isPage 1 (some .boolean), Cond.methodLink RX0 56 yX0_isTaken, Cond.instanceMethod yX0_isTaken, Cond.selects RX0 yX0_isTaken yX0_isTaken]
def wsX0_isMarked_r2 : List Cond := [Cond.code yX0_isTaken cX0_isTaken 3 (some .boolean), Cond.fieldLink RX0 18 "SlabHeap$Pages" "taken" "[I"]
def wsX0_isMarked : List Cond := .code yX0_isMarked cX0_isMarked 4 (some .boolean) :: ((wsX0_isMarked_r1 ++ wsX0_isMarked_r2) ++ wsX00)
def wsX0_mark_r1 : List Cond := [Cond.fieldLink RX0 21 "SlabHeap$Pages" "marks" "[I", Cond.methodLink RX0 60 yX0_pageOf, Cond.static yX0_pageOf, Cond.initialized RX0, Cond.code yX0_pageOf cX0_pageOf 1 (some .int), Cond.static yX2_isPage, Cond.initialized RX2, Cond.code yX2_isPage cX2_isPage 1 (some .boolean), Cond.methodLink RX0 98 yX0_isLive, Cond.instanceMethod yX0_isLive, Cond.selects RX0 yX0_isLive yX0_isLive, Cond.code yX0_isLive cX0_isLive 2 (some .boolean), Cond.methodLink RX0 63 yX0_slotAt, Cond.instanceMethod yX0_slotAt, Cond.selects RX0 yX0_slotAt yX0_slotAt, Cond.code yX0_slotAt cX0_slotAt 2 (some .int), Cond.methodLink RX0 53 yX0_stepOf, Cond.instanceMethod yX0_stepOf, Cond.selects RX0 yX0_stepOf yX0_stepOf, Cond.code yX0_stepOf cX0_stepOf 2 (some .int), Cond.fieldLink RX0 9 "SlabHeap$Pages" "kinds" "[I", Cond.fieldLink RX0 15 "SlabHeap$Pages" "forms" "[I", Cond.methodLink RX0 81 yX0_slotBy, Cond.static yX0_slotBy]
def wsX0_mark_r2 : List Cond := [Cond.code yX0_slotBy cX0_slotBy 3 (some .int), Cond.methodLink RX0 56 yX0_isTaken, Cond.instanceMethod yX0_isTaken, Cond.selects RX0 yX0_isTaken yX0_isTaken, Cond.code yX0_isTaken cX0_isTaken 3 (some .boolean), Cond.fieldLink RX0 18 "SlabHeap$Pages" "taken" "[I", Cond.methodLink RX0 101 yX0_isMarked, Cond.instanceMethod yX0_isMarked, Cond.selects RX0 yX0_isMarked yX0_isMarked, Cond.code yX0_isMarked cX0_isMarked 4 (some .boolean)]
def wsX0_mark : List Cond := .code yX0_mark cX0_mark 3 (some .boolean) :: ((wsX0_mark_r1 ++ wsX0_mark_r2) ++ wsX00)
def wsX0_howMany : List Cond := .code yX0_howMany cX0_howMany 4 (some .int) :: ([.methodLink RX0 38 yX0_kindOf, .instanceMethod yX0_kindOf, .selects RX0 yX0_kindOf yX0_kindOf, .initialized RX0, .code yX0_kindOf cX0_kindOf 2 (some .int), .fieldLink RX0 9 "SlabHeap$Pages" "kinds" "[I"] ++ wsX00)
def wsX0_emptySlots_r1 : List Cond := [Cond.methodLink RX0 104 yX0_slotsOf, Cond.instanceMethod yX0_slotsOf, Cond.selects RX0 yX0_slotsOf yX0_slotsOf, Cond.initialized RX0, Cond.code yX0_slotsOf cX0_slotsOf 3 (some .int), Cond.methodLink RX0 53 yX0_stepOf, Cond.instanceMethod yX0_stepOf, Cond.selects RX0 yX0_stepOf yX0_stepOf, Cond.code yX0_stepOf cX0_stepOf 2 (some .int), Cond.fieldLink RX0 9 "SlabHeap$Pages" "kinds" "[I", Cond.fieldLink RX0 15 "SlabHeap$Pages" "forms" "[I", Cond.methodLink RX0 107 yX0_blocksOn, Cond.instanceMethod yX0_blocksOn, Cond.selects RX0 yX0_blocksOn yX0_blocksOn, Cond.code yX0_blocksOn cX0_blocksOn 2 (some .int), Cond.fieldLink RX0 18 "SlabHeap$Pages" "taken" "[I", Cond.static yX2_isPage, Cond.initialized RX2, Cond.code yX2_isPage cX2_isPage 1 (some .boolean), Cond.methodLink RX0 48 yJ6_bitCount_0f7a4, Cond.static yJ6_bitCount_0f7a4, Cond.initialized RJ6, Cond.code yJ6_bitCount_0f7a4 cJ6_bitCount_0f7a4 1 (some .int), Cond.constant RJ6 265 (1431655765)]
def wsX0_emptySlots_r2 : List Cond := [Cond.constant RJ6 266 (858993459), Cond.constant RJ6 267 (252645135)]
def wsX0_emptySlots : List Cond := .code yX0_emptySlots cX0_emptySlots 3 (some .int) :: ((wsX0_emptySlots_r1 ++ wsX0_emptySlots_r2) ++ wsX00)
def wsX0_freeExtents : List Cond := .code yX0_freeExtents cX0_freeExtents 4 (some .int) :: ([.static yX2_isOrder, .initialized RX2, .code yX2_isOrder cX2_isOrder 1 (some .boolean), .methodLink RX0 113 yX0_isFreeExtent, .instanceMethod yX0_isFreeExtent, .selects RX0 yX0_isFreeExtent yX0_isFreeExtent, .initialized RX0, .code yX0_isFreeExtent cX0_isFreeExtent 3 (some .boolean), .methodLink RX0 87 yX0_isFreeRun, .instanceMethod yX0_isFreeRun, .selects RX0 yX0_isFreeRun yX0_isFreeRun, .code yX0_isFreeRun cX0_isFreeRun 5 (some .boolean), .methodLink RX0 38 yX0_kindOf, .instanceMethod yX0_kindOf, .selects RX0 yX0_kindOf yX0_kindOf, .code yX0_kindOf cX0_kindOf 2 (some .int), .fieldLink RX0 9 "SlabHeap$Pages" "kinds" "[I", .methodLink RX0 44 yX0_alignedTo, .static yX0_alignedTo, .code yX0_alignedTo cX0_alignedTo 2 (some .int)] ++ wsX00)
def wsX1_init : List Cond := .code yX1_init cX1_init 1 none :: ([.methodLink RX1 3 objectInit, .instanceMethod objectInit, .code objectInit ⟨#[0xb1]⟩ 1 none, .arrayClass .int, .fieldLink RX1 9 "SlabHeap$Words" "now" "[I", .fieldLink RX1 15 "SlabHeap$Words" "kept" "[I", .fieldLink RX1 18 "SlabHeap$Words" "queue" "[I", .arrayClass .boolean, .fieldLink RX1 21 "SlabHeap$Words" "queued" "[Z", .fieldLink RX1 25 "SlabHeap$Words" "queueLength" "I"] ++ wsX10)
def wsX2_isWord : List Cond := .code yX2_isWord cX2_isWord 1 (some .boolean) :: ([])
def wsX1_at : List Cond := .code yX1_at cX1_at 2 (some .int) :: ([.fieldLink RX1 9 "SlabHeap$Words" "now" "[I", .static yX2_isWord, .initialized RX2, .code yX2_isWord cX2_isWord 1 (some .boolean)] ++ wsX10)
def wsX1_keptAt : List Cond := .code yX1_keptAt cX1_keptAt 2 (some .int) :: ([.fieldLink RX1 15 "SlabHeap$Words" "kept" "[I", .static yX2_isWord, .initialized RX2, .code yX2_isWord cX2_isWord 1 (some .boolean)] ++ wsX10)
def wsX1_waiting : List Cond := .code yX1_waiting cX1_waiting 1 (some .int) :: ([.fieldLink RX1 25 "SlabHeap$Words" "queueLength" "I"] ++ wsX10)
def wsX1_lineAt : List Cond := .code yX1_lineAt cX1_lineAt 2 (some .int) :: ([.fieldLink RX1 25 "SlabHeap$Words" "queueLength" "I", .fieldLink RX1 18 "SlabHeap$Words" "queue" "[I"] ++ wsX10)
def wsX1_write : List Cond := .code yX1_write cX1_write 4 none :: ([.fieldLink RX1 9 "SlabHeap$Words" "now" "[I", .fieldLink RX1 21 "SlabHeap$Words" "queued" "[Z", .fieldLink RX1 25 "SlabHeap$Words" "queueLength" "I", .fieldLink RX1 18 "SlabHeap$Words" "queue" "[I", .static yX2_isWord, .initialized RX2, .code yX2_isWord cX2_isWord 1 (some .boolean)] ++ wsX10)
def wsX1_settleLine : List Cond := .code yX1_settleLine cX1_settleLine 5 none :: ([.fieldLink RX1 21 "SlabHeap$Words" "queued" "[Z"] ++ wsX10)
def wsX1_keepSome : List Cond := .code yX1_keepSome cX1_keepSome 4 none :: ([.fieldLink RX1 25 "SlabHeap$Words" "queueLength" "I", .fieldLink RX1 9 "SlabHeap$Words" "now" "[I", .fieldLink RX1 15 "SlabHeap$Words" "kept" "[I", .methodLink RX1 37 yX1_lineAt, .instanceMethod yX1_lineAt, .selects RX1 yX1_lineAt yX1_lineAt, .initialized RX1, .code yX1_lineAt cX1_lineAt 2 (some .int), .fieldLink RX1 18 "SlabHeap$Words" "queue" "[I", .methodLink RX1 41 yX1_settleLine, .instanceMethod yX1_settleLine, .selects RX1 yX1_settleLine yX1_settleLine, .code yX1_settleLine cX1_settleLine 5 none, .fieldLink RX1 21 "SlabHeap$Words" "queued" "[Z"] ++ wsX10)
def wsX1_keepAll : List Cond := .code yX1_keepAll cX1_keepAll 2 (some .int) :: ([.fieldLink RX1 25 "SlabHeap$Words" "queueLength" "I", .methodLink RX1 33 yX1_keepSome, .instanceMethod yX1_keepSome, .selects RX1 yX1_keepSome yX1_keepSome, .initialized RX1, .code yX1_keepSome cX1_keepSome 4 none, .fieldLink RX1 9 "SlabHeap$Words" "now" "[I", .fieldLink RX1 15 "SlabHeap$Words" "kept" "[I", .methodLink RX1 37 yX1_lineAt, .instanceMethod yX1_lineAt, .selects RX1 yX1_lineAt yX1_lineAt, .code yX1_lineAt cX1_lineAt 2 (some .int), .fieldLink RX1 18 "SlabHeap$Words" "queue" "[I", .methodLink RX1 41 yX1_settleLine, .instanceMethod yX1_settleLine, .selects RX1 yX1_settleLine yX1_settleLine, .code yX1_settleLine cX1_settleLine 5 none, .fieldLink RX1 21 "SlabHeap$Words" "queued" "[Z"] ++ wsX10)
def wsX2_init_r1 : List Cond := [Cond.methodLink RX2 1 objectInit, Cond.instanceMethod objectInit, Cond.code objectInit ⟨#[0xb1]⟩ 1 none, Cond.classLink RX2 7 RX1, Cond.instantiable RX1 5, Cond.initialized RX1, Cond.fieldLink RX2 10 "SlabHeap" "words" "LSlabHeap$Words;", Cond.classLink RX2 16 RX0, Cond.instantiable RX0 4, Cond.initialized RX0, Cond.fieldLink RX2 19 "SlabHeap" "pages" "LSlabHeap$Pages;", Cond.arrayClass .int, Cond.fieldLink RX2 23 "SlabHeap" "row" "[I", Cond.fieldLink RX2 27 "SlabHeap" "found" "I", Cond.fieldLink RX2 31 "SlabHeap" "cleared" "I", Cond.fieldLink RX2 34 "SlabHeap" "crashes" "I", Cond.fieldLink RX2 37 "SlabHeap" "latestTrouble" "I", Cond.instanceMethod yX1_init, Cond.code yX1_init cX1_init 1 none, Cond.methodLink RX1 3 objectInit, Cond.fieldLink RX1 9 "SlabHeap$Words" "now" "[I", Cond.fieldLink RX1 15 "SlabHeap$Words" "kept" "[I", Cond.fieldLink RX1 18 "SlabHeap$Words" "queue" "[I", Cond.arrayClass .boolean]
def wsX2_init_r2 : List Cond := [Cond.fieldLink RX1 21 "SlabHeap$Words" "queued" "[Z", Cond.fieldLink RX1 25 "SlabHeap$Words" "queueLength" "I", Cond.methodLink RX2 18 yX0_init, Cond.instanceMethod yX0_init, Cond.code yX0_init cX0_init 1 none, Cond.methodLink RX0 3 objectInit, Cond.fieldLink RX0 9 "SlabHeap$Pages" "kinds" "[I", Cond.fieldLink RX0 15 "SlabHeap$Pages" "forms" "[I", Cond.fieldLink RX0 18 "SlabHeap$Pages" "taken" "[I", Cond.fieldLink RX0 21 "SlabHeap$Pages" "marks" "[I"]
def wsX2_init : List Cond := .code yX2_init cX2_init 1 none :: ((wsX2_init_r1 ++ wsX2_init_r2) ++ wsX10 ++ wsX20 ++ wsX00)
def wsX2_isShape : List Cond := .code yX2_isShape cX2_isShape 2 (some .boolean) :: ([])
def wsX2_answer : List Cond := .code yX2_answer cX2_answer 3 (some .int) :: ([.fieldLink RX2 37 "SlabHeap" "latestTrouble" "I"] ++ wsX20)
def wsJ9_floorMod_7cf53 : List Cond := .code yJ9_floorMod_7cf53 cJ9_floorMod_7cf53 3 (some .int) :: ([])
def wsX2_headOf : List Cond := .code yX2_headOf cX2_headOf 4 (some .int) :: ([.constant RX2 176 (4194304), .methodLink RX2 171 yJ9_floorMod_7cf53, .static yJ9_floorMod_7cf53, .initialized RJ9, .code yJ9_floorMod_7cf53 cJ9_floorMod_7cf53 3 (some .int)])
def wsX2_wordOf : List Cond := .code yX2_wordOf cX2_wordOf 2 (some .int) :: ([])
def wsX2_alloc_r1 : List Cond := [Cond.fieldLink RX2 19 "SlabHeap" "pages" "LSlabHeap$Pages;", Cond.fieldLink RX2 10 "SlabHeap" "words" "LSlabHeap$Words;", Cond.methodLink RX2 40 yX2_isShape, Cond.static yX2_isShape, Cond.initialized RX2, Cond.code yX2_isShape cX2_isShape 2 (some .boolean), Cond.methodLink RX2 44 yX2_answer, Cond.instanceMethod yX2_answer, Cond.selects RX2 yX2_answer yX2_answer, Cond.code yX2_answer cX2_answer 3 (some .int), Cond.fieldLink RX2 37 "SlabHeap" "latestTrouble" "I", Cond.methodLink RX2 48 yX0_placeFor, Cond.instanceMethod yX0_placeFor, Cond.selects RX0 yX0_placeFor yX0_placeFor, Cond.initialized RX0, Cond.code yX0_placeFor cX0_placeFor 5 (some .int), Cond.static yX2_classFor, Cond.code yX2_classFor cX2_classFor 5 (some .int), Cond.fieldLink RX2 177 "SlabHeap" "CLASSES" "[I", Cond.methodLink RX0 72 yX0_emptySlot, Cond.instanceMethod yX0_emptySlot, Cond.selects RX0 yX0_emptySlot yX0_emptySlot, Cond.code yX0_emptySlot cX0_emptySlot 5 (some .int), Cond.methodLink RX0 84 yX0_isSlabOf]
def wsX2_alloc_r2 : List Cond := [Cond.instanceMethod yX0_isSlabOf, Cond.selects RX0 yX0_isSlabOf yX0_isSlabOf, Cond.code yX0_isSlabOf cX0_isSlabOf 3 (some .boolean), Cond.fieldLink RX0 9 "SlabHeap$Pages" "kinds" "[I", Cond.fieldLink RX0 15 "SlabHeap$Pages" "forms" "[I", Cond.static yX2_isPage, Cond.code yX2_isPage cX2_isPage 1 (some .boolean), Cond.methodLink RX0 104 yX0_slotsOf, Cond.instanceMethod yX0_slotsOf, Cond.selects RX0 yX0_slotsOf yX0_slotsOf, Cond.code yX0_slotsOf cX0_slotsOf 3 (some .int), Cond.methodLink RX0 53 yX0_stepOf, Cond.instanceMethod yX0_stepOf, Cond.selects RX0 yX0_stepOf yX0_stepOf, Cond.code yX0_stepOf cX0_stepOf 2 (some .int), Cond.methodLink RX0 56 yX0_isTaken, Cond.instanceMethod yX0_isTaken, Cond.selects RX0 yX0_isTaken yX0_isTaken, Cond.code yX0_isTaken cX0_isTaken 3 (some .boolean), Cond.fieldLink RX0 18 "SlabHeap$Pages" "taken" "[I", Cond.static yX2_orderFor, Cond.code yX2_orderFor cX2_orderFor 2 (some .int), Cond.methodLink RX2 129 yX2_classFor, Cond.methodLink RX0 78 yX0_extentFor]
def wsX2_alloc_r3 : List Cond := [Cond.instanceMethod yX0_extentFor, Cond.selects RX0 yX0_extentFor yX0_extentFor, Cond.code yX0_extentFor cX0_extentFor 4 (some .int), Cond.static yX2_isOrder, Cond.code yX2_isOrder cX2_isOrder 1 (some .boolean), Cond.methodLink RX0 113 yX0_isFreeExtent, Cond.instanceMethod yX0_isFreeExtent, Cond.selects RX0 yX0_isFreeExtent yX0_isFreeExtent, Cond.code yX0_isFreeExtent cX0_isFreeExtent 3 (some .boolean), Cond.methodLink RX0 87 yX0_isFreeRun, Cond.instanceMethod yX0_isFreeRun, Cond.selects RX0 yX0_isFreeRun yX0_isFreeRun, Cond.code yX0_isFreeRun cX0_isFreeRun 5 (some .boolean), Cond.methodLink RX0 38 yX0_kindOf, Cond.instanceMethod yX0_kindOf, Cond.selects RX0 yX0_kindOf yX0_kindOf, Cond.code yX0_kindOf cX0_kindOf 2 (some .int), Cond.methodLink RX0 44 yX0_alignedTo, Cond.static yX0_alignedTo, Cond.code yX0_alignedTo cX0_alignedTo 2 (some .int), Cond.methodLink RX2 52 yX0_add, Cond.instanceMethod yX0_add, Cond.selects RX0 yX0_add yX0_add, Cond.code yX0_add cX0_add 6 none]
def wsX2_alloc_r4 : List Cond := [Cond.methodLink RX0 60 yX0_pageOf, Cond.static yX0_pageOf, Cond.code yX0_pageOf cX0_pageOf 1 (some .int), Cond.methodLink RX0 90 yX0_lay, Cond.instanceMethod yX0_lay, Cond.selects RX0 yX0_lay yX0_lay, Cond.code yX0_lay cX0_lay 4 none, Cond.methodLink RX0 94 yX0_layExtent, Cond.instanceMethod yX0_layExtent, Cond.selects RX0 yX0_layExtent yX0_layExtent, Cond.code yX0_layExtent cX0_layExtent 5 none, Cond.methodLink RX0 63 yX0_slotAt, Cond.instanceMethod yX0_slotAt, Cond.selects RX0 yX0_slotAt yX0_slotAt, Cond.code yX0_slotAt cX0_slotAt 2 (some .int), Cond.methodLink RX0 81 yX0_slotBy, Cond.static yX0_slotBy, Cond.code yX0_slotBy cX0_slotBy 3 (some .int), Cond.methodLink RX2 56 yX2_headOf, Cond.static yX2_headOf, Cond.code yX2_headOf cX2_headOf 4 (some .int), Cond.constant RX2 176 (4194304), Cond.methodLink RX2 171 yJ9_floorMod_7cf53, Cond.static yJ9_floorMod_7cf53]
def wsX2_alloc_r5 : List Cond := [Cond.initialized RJ9, Cond.code yJ9_floorMod_7cf53 cJ9_floorMod_7cf53 3 (some .int), Cond.methodLink RX2 60 yX1_write, Cond.instanceMethod yX1_write, Cond.selects RX1 yX1_write yX1_write, Cond.initialized RX1, Cond.code yX1_write cX1_write 4 none, Cond.fieldLink RX1 9 "SlabHeap$Words" "now" "[I", Cond.fieldLink RX1 21 "SlabHeap$Words" "queued" "[Z", Cond.fieldLink RX1 25 "SlabHeap$Words" "queueLength" "I", Cond.fieldLink RX1 18 "SlabHeap$Words" "queue" "[I", Cond.static yX2_isWord, Cond.code yX2_isWord cX2_isWord 1 (some .boolean), Cond.methodLink RX2 63 yX2_wordOf, Cond.static yX2_wordOf, Cond.code yX2_wordOf cX2_wordOf 2 (some .int)]
def wsX2_alloc : List Cond := .code yX2_alloc cX2_alloc 5 (some .int) :: ((wsX2_alloc_r1 ++ (wsX2_alloc_r2 ++ (wsX2_alloc_r3 ++ (wsX2_alloc_r4 ++ wsX2_alloc_r5)))) ++ wsX20 ++ wsX00 ++ wsX10)
def wsX2_equalWords : List Cond := .code yX2_equalWords cX2_equalWords 6 (some .int) :: ([.fieldLink RX2 10 "SlabHeap" "words" "LSlabHeap$Words;", .methodLink RX2 92 yX1_at, .instanceMethod yX1_at, .selects RX1 yX1_at yX1_at, .initialized RX1, .code yX1_at cX1_at 2 (some .int), .fieldLink RX1 9 "SlabHeap$Words" "now" "[I", .static yX2_isWord, .initialized RX2, .code yX2_isWord cX2_isWord 1 (some .boolean)] ++ wsX20 ++ wsX10)
def wsX2_listLive : List Cond := .code yX2_listLive cX2_listLive 6 (some .int) :: ([.fieldLink RX2 19 "SlabHeap" "pages" "LSlabHeap$Pages;", .fieldLink RX2 23 "SlabHeap" "row" "[I", .methodLink RX2 189 yX0_slotsOf, .instanceMethod yX0_slotsOf, .selects RX0 yX0_slotsOf yX0_slotsOf, .initialized RX0, .code yX0_slotsOf cX0_slotsOf 3 (some .int), .methodLink RX0 53 yX0_stepOf, .instanceMethod yX0_stepOf, .selects RX0 yX0_stepOf yX0_stepOf, .code yX0_stepOf cX0_stepOf 2 (some .int), .fieldLink RX0 9 "SlabHeap$Pages" "kinds" "[I", .fieldLink RX0 15 "SlabHeap$Pages" "forms" "[I", .methodLink RX2 192 yX0_blockIn, .instanceMethod yX0_blockIn, .selects RX0 yX0_blockIn yX0_blockIn, .code yX0_blockIn cX0_blockIn 3 (some .int), .methodLink RX0 56 yX0_isTaken, .instanceMethod yX0_isTaken, .selects RX0 yX0_isTaken yX0_isTaken, .code yX0_isTaken cX0_isTaken 3 (some .boolean), .fieldLink RX0 18 "SlabHeap$Pages" "taken" "[I"] ++ wsX20 ++ wsX00)
def wsX2_rowAt : List Cond := .code yX2_rowAt cX2_rowAt 2 (some .int) :: ([.fieldLink RX2 23 "SlabHeap" "row" "[I"] ++ wsX20)
def wsX2_refsIn : List Cond := .code yX2_refsIn cX2_refsIn 1 (some .int) :: ([])
def wsX2_refsOf : List Cond := .code yX2_refsOf cX2_refsOf 2 (some .int) :: ([.fieldLink RX2 10 "SlabHeap" "words" "LSlabHeap$Words;", .methodLink RX2 92 yX1_at, .instanceMethod yX1_at, .selects RX1 yX1_at yX1_at, .initialized RX1, .code yX1_at cX1_at 2 (some .int), .fieldLink RX1 9 "SlabHeap$Words" "now" "[I", .static yX2_isWord, .initialized RX2, .code yX2_isWord cX2_isWord 1 (some .boolean), .methodLink RX2 183 yX2_refsIn, .static yX2_refsIn, .code yX2_refsIn cX2_refsIn 1 (some .int)] ++ wsX20 ++ wsX10)
def wsX2_leadsTo_r1 : List Cond := [Cond.methodLink RX2 195 yX2_equalWords, Cond.instanceMethod yX2_equalWords, Cond.selects RX2 yX2_equalWords yX2_equalWords, Cond.initialized RX2, Cond.code yX2_equalWords cX2_equalWords 6 (some .int), Cond.fieldLink RX2 10 "SlabHeap" "words" "LSlabHeap$Words;", Cond.methodLink RX2 92 yX1_at, Cond.instanceMethod yX1_at, Cond.selects RX1 yX1_at yX1_at, Cond.initialized RX1, Cond.code yX1_at cX1_at 2 (some .int), Cond.fieldLink RX1 9 "SlabHeap$Words" "now" "[I", Cond.static yX2_isWord, Cond.code yX2_isWord cX2_isWord 1 (some .boolean), Cond.methodLink RX2 111 yX2_listLive, Cond.instanceMethod yX2_listLive, Cond.selects RX2 yX2_listLive yX2_listLive, Cond.code yX2_listLive cX2_listLive 6 (some .int), Cond.fieldLink RX2 19 "SlabHeap" "pages" "LSlabHeap$Pages;", Cond.fieldLink RX2 23 "SlabHeap" "row" "[I", Cond.methodLink RX2 189 yX0_slotsOf, Cond.instanceMethod yX0_slotsOf, Cond.selects RX0 yX0_slotsOf yX0_slotsOf, Cond.initialized RX0]
def wsX2_leadsTo_r2 : List Cond := [Cond.code yX0_slotsOf cX0_slotsOf 3 (some .int), Cond.methodLink RX0 53 yX0_stepOf, Cond.instanceMethod yX0_stepOf, Cond.selects RX0 yX0_stepOf yX0_stepOf, Cond.code yX0_stepOf cX0_stepOf 2 (some .int), Cond.fieldLink RX0 9 "SlabHeap$Pages" "kinds" "[I", Cond.fieldLink RX0 15 "SlabHeap$Pages" "forms" "[I", Cond.methodLink RX2 192 yX0_blockIn, Cond.instanceMethod yX0_blockIn, Cond.selects RX0 yX0_blockIn yX0_blockIn, Cond.code yX0_blockIn cX0_blockIn 3 (some .int), Cond.methodLink RX0 56 yX0_isTaken, Cond.instanceMethod yX0_isTaken, Cond.selects RX0 yX0_isTaken yX0_isTaken, Cond.code yX0_isTaken cX0_isTaken 3 (some .boolean), Cond.fieldLink RX0 18 "SlabHeap$Pages" "taken" "[I", Cond.methodLink RX2 114 yX2_rowAt, Cond.instanceMethod yX2_rowAt, Cond.selects RX2 yX2_rowAt yX2_rowAt, Cond.code yX2_rowAt cX2_rowAt 2 (some .int), Cond.methodLink RX2 63 yX2_wordOf, Cond.static yX2_wordOf, Cond.code yX2_wordOf cX2_wordOf 2 (some .int), Cond.methodLink RX2 83 yX2_refsOf]
def wsX2_leadsTo_r3 : List Cond := [Cond.instanceMethod yX2_refsOf, Cond.selects RX2 yX2_refsOf yX2_refsOf, Cond.code yX2_refsOf cX2_refsOf 2 (some .int), Cond.methodLink RX2 183 yX2_refsIn, Cond.static yX2_refsIn, Cond.code yX2_refsIn cX2_refsIn 1 (some .int)]
def wsX2_leadsTo : List Cond := .code yX2_leadsTo cX2_leadsTo 6 (some .int) :: ((wsX2_leadsTo_r1 ++ (wsX2_leadsTo_r2 ++ wsX2_leadsTo_r3)) ++ wsX20 ++ wsX10 ++ wsX00)
def wsX2_sizeIn : List Cond := .code yX2_sizeIn cX2_sizeIn 1 (some .int) :: ([])
def wsX2_sizeOf : List Cond := .code yX2_sizeOf cX2_sizeOf 2 (some .int) :: ([.fieldLink RX2 10 "SlabHeap" "words" "LSlabHeap$Words;", .methodLink RX2 92 yX1_at, .instanceMethod yX1_at, .selects RX1 yX1_at yX1_at, .initialized RX1, .code yX1_at cX1_at 2 (some .int), .fieldLink RX1 9 "SlabHeap$Words" "now" "[I", .static yX2_isWord, .initialized RX2, .code yX2_isWord cX2_isWord 1 (some .boolean), .methodLink RX2 180 yX2_sizeIn, .static yX2_sizeIn, .code yX2_sizeIn cX2_sizeIn 1 (some .int)] ++ wsX20 ++ wsX10)
def wsX2_lengthOf : List Cond := .code yX2_lengthOf cX2_lengthOf 2 (some .int) :: ([.methodLink RX2 126 yX2_sizeOf, .instanceMethod yX2_sizeOf, .selects RX2 yX2_sizeOf yX2_sizeOf, .initialized RX2, .code yX2_sizeOf cX2_sizeOf 2 (some .int), .fieldLink RX2 10 "SlabHeap" "words" "LSlabHeap$Words;", .methodLink RX2 92 yX1_at, .instanceMethod yX1_at, .selects RX1 yX1_at yX1_at, .initialized RX1, .code yX1_at cX1_at 2 (some .int), .fieldLink RX1 9 "SlabHeap$Words" "now" "[I", .static yX2_isWord, .code yX2_isWord cX2_isWord 1 (some .boolean), .methodLink RX2 180 yX2_sizeIn, .static yX2_sizeIn, .code yX2_sizeIn cX2_sizeIn 1 (some .int)] ++ wsX20 ++ wsX10)
def wsX2_release_r1 : List Cond := [Cond.fieldLink RX2 19 "SlabHeap" "pages" "LSlabHeap$Pages;", Cond.fieldLink RX2 10 "SlabHeap" "words" "LSlabHeap$Words;", Cond.methodLink RX2 198 yX0_remove, Cond.instanceMethod yX0_remove, Cond.selects RX0 yX0_remove yX0_remove, Cond.initialized RX0, Cond.code yX0_remove cX0_remove 6 none, Cond.fieldLink RX0 18 "SlabHeap$Pages" "taken" "[I", Cond.fieldLink RX0 9 "SlabHeap$Pages" "kinds" "[I", Cond.fieldLink RX0 15 "SlabHeap$Pages" "forms" "[I", Cond.methodLink RX0 60 yX0_pageOf, Cond.static yX0_pageOf, Cond.code yX0_pageOf cX0_pageOf 1 (some .int), Cond.methodLink RX0 63 yX0_slotAt, Cond.instanceMethod yX0_slotAt, Cond.selects RX0 yX0_slotAt yX0_slotAt, Cond.code yX0_slotAt cX0_slotAt 2 (some .int), Cond.methodLink RX0 53 yX0_stepOf, Cond.instanceMethod yX0_stepOf, Cond.selects RX0 yX0_stepOf yX0_stepOf, Cond.code yX0_stepOf cX0_stepOf 2 (some .int), Cond.methodLink RX0 81 yX0_slotBy, Cond.static yX0_slotBy, Cond.code yX0_slotBy cX0_slotBy 3 (some .int)]
def wsX2_release_r2 : List Cond := [Cond.static yX2_isPage, Cond.initialized RX2, Cond.code yX2_isPage cX2_isPage 1 (some .boolean), Cond.methodLink RX0 56 yX0_isTaken, Cond.instanceMethod yX0_isTaken, Cond.selects RX0 yX0_isTaken yX0_isTaken, Cond.code yX0_isTaken cX0_isTaken 3 (some .boolean), Cond.methodLink RX0 90 yX0_lay, Cond.instanceMethod yX0_lay, Cond.selects RX0 yX0_lay yX0_lay, Cond.code yX0_lay cX0_lay 4 none, Cond.methodLink RX2 60 yX1_write, Cond.instanceMethod yX1_write, Cond.selects RX1 yX1_write yX1_write, Cond.initialized RX1, Cond.code yX1_write cX1_write 4 none, Cond.fieldLink RX1 9 "SlabHeap$Words" "now" "[I", Cond.fieldLink RX1 21 "SlabHeap$Words" "queued" "[Z", Cond.fieldLink RX1 25 "SlabHeap$Words" "queueLength" "I", Cond.fieldLink RX1 18 "SlabHeap$Words" "queue" "[I", Cond.static yX2_isWord, Cond.code yX2_isWord cX2_isWord 1 (some .boolean)]
def wsX2_release : List Cond := .code yX2_release cX2_release 2 none :: ((wsX2_release_r1 ++ wsX2_release_r2) ++ wsX20 ++ wsX00 ++ wsX10)
def wsX2_free_r1 : List Cond := [Cond.fieldLink RX2 19 "SlabHeap" "pages" "LSlabHeap$Pages;", Cond.methodLink RX2 66 yX0_isLive, Cond.instanceMethod yX0_isLive, Cond.selects RX0 yX0_isLive yX0_isLive, Cond.initialized RX0, Cond.code yX0_isLive cX0_isLive 2 (some .boolean), Cond.methodLink RX0 60 yX0_pageOf, Cond.static yX0_pageOf, Cond.code yX0_pageOf cX0_pageOf 1 (some .int), Cond.methodLink RX0 63 yX0_slotAt, Cond.instanceMethod yX0_slotAt, Cond.selects RX0 yX0_slotAt yX0_slotAt, Cond.code yX0_slotAt cX0_slotAt 2 (some .int), Cond.methodLink RX0 53 yX0_stepOf, Cond.instanceMethod yX0_stepOf, Cond.selects RX0 yX0_stepOf yX0_stepOf, Cond.code yX0_stepOf cX0_stepOf 2 (some .int), Cond.fieldLink RX0 9 "SlabHeap$Pages" "kinds" "[I", Cond.fieldLink RX0 15 "SlabHeap$Pages" "forms" "[I", Cond.methodLink RX0 81 yX0_slotBy, Cond.static yX0_slotBy, Cond.code yX0_slotBy cX0_slotBy 3 (some .int), Cond.methodLink RX0 56 yX0_isTaken, Cond.instanceMethod yX0_isTaken]
def wsX2_free_r2 : List Cond := [Cond.selects RX0 yX0_isTaken yX0_isTaken, Cond.code yX0_isTaken cX0_isTaken 3 (some .boolean), Cond.fieldLink RX0 18 "SlabHeap$Pages" "taken" "[I", Cond.methodLink RX2 44 yX2_answer, Cond.instanceMethod yX2_answer, Cond.selects RX2 yX2_answer yX2_answer, Cond.initialized RX2, Cond.code yX2_answer cX2_answer 3 (some .int), Cond.fieldLink RX2 37 "SlabHeap" "latestTrouble" "I", Cond.methodLink RX2 70 yX2_leadsTo, Cond.instanceMethod yX2_leadsTo, Cond.selects RX2 yX2_leadsTo yX2_leadsTo, Cond.code yX2_leadsTo cX2_leadsTo 6 (some .int), Cond.methodLink RX2 195 yX2_equalWords, Cond.instanceMethod yX2_equalWords, Cond.selects RX2 yX2_equalWords yX2_equalWords, Cond.code yX2_equalWords cX2_equalWords 6 (some .int), Cond.fieldLink RX2 10 "SlabHeap" "words" "LSlabHeap$Words;", Cond.methodLink RX2 92 yX1_at, Cond.instanceMethod yX1_at, Cond.selects RX1 yX1_at yX1_at, Cond.initialized RX1, Cond.code yX1_at cX1_at 2 (some .int), Cond.fieldLink RX1 9 "SlabHeap$Words" "now" "[I"]
def wsX2_free_r3 : List Cond := [Cond.static yX2_isWord, Cond.code yX2_isWord cX2_isWord 1 (some .boolean), Cond.methodLink RX2 111 yX2_listLive, Cond.instanceMethod yX2_listLive, Cond.selects RX2 yX2_listLive yX2_listLive, Cond.code yX2_listLive cX2_listLive 6 (some .int), Cond.fieldLink RX2 23 "SlabHeap" "row" "[I", Cond.methodLink RX2 189 yX0_slotsOf, Cond.instanceMethod yX0_slotsOf, Cond.selects RX0 yX0_slotsOf yX0_slotsOf, Cond.code yX0_slotsOf cX0_slotsOf 3 (some .int), Cond.methodLink RX2 192 yX0_blockIn, Cond.instanceMethod yX0_blockIn, Cond.selects RX0 yX0_blockIn yX0_blockIn, Cond.code yX0_blockIn cX0_blockIn 3 (some .int), Cond.methodLink RX2 114 yX2_rowAt, Cond.instanceMethod yX2_rowAt, Cond.selects RX2 yX2_rowAt yX2_rowAt, Cond.code yX2_rowAt cX2_rowAt 2 (some .int), Cond.methodLink RX2 63 yX2_wordOf, Cond.static yX2_wordOf, Cond.code yX2_wordOf cX2_wordOf 2 (some .int), Cond.methodLink RX2 83 yX2_refsOf, Cond.instanceMethod yX2_refsOf]
def wsX2_free_r4 : List Cond := [Cond.selects RX2 yX2_refsOf yX2_refsOf, Cond.code yX2_refsOf cX2_refsOf 2 (some .int), Cond.methodLink RX2 183 yX2_refsIn, Cond.static yX2_refsIn, Cond.code yX2_refsIn cX2_refsIn 1 (some .int), Cond.methodLink RX2 73 yX2_lengthOf, Cond.instanceMethod yX2_lengthOf, Cond.selects RX2 yX2_lengthOf yX2_lengthOf, Cond.code yX2_lengthOf cX2_lengthOf 2 (some .int), Cond.methodLink RX2 126 yX2_sizeOf, Cond.instanceMethod yX2_sizeOf, Cond.selects RX2 yX2_sizeOf yX2_sizeOf, Cond.code yX2_sizeOf cX2_sizeOf 2 (some .int), Cond.methodLink RX2 180 yX2_sizeIn, Cond.static yX2_sizeIn, Cond.code yX2_sizeIn cX2_sizeIn 1 (some .int), Cond.methodLink RX2 76 yX2_release, Cond.instanceMethod yX2_release, Cond.selects RX2 yX2_release yX2_release, Cond.code yX2_release cX2_release 2 none, Cond.methodLink RX2 198 yX0_remove, Cond.instanceMethod yX0_remove, Cond.selects RX0 yX0_remove yX0_remove, Cond.code yX0_remove cX0_remove 6 none]
def wsX2_free_r5 : List Cond := [Cond.static yX2_isPage, Cond.code yX2_isPage cX2_isPage 1 (some .boolean), Cond.methodLink RX0 90 yX0_lay, Cond.instanceMethod yX0_lay, Cond.selects RX0 yX0_lay yX0_lay, Cond.code yX0_lay cX0_lay 4 none, Cond.methodLink RX2 60 yX1_write, Cond.instanceMethod yX1_write, Cond.selects RX1 yX1_write yX1_write, Cond.code yX1_write cX1_write 4 none, Cond.fieldLink RX1 21 "SlabHeap$Words" "queued" "[Z", Cond.fieldLink RX1 25 "SlabHeap$Words" "queueLength" "I", Cond.fieldLink RX1 18 "SlabHeap$Words" "queue" "[I"]
def wsX2_free : List Cond := .code yX2_free cX2_free 3 (some .int) :: ((wsX2_free_r1 ++ (wsX2_free_r2 ++ (wsX2_free_r3 ++ (wsX2_free_r4 ++ wsX2_free_r5)))) ++ wsX20 ++ wsX00 ++ wsX10)
def wsX2_hasWord_r1 : List Cond := [Cond.fieldLink RX2 19 "SlabHeap" "pages" "LSlabHeap$Pages;", Cond.methodLink RX2 66 yX0_isLive, Cond.instanceMethod yX0_isLive, Cond.selects RX0 yX0_isLive yX0_isLive, Cond.initialized RX0, Cond.code yX0_isLive cX0_isLive 2 (some .boolean), Cond.methodLink RX0 60 yX0_pageOf, Cond.static yX0_pageOf, Cond.code yX0_pageOf cX0_pageOf 1 (some .int), Cond.methodLink RX0 63 yX0_slotAt, Cond.instanceMethod yX0_slotAt, Cond.selects RX0 yX0_slotAt yX0_slotAt, Cond.code yX0_slotAt cX0_slotAt 2 (some .int), Cond.methodLink RX0 53 yX0_stepOf, Cond.instanceMethod yX0_stepOf, Cond.selects RX0 yX0_stepOf yX0_stepOf, Cond.code yX0_stepOf cX0_stepOf 2 (some .int), Cond.fieldLink RX0 9 "SlabHeap$Pages" "kinds" "[I", Cond.fieldLink RX0 15 "SlabHeap$Pages" "forms" "[I", Cond.methodLink RX0 81 yX0_slotBy, Cond.static yX0_slotBy, Cond.code yX0_slotBy cX0_slotBy 3 (some .int), Cond.methodLink RX0 56 yX0_isTaken, Cond.instanceMethod yX0_isTaken]
def wsX2_hasWord_r2 : List Cond := [Cond.selects RX0 yX0_isTaken yX0_isTaken, Cond.code yX0_isTaken cX0_isTaken 3 (some .boolean), Cond.fieldLink RX0 18 "SlabHeap$Pages" "taken" "[I", Cond.methodLink RX2 126 yX2_sizeOf, Cond.instanceMethod yX2_sizeOf, Cond.selects RX2 yX2_sizeOf yX2_sizeOf, Cond.initialized RX2, Cond.code yX2_sizeOf cX2_sizeOf 2 (some .int), Cond.fieldLink RX2 10 "SlabHeap" "words" "LSlabHeap$Words;", Cond.methodLink RX2 92 yX1_at, Cond.instanceMethod yX1_at, Cond.selects RX1 yX1_at yX1_at, Cond.initialized RX1, Cond.code yX1_at cX1_at 2 (some .int), Cond.fieldLink RX1 9 "SlabHeap$Words" "now" "[I", Cond.static yX2_isWord, Cond.code yX2_isWord cX2_isWord 1 (some .boolean), Cond.methodLink RX2 180 yX2_sizeIn, Cond.static yX2_sizeIn, Cond.code yX2_sizeIn cX2_sizeIn 1 (some .int)]
def wsX2_hasWord : List Cond := .code yX2_hasWord cX2_hasWord 3 (some .boolean) :: ((wsX2_hasWord_r1 ++ wsX2_hasWord_r2) ++ wsX20 ++ wsX00 ++ wsX10)
def wsX2_settle : List Cond := .code yX2_settle cX2_settle 2 (some .boolean) :: ([.fieldLink RX2 37 "SlabHeap" "latestTrouble" "I"] ++ wsX20)
def wsX2_put_r1 : List Cond := [Cond.fieldLink RX2 10 "SlabHeap" "words" "LSlabHeap$Words;", Cond.methodLink RX2 80 yX2_hasWord, Cond.instanceMethod yX2_hasWord, Cond.selects RX2 yX2_hasWord yX2_hasWord, Cond.initialized RX2, Cond.code yX2_hasWord cX2_hasWord 3 (some .boolean), Cond.fieldLink RX2 19 "SlabHeap" "pages" "LSlabHeap$Pages;", Cond.methodLink RX2 66 yX0_isLive, Cond.instanceMethod yX0_isLive, Cond.selects RX0 yX0_isLive yX0_isLive, Cond.initialized RX0, Cond.code yX0_isLive cX0_isLive 2 (some .boolean), Cond.methodLink RX0 60 yX0_pageOf, Cond.static yX0_pageOf, Cond.code yX0_pageOf cX0_pageOf 1 (some .int), Cond.methodLink RX0 63 yX0_slotAt, Cond.instanceMethod yX0_slotAt, Cond.selects RX0 yX0_slotAt yX0_slotAt, Cond.code yX0_slotAt cX0_slotAt 2 (some .int), Cond.methodLink RX0 53 yX0_stepOf, Cond.instanceMethod yX0_stepOf, Cond.selects RX0 yX0_stepOf yX0_stepOf, Cond.code yX0_stepOf cX0_stepOf 2 (some .int), Cond.fieldLink RX0 9 "SlabHeap$Pages" "kinds" "[I"]
def wsX2_put_r2 : List Cond := [Cond.fieldLink RX0 15 "SlabHeap$Pages" "forms" "[I", Cond.methodLink RX0 81 yX0_slotBy, Cond.static yX0_slotBy, Cond.code yX0_slotBy cX0_slotBy 3 (some .int), Cond.methodLink RX0 56 yX0_isTaken, Cond.instanceMethod yX0_isTaken, Cond.selects RX0 yX0_isTaken yX0_isTaken, Cond.code yX0_isTaken cX0_isTaken 3 (some .boolean), Cond.fieldLink RX0 18 "SlabHeap$Pages" "taken" "[I", Cond.methodLink RX2 126 yX2_sizeOf, Cond.instanceMethod yX2_sizeOf, Cond.selects RX2 yX2_sizeOf yX2_sizeOf, Cond.code yX2_sizeOf cX2_sizeOf 2 (some .int), Cond.methodLink RX2 92 yX1_at, Cond.instanceMethod yX1_at, Cond.selects RX1 yX1_at yX1_at, Cond.initialized RX1, Cond.code yX1_at cX1_at 2 (some .int), Cond.fieldLink RX1 9 "SlabHeap$Words" "now" "[I", Cond.static yX2_isWord, Cond.code yX2_isWord cX2_isWord 1 (some .boolean), Cond.methodLink RX2 180 yX2_sizeIn, Cond.static yX2_sizeIn, Cond.code yX2_sizeIn cX2_sizeIn 1 (some .int)]
def wsX2_put_r3 : List Cond := [Cond.methodLink RX2 83 yX2_refsOf, Cond.instanceMethod yX2_refsOf, Cond.selects RX2 yX2_refsOf yX2_refsOf, Cond.code yX2_refsOf cX2_refsOf 2 (some .int), Cond.methodLink RX2 183 yX2_refsIn, Cond.static yX2_refsIn, Cond.code yX2_refsIn cX2_refsIn 1 (some .int), Cond.methodLink RX2 86 yX2_settle, Cond.instanceMethod yX2_settle, Cond.selects RX2 yX2_settle yX2_settle, Cond.code yX2_settle cX2_settle 2 (some .boolean), Cond.fieldLink RX2 37 "SlabHeap" "latestTrouble" "I", Cond.methodLink RX2 63 yX2_wordOf, Cond.static yX2_wordOf, Cond.code yX2_wordOf cX2_wordOf 2 (some .int), Cond.methodLink RX2 60 yX1_write, Cond.instanceMethod yX1_write, Cond.selects RX1 yX1_write yX1_write, Cond.code yX1_write cX1_write 4 none, Cond.fieldLink RX1 21 "SlabHeap$Words" "queued" "[Z", Cond.fieldLink RX1 25 "SlabHeap$Words" "queueLength" "I", Cond.fieldLink RX1 18 "SlabHeap$Words" "queue" "[I"]
def wsX2_put : List Cond := .code yX2_put cX2_put 4 (some .boolean) :: ((wsX2_put_r1 ++ (wsX2_put_r2 ++ wsX2_put_r3)) ++ wsX20 ++ wsX00 ++ wsX10)
def wsX2_isTarget_r1 : List Cond := [Cond.fieldLink RX2 19 "SlabHeap" "pages" "LSlabHeap$Pages;", Cond.methodLink RX2 66 yX0_isLive, Cond.instanceMethod yX0_isLive, Cond.selects RX0 yX0_isLive yX0_isLive, Cond.initialized RX0, Cond.code yX0_isLive cX0_isLive 2 (some .boolean), Cond.methodLink RX0 60 yX0_pageOf, Cond.static yX0_pageOf, Cond.code yX0_pageOf cX0_pageOf 1 (some .int), Cond.methodLink RX0 63 yX0_slotAt, Cond.instanceMethod yX0_slotAt, Cond.selects RX0 yX0_slotAt yX0_slotAt, Cond.code yX0_slotAt cX0_slotAt 2 (some .int), Cond.methodLink RX0 53 yX0_stepOf, Cond.instanceMethod yX0_stepOf, Cond.selects RX0 yX0_stepOf yX0_stepOf, Cond.code yX0_stepOf cX0_stepOf 2 (some .int), Cond.fieldLink RX0 9 "SlabHeap$Pages" "kinds" "[I", Cond.fieldLink RX0 15 "SlabHeap$Pages" "forms" "[I", Cond.methodLink RX0 81 yX0_slotBy, Cond.static yX0_slotBy, Cond.code yX0_slotBy cX0_slotBy 3 (some .int), Cond.methodLink RX0 56 yX0_isTaken, Cond.instanceMethod yX0_isTaken]
def wsX2_isTarget_r2 : List Cond := [Cond.selects RX0 yX0_isTaken yX0_isTaken, Cond.code yX0_isTaken cX0_isTaken 3 (some .boolean), Cond.fieldLink RX0 18 "SlabHeap$Pages" "taken" "[I"]
def wsX2_isTarget : List Cond := .code yX2_isTarget cX2_isTarget 2 (some .boolean) :: ((wsX2_isTarget_r1 ++ wsX2_isTarget_r2) ++ wsX20 ++ wsX00)
def wsX2_refer_r1 : List Cond := [Cond.fieldLink RX2 10 "SlabHeap" "words" "LSlabHeap$Words;", Cond.methodLink RX2 80 yX2_hasWord, Cond.instanceMethod yX2_hasWord, Cond.selects RX2 yX2_hasWord yX2_hasWord, Cond.initialized RX2, Cond.code yX2_hasWord cX2_hasWord 3 (some .boolean), Cond.fieldLink RX2 19 "SlabHeap" "pages" "LSlabHeap$Pages;", Cond.methodLink RX2 66 yX0_isLive, Cond.instanceMethod yX0_isLive, Cond.selects RX0 yX0_isLive yX0_isLive, Cond.initialized RX0, Cond.code yX0_isLive cX0_isLive 2 (some .boolean), Cond.methodLink RX0 60 yX0_pageOf, Cond.static yX0_pageOf, Cond.code yX0_pageOf cX0_pageOf 1 (some .int), Cond.methodLink RX0 63 yX0_slotAt, Cond.instanceMethod yX0_slotAt, Cond.selects RX0 yX0_slotAt yX0_slotAt, Cond.code yX0_slotAt cX0_slotAt 2 (some .int), Cond.methodLink RX0 53 yX0_stepOf, Cond.instanceMethod yX0_stepOf, Cond.selects RX0 yX0_stepOf yX0_stepOf, Cond.code yX0_stepOf cX0_stepOf 2 (some .int), Cond.fieldLink RX0 9 "SlabHeap$Pages" "kinds" "[I"]
def wsX2_refer_r2 : List Cond := [Cond.fieldLink RX0 15 "SlabHeap$Pages" "forms" "[I", Cond.methodLink RX0 81 yX0_slotBy, Cond.static yX0_slotBy, Cond.code yX0_slotBy cX0_slotBy 3 (some .int), Cond.methodLink RX0 56 yX0_isTaken, Cond.instanceMethod yX0_isTaken, Cond.selects RX0 yX0_isTaken yX0_isTaken, Cond.code yX0_isTaken cX0_isTaken 3 (some .boolean), Cond.fieldLink RX0 18 "SlabHeap$Pages" "taken" "[I", Cond.methodLink RX2 126 yX2_sizeOf, Cond.instanceMethod yX2_sizeOf, Cond.selects RX2 yX2_sizeOf yX2_sizeOf, Cond.code yX2_sizeOf cX2_sizeOf 2 (some .int), Cond.methodLink RX2 92 yX1_at, Cond.instanceMethod yX1_at, Cond.selects RX1 yX1_at yX1_at, Cond.initialized RX1, Cond.code yX1_at cX1_at 2 (some .int), Cond.fieldLink RX1 9 "SlabHeap$Words" "now" "[I", Cond.static yX2_isWord, Cond.code yX2_isWord cX2_isWord 1 (some .boolean), Cond.methodLink RX2 180 yX2_sizeIn, Cond.static yX2_sizeIn, Cond.code yX2_sizeIn cX2_sizeIn 1 (some .int)]
def wsX2_refer_r3 : List Cond := [Cond.methodLink RX2 83 yX2_refsOf, Cond.instanceMethod yX2_refsOf, Cond.selects RX2 yX2_refsOf yX2_refsOf, Cond.code yX2_refsOf cX2_refsOf 2 (some .int), Cond.methodLink RX2 183 yX2_refsIn, Cond.static yX2_refsIn, Cond.code yX2_refsIn cX2_refsIn 1 (some .int), Cond.methodLink RX2 89 yX2_isTarget, Cond.instanceMethod yX2_isTarget, Cond.selects RX2 yX2_isTarget yX2_isTarget, Cond.code yX2_isTarget cX2_isTarget 2 (some .boolean), Cond.methodLink RX2 86 yX2_settle, Cond.instanceMethod yX2_settle, Cond.selects RX2 yX2_settle yX2_settle, Cond.code yX2_settle cX2_settle 2 (some .boolean), Cond.fieldLink RX2 37 "SlabHeap" "latestTrouble" "I", Cond.methodLink RX2 63 yX2_wordOf, Cond.static yX2_wordOf, Cond.code yX2_wordOf cX2_wordOf 2 (some .int), Cond.methodLink RX2 60 yX1_write, Cond.instanceMethod yX1_write, Cond.selects RX1 yX1_write yX1_write, Cond.code yX1_write cX1_write 4 none, Cond.fieldLink RX1 21 "SlabHeap$Words" "queued" "[Z"]
def wsX2_refer_r4 : List Cond := [Cond.fieldLink RX1 25 "SlabHeap$Words" "queueLength" "I", Cond.fieldLink RX1 18 "SlabHeap$Words" "queue" "[I"]
def wsX2_refer : List Cond := .code yX2_refer cX2_refer 4 (some .boolean) :: ((wsX2_refer_r1 ++ (wsX2_refer_r2 ++ (wsX2_refer_r3 ++ wsX2_refer_r4))) ++ wsX20 ++ wsX00 ++ wsX10)
def wsX2_get_r1 : List Cond := [Cond.fieldLink RX2 10 "SlabHeap" "words" "LSlabHeap$Words;", Cond.methodLink RX2 80 yX2_hasWord, Cond.instanceMethod yX2_hasWord, Cond.selects RX2 yX2_hasWord yX2_hasWord, Cond.initialized RX2, Cond.code yX2_hasWord cX2_hasWord 3 (some .boolean), Cond.fieldLink RX2 19 "SlabHeap" "pages" "LSlabHeap$Pages;", Cond.methodLink RX2 66 yX0_isLive, Cond.instanceMethod yX0_isLive, Cond.selects RX0 yX0_isLive yX0_isLive, Cond.initialized RX0, Cond.code yX0_isLive cX0_isLive 2 (some .boolean), Cond.methodLink RX0 60 yX0_pageOf, Cond.static yX0_pageOf, Cond.code yX0_pageOf cX0_pageOf 1 (some .int), Cond.methodLink RX0 63 yX0_slotAt, Cond.instanceMethod yX0_slotAt, Cond.selects RX0 yX0_slotAt yX0_slotAt, Cond.code yX0_slotAt cX0_slotAt 2 (some .int), Cond.methodLink RX0 53 yX0_stepOf, Cond.instanceMethod yX0_stepOf, Cond.selects RX0 yX0_stepOf yX0_stepOf, Cond.code yX0_stepOf cX0_stepOf 2 (some .int), Cond.fieldLink RX0 9 "SlabHeap$Pages" "kinds" "[I"]
def wsX2_get_r2 : List Cond := [Cond.fieldLink RX0 15 "SlabHeap$Pages" "forms" "[I", Cond.methodLink RX0 81 yX0_slotBy, Cond.static yX0_slotBy, Cond.code yX0_slotBy cX0_slotBy 3 (some .int), Cond.methodLink RX0 56 yX0_isTaken, Cond.instanceMethod yX0_isTaken, Cond.selects RX0 yX0_isTaken yX0_isTaken, Cond.code yX0_isTaken cX0_isTaken 3 (some .boolean), Cond.fieldLink RX0 18 "SlabHeap$Pages" "taken" "[I", Cond.methodLink RX2 126 yX2_sizeOf, Cond.instanceMethod yX2_sizeOf, Cond.selects RX2 yX2_sizeOf yX2_sizeOf, Cond.code yX2_sizeOf cX2_sizeOf 2 (some .int), Cond.methodLink RX2 92 yX1_at, Cond.instanceMethod yX1_at, Cond.selects RX1 yX1_at yX1_at, Cond.initialized RX1, Cond.code yX1_at cX1_at 2 (some .int), Cond.fieldLink RX1 9 "SlabHeap$Words" "now" "[I", Cond.static yX2_isWord, Cond.code yX2_isWord cX2_isWord 1 (some .boolean), Cond.methodLink RX2 180 yX2_sizeIn, Cond.static yX2_sizeIn, Cond.code yX2_sizeIn cX2_sizeIn 1 (some .int)]
def wsX2_get_r3 : List Cond := [Cond.methodLink RX2 63 yX2_wordOf, Cond.static yX2_wordOf, Cond.code yX2_wordOf cX2_wordOf 2 (some .int)]
def wsX2_get : List Cond := .code yX2_get cX2_get 3 (some .int) :: ((wsX2_get_r1 ++ (wsX2_get_r2 ++ wsX2_get_r3)) ++ wsX20 ++ wsX00 ++ wsX10)
def wsX2_isRoot : List Cond := .code yX2_isRoot cX2_isRoot 1 (some .boolean) :: ([])
def wsX2_root_r1 : List Cond := [Cond.fieldLink RX2 10 "SlabHeap" "words" "LSlabHeap$Words;", Cond.methodLink RX2 95 yX2_isRoot, Cond.static yX2_isRoot, Cond.initialized RX2, Cond.code yX2_isRoot cX2_isRoot 1 (some .boolean), Cond.methodLink RX2 89 yX2_isTarget, Cond.instanceMethod yX2_isTarget, Cond.selects RX2 yX2_isTarget yX2_isTarget, Cond.code yX2_isTarget cX2_isTarget 2 (some .boolean), Cond.fieldLink RX2 19 "SlabHeap" "pages" "LSlabHeap$Pages;", Cond.methodLink RX2 66 yX0_isLive, Cond.instanceMethod yX0_isLive, Cond.selects RX0 yX0_isLive yX0_isLive, Cond.initialized RX0, Cond.code yX0_isLive cX0_isLive 2 (some .boolean), Cond.methodLink RX0 60 yX0_pageOf, Cond.static yX0_pageOf, Cond.code yX0_pageOf cX0_pageOf 1 (some .int), Cond.methodLink RX0 63 yX0_slotAt, Cond.instanceMethod yX0_slotAt, Cond.selects RX0 yX0_slotAt yX0_slotAt, Cond.code yX0_slotAt cX0_slotAt 2 (some .int), Cond.methodLink RX0 53 yX0_stepOf, Cond.instanceMethod yX0_stepOf]
def wsX2_root_r2 : List Cond := [Cond.selects RX0 yX0_stepOf yX0_stepOf, Cond.code yX0_stepOf cX0_stepOf 2 (some .int), Cond.fieldLink RX0 9 "SlabHeap$Pages" "kinds" "[I", Cond.fieldLink RX0 15 "SlabHeap$Pages" "forms" "[I", Cond.methodLink RX0 81 yX0_slotBy, Cond.static yX0_slotBy, Cond.code yX0_slotBy cX0_slotBy 3 (some .int), Cond.methodLink RX0 56 yX0_isTaken, Cond.instanceMethod yX0_isTaken, Cond.selects RX0 yX0_isTaken yX0_isTaken, Cond.code yX0_isTaken cX0_isTaken 3 (some .boolean), Cond.fieldLink RX0 18 "SlabHeap$Pages" "taken" "[I", Cond.methodLink RX2 86 yX2_settle, Cond.instanceMethod yX2_settle, Cond.selects RX2 yX2_settle yX2_settle, Cond.code yX2_settle cX2_settle 2 (some .boolean), Cond.fieldLink RX2 37 "SlabHeap" "latestTrouble" "I", Cond.methodLink RX2 60 yX1_write, Cond.instanceMethod yX1_write, Cond.selects RX1 yX1_write yX1_write, Cond.initialized RX1, Cond.code yX1_write cX1_write 4 none, Cond.fieldLink RX1 9 "SlabHeap$Words" "now" "[I", Cond.fieldLink RX1 21 "SlabHeap$Words" "queued" "[Z"]
def wsX2_root_r3 : List Cond := [Cond.fieldLink RX1 25 "SlabHeap$Words" "queueLength" "I", Cond.fieldLink RX1 18 "SlabHeap$Words" "queue" "[I", Cond.static yX2_isWord, Cond.code yX2_isWord cX2_isWord 1 (some .boolean)]
def wsX2_root : List Cond := .code yX2_root cX2_root 3 (some .boolean) :: ((wsX2_root_r1 ++ (wsX2_root_r2 ++ wsX2_root_r3)) ++ wsX20 ++ wsX00 ++ wsX10)
def wsX2_rootOf : List Cond := .code yX2_rootOf cX2_rootOf 2 (some .int) :: ([.fieldLink RX2 10 "SlabHeap" "words" "LSlabHeap$Words;", .methodLink RX2 95 yX2_isRoot, .static yX2_isRoot, .initialized RX2, .code yX2_isRoot cX2_isRoot 1 (some .boolean), .methodLink RX2 92 yX1_at, .instanceMethod yX1_at, .selects RX1 yX1_at yX1_at, .initialized RX1, .code yX1_at cX1_at 2 (some .int), .fieldLink RX1 9 "SlabHeap$Words" "now" "[I", .static yX2_isWord, .code yX2_isWord cX2_isWord 1 (some .boolean)] ++ wsX20 ++ wsX10)
def wsX2_fence : List Cond := .code yX2_fence cX2_fence 1 (some .int) :: ([.fieldLink RX2 10 "SlabHeap" "words" "LSlabHeap$Words;", .methodLink RX2 98 yX1_keepAll, .instanceMethod yX1_keepAll, .selects RX1 yX1_keepAll yX1_keepAll, .initialized RX1, .code yX1_keepAll cX1_keepAll 2 (some .int), .fieldLink RX1 25 "SlabHeap$Words" "queueLength" "I", .methodLink RX1 33 yX1_keepSome, .instanceMethod yX1_keepSome, .selects RX1 yX1_keepSome yX1_keepSome, .code yX1_keepSome cX1_keepSome 4 none, .fieldLink RX1 9 "SlabHeap$Words" "now" "[I", .fieldLink RX1 15 "SlabHeap$Words" "kept" "[I", .methodLink RX1 37 yX1_lineAt, .instanceMethod yX1_lineAt, .selects RX1 yX1_lineAt yX1_lineAt, .code yX1_lineAt cX1_lineAt 2 (some .int), .fieldLink RX1 18 "SlabHeap$Words" "queue" "[I", .methodLink RX1 41 yX1_settleLine, .instanceMethod yX1_settleLine, .selects RX1 yX1_settleLine yX1_settleLine, .code yX1_settleLine cX1_settleLine 5 none, .fieldLink RX1 21 "SlabHeap$Words" "queued" "[Z"] ++ wsX20 ++ wsX10)
def wsX2_canRevive_r1 : List Cond := [Cond.fieldLink RX2 10 "SlabHeap" "words" "LSlabHeap$Words;", Cond.fieldLink RX2 19 "SlabHeap" "pages" "LSlabHeap$Pages;", Cond.methodLink RX2 126 yX2_sizeOf, Cond.instanceMethod yX2_sizeOf, Cond.selects RX2 yX2_sizeOf yX2_sizeOf, Cond.initialized RX2, Cond.code yX2_sizeOf cX2_sizeOf 2 (some .int), Cond.methodLink RX2 92 yX1_at, Cond.instanceMethod yX1_at, Cond.selects RX1 yX1_at yX1_at, Cond.initialized RX1, Cond.code yX1_at cX1_at 2 (some .int), Cond.fieldLink RX1 9 "SlabHeap$Words" "now" "[I", Cond.static yX2_isWord, Cond.code yX2_isWord cX2_isWord 1 (some .boolean), Cond.methodLink RX2 180 yX2_sizeIn, Cond.static yX2_sizeIn, Cond.code yX2_sizeIn cX2_sizeIn 1 (some .int), Cond.methodLink RX2 83 yX2_refsOf, Cond.instanceMethod yX2_refsOf, Cond.selects RX2 yX2_refsOf yX2_refsOf, Cond.code yX2_refsOf cX2_refsOf 2 (some .int), Cond.methodLink RX2 183 yX2_refsIn, Cond.static yX2_refsIn]
def wsX2_canRevive_r2 : List Cond := [Cond.code yX2_refsIn cX2_refsIn 1 (some .int), Cond.methodLink RX2 40 yX2_isShape, Cond.static yX2_isShape, Cond.code yX2_isShape cX2_isShape 2 (some .boolean), Cond.methodLink RX2 56 yX2_headOf, Cond.static yX2_headOf, Cond.code yX2_headOf cX2_headOf 4 (some .int), Cond.constant RX2 176 (4194304), Cond.methodLink RX2 171 yJ9_floorMod_7cf53, Cond.static yJ9_floorMod_7cf53, Cond.initialized RJ9, Cond.code yJ9_floorMod_7cf53 cJ9_floorMod_7cf53 3 (some .int), Cond.methodLink RX2 222 yX0_canHold, Cond.instanceMethod yX0_canHold, Cond.selects RX0 yX0_canHold yX0_canHold, Cond.initialized RX0, Cond.code yX0_canHold cX0_canHold 6 (some .boolean), Cond.methodLink RX0 60 yX0_pageOf, Cond.static yX0_pageOf, Cond.code yX0_pageOf cX0_pageOf 1 (some .int), Cond.static yX2_classFor, Cond.code yX2_classFor cX2_classFor 5 (some .int), Cond.fieldLink RX2 177 "SlabHeap" "CLASSES" "[I", Cond.methodLink RX0 81 yX0_slotBy]
def wsX2_canRevive_r3 : List Cond := [Cond.static yX0_slotBy, Cond.code yX0_slotBy cX0_slotBy 3 (some .int), Cond.methodLink RX0 38 yX0_kindOf, Cond.instanceMethod yX0_kindOf, Cond.selects RX0 yX0_kindOf yX0_kindOf, Cond.code yX0_kindOf cX0_kindOf 2 (some .int), Cond.fieldLink RX0 9 "SlabHeap$Pages" "kinds" "[I", Cond.methodLink RX0 84 yX0_isSlabOf, Cond.instanceMethod yX0_isSlabOf, Cond.selects RX0 yX0_isSlabOf yX0_isSlabOf, Cond.code yX0_isSlabOf cX0_isSlabOf 3 (some .boolean), Cond.fieldLink RX0 15 "SlabHeap$Pages" "forms" "[I", Cond.static yX2_isPage, Cond.code yX2_isPage cX2_isPage 1 (some .boolean), Cond.static yX2_orderFor, Cond.code yX2_orderFor cX2_orderFor 2 (some .int), Cond.methodLink RX2 129 yX2_classFor, Cond.methodLink RX0 44 yX0_alignedTo, Cond.static yX0_alignedTo, Cond.code yX0_alignedTo cX0_alignedTo 2 (some .int), Cond.static yX2_isOrder, Cond.code yX2_isOrder cX2_isOrder 1 (some .boolean), Cond.methodLink RX0 87 yX0_isFreeRun, Cond.instanceMethod yX0_isFreeRun]
def wsX2_canRevive_r4 : List Cond := [Cond.selects RX0 yX0_isFreeRun yX0_isFreeRun, Cond.code yX0_isFreeRun cX0_isFreeRun 5 (some .boolean)]
def wsX2_canRevive : List Cond := .code yX2_canRevive cX2_canRevive 4 (some .boolean) :: ((wsX2_canRevive_r1 ++ (wsX2_canRevive_r2 ++ (wsX2_canRevive_r3 ++ wsX2_canRevive_r4))) ++ wsX20 ++ wsX10 ++ wsX00)
def wsX2_addFound : List Cond := .code yX2_addFound cX2_addFound 2 none :: ([.fieldLink RX2 27 "SlabHeap" "found" "I", .fieldLink RX2 23 "SlabHeap" "row" "[I"] ++ wsX20)
def wsX2_reviveFrom_r1 : List Cond := [Cond.fieldLink RX2 10 "SlabHeap" "words" "LSlabHeap$Words;", Cond.fieldLink RX2 19 "SlabHeap" "pages" "LSlabHeap$Pages;", Cond.fieldLink RX2 31 "SlabHeap" "cleared" "I", Cond.methodLink RX2 92 yX1_at, Cond.instanceMethod yX1_at, Cond.selects RX1 yX1_at yX1_at, Cond.initialized RX1, Cond.code yX1_at cX1_at 2 (some .int), Cond.fieldLink RX1 9 "SlabHeap$Words" "now" "[I", Cond.static yX2_isWord, Cond.initialized RX2, Cond.code yX2_isWord cX2_isWord 1 (some .boolean), Cond.methodLink RX2 89 yX2_isTarget, Cond.instanceMethod yX2_isTarget, Cond.selects RX2 yX2_isTarget yX2_isTarget, Cond.code yX2_isTarget cX2_isTarget 2 (some .boolean), Cond.methodLink RX2 66 yX0_isLive, Cond.instanceMethod yX0_isLive, Cond.selects RX0 yX0_isLive yX0_isLive, Cond.initialized RX0, Cond.code yX0_isLive cX0_isLive 2 (some .boolean), Cond.methodLink RX0 60 yX0_pageOf, Cond.static yX0_pageOf, Cond.code yX0_pageOf cX0_pageOf 1 (some .int)]
def wsX2_reviveFrom_r2 : List Cond := [Cond.methodLink RX0 63 yX0_slotAt, Cond.instanceMethod yX0_slotAt, Cond.selects RX0 yX0_slotAt yX0_slotAt, Cond.code yX0_slotAt cX0_slotAt 2 (some .int), Cond.methodLink RX0 53 yX0_stepOf, Cond.instanceMethod yX0_stepOf, Cond.selects RX0 yX0_stepOf yX0_stepOf, Cond.code yX0_stepOf cX0_stepOf 2 (some .int), Cond.fieldLink RX0 9 "SlabHeap$Pages" "kinds" "[I", Cond.fieldLink RX0 15 "SlabHeap$Pages" "forms" "[I", Cond.methodLink RX0 81 yX0_slotBy, Cond.static yX0_slotBy, Cond.code yX0_slotBy cX0_slotBy 3 (some .int), Cond.methodLink RX0 56 yX0_isTaken, Cond.instanceMethod yX0_isTaken, Cond.selects RX0 yX0_isTaken yX0_isTaken, Cond.code yX0_isTaken cX0_isTaken 3 (some .boolean), Cond.fieldLink RX0 18 "SlabHeap$Pages" "taken" "[I", Cond.methodLink RX2 219 yX2_canRevive, Cond.instanceMethod yX2_canRevive, Cond.selects RX2 yX2_canRevive yX2_canRevive, Cond.code yX2_canRevive cX2_canRevive 4 (some .boolean), Cond.methodLink RX2 126 yX2_sizeOf, Cond.instanceMethod yX2_sizeOf]
def wsX2_reviveFrom_r3 : List Cond := [Cond.selects RX2 yX2_sizeOf yX2_sizeOf, Cond.code yX2_sizeOf cX2_sizeOf 2 (some .int), Cond.methodLink RX2 180 yX2_sizeIn, Cond.static yX2_sizeIn, Cond.code yX2_sizeIn cX2_sizeIn 1 (some .int), Cond.methodLink RX2 83 yX2_refsOf, Cond.instanceMethod yX2_refsOf, Cond.selects RX2 yX2_refsOf yX2_refsOf, Cond.code yX2_refsOf cX2_refsOf 2 (some .int), Cond.methodLink RX2 183 yX2_refsIn, Cond.static yX2_refsIn, Cond.code yX2_refsIn cX2_refsIn 1 (some .int), Cond.methodLink RX2 40 yX2_isShape, Cond.static yX2_isShape, Cond.code yX2_isShape cX2_isShape 2 (some .boolean), Cond.methodLink RX2 56 yX2_headOf, Cond.static yX2_headOf, Cond.code yX2_headOf cX2_headOf 4 (some .int), Cond.constant RX2 176 (4194304), Cond.methodLink RX2 171 yJ9_floorMod_7cf53, Cond.static yJ9_floorMod_7cf53, Cond.initialized RJ9, Cond.code yJ9_floorMod_7cf53 cJ9_floorMod_7cf53 3 (some .int), Cond.methodLink RX2 222 yX0_canHold]
def wsX2_reviveFrom_r4 : List Cond := [Cond.instanceMethod yX0_canHold, Cond.selects RX0 yX0_canHold yX0_canHold, Cond.code yX0_canHold cX0_canHold 6 (some .boolean), Cond.static yX2_classFor, Cond.code yX2_classFor cX2_classFor 5 (some .int), Cond.fieldLink RX2 177 "SlabHeap" "CLASSES" "[I", Cond.methodLink RX0 38 yX0_kindOf, Cond.instanceMethod yX0_kindOf, Cond.selects RX0 yX0_kindOf yX0_kindOf, Cond.code yX0_kindOf cX0_kindOf 2 (some .int), Cond.methodLink RX0 84 yX0_isSlabOf, Cond.instanceMethod yX0_isSlabOf, Cond.selects RX0 yX0_isSlabOf yX0_isSlabOf, Cond.code yX0_isSlabOf cX0_isSlabOf 3 (some .boolean), Cond.static yX2_isPage, Cond.code yX2_isPage cX2_isPage 1 (some .boolean), Cond.static yX2_orderFor, Cond.code yX2_orderFor cX2_orderFor 2 (some .int), Cond.methodLink RX2 129 yX2_classFor, Cond.methodLink RX0 44 yX0_alignedTo, Cond.static yX0_alignedTo, Cond.code yX0_alignedTo cX0_alignedTo 2 (some .int), Cond.static yX2_isOrder, Cond.code yX2_isOrder cX2_isOrder 1 (some .boolean)]
def wsX2_reviveFrom_r5 : List Cond := [Cond.methodLink RX0 87 yX0_isFreeRun, Cond.instanceMethod yX0_isFreeRun, Cond.selects RX0 yX0_isFreeRun yX0_isFreeRun, Cond.code yX0_isFreeRun cX0_isFreeRun 5 (some .boolean), Cond.methodLink RX2 52 yX0_add, Cond.instanceMethod yX0_add, Cond.selects RX0 yX0_add yX0_add, Cond.code yX0_add cX0_add 6 none, Cond.methodLink RX0 90 yX0_lay, Cond.instanceMethod yX0_lay, Cond.selects RX0 yX0_lay yX0_lay, Cond.code yX0_lay cX0_lay 4 none, Cond.methodLink RX0 94 yX0_layExtent, Cond.instanceMethod yX0_layExtent, Cond.selects RX0 yX0_layExtent yX0_layExtent, Cond.code yX0_layExtent cX0_layExtent 5 none, Cond.methodLink RX2 210 yX2_addFound, Cond.instanceMethod yX2_addFound, Cond.selects RX2 yX2_addFound yX2_addFound, Cond.code yX2_addFound cX2_addFound 2 none, Cond.fieldLink RX2 27 "SlabHeap" "found" "I", Cond.fieldLink RX2 23 "SlabHeap" "row" "[I", Cond.methodLink RX2 60 yX1_write, Cond.instanceMethod yX1_write]
def wsX2_reviveFrom_r6 : List Cond := [Cond.selects RX1 yX1_write yX1_write, Cond.code yX1_write cX1_write 4 none, Cond.fieldLink RX1 21 "SlabHeap$Words" "queued" "[Z", Cond.fieldLink RX1 25 "SlabHeap$Words" "queueLength" "I", Cond.fieldLink RX1 18 "SlabHeap$Words" "queue" "[I"]
def wsX2_reviveFrom : List Cond := .code yX2_reviveFrom cX2_reviveFrom 5 none :: ((wsX2_reviveFrom_r1 ++ (wsX2_reviveFrom_r2 ++ (wsX2_reviveFrom_r3 ++ (wsX2_reviveFrom_r4 ++ (wsX2_reviveFrom_r5 ++ wsX2_reviveFrom_r6))))) ++ wsX20 ++ wsX10 ++ wsX00)
def wsX2_recover_r1 : List Cond := [Cond.fieldLink RX2 19 "SlabHeap" "pages" "LSlabHeap$Pages;", Cond.fieldLink RX2 27 "SlabHeap" "found" "I", Cond.fieldLink RX2 31 "SlabHeap" "cleared" "I", Cond.fieldLink RX2 23 "SlabHeap" "row" "[I", Cond.methodLink RX2 213 yX0_freeAll, Cond.instanceMethod yX0_freeAll, Cond.selects RX0 yX0_freeAll yX0_freeAll, Cond.initialized RX0, Cond.code yX0_freeAll cX0_freeAll 1 none, Cond.fieldLink RX0 9 "SlabHeap$Pages" "kinds" "[I", Cond.fieldLink RX0 18 "SlabHeap$Pages" "taken" "[I", Cond.methodLink RX0 24 yJ7_fill_53178, Cond.static yJ7_fill_53178, Cond.initialized RJ7, Cond.code yJ7_fill_53178 cJ7_fill_53178 4 none, Cond.methodLink RX2 216 yX2_reviveFrom, Cond.instanceMethod yX2_reviveFrom, Cond.selects RX2 yX2_reviveFrom yX2_reviveFrom, Cond.initialized RX2, Cond.code yX2_reviveFrom cX2_reviveFrom 5 none, Cond.fieldLink RX2 10 "SlabHeap" "words" "LSlabHeap$Words;", Cond.methodLink RX2 92 yX1_at, Cond.instanceMethod yX1_at, Cond.selects RX1 yX1_at yX1_at]
def wsX2_recover_r2 : List Cond := [Cond.initialized RX1, Cond.code yX1_at cX1_at 2 (some .int), Cond.fieldLink RX1 9 "SlabHeap$Words" "now" "[I", Cond.static yX2_isWord, Cond.code yX2_isWord cX2_isWord 1 (some .boolean), Cond.methodLink RX2 89 yX2_isTarget, Cond.instanceMethod yX2_isTarget, Cond.selects RX2 yX2_isTarget yX2_isTarget, Cond.code yX2_isTarget cX2_isTarget 2 (some .boolean), Cond.methodLink RX2 66 yX0_isLive, Cond.instanceMethod yX0_isLive, Cond.selects RX0 yX0_isLive yX0_isLive, Cond.code yX0_isLive cX0_isLive 2 (some .boolean), Cond.methodLink RX0 60 yX0_pageOf, Cond.static yX0_pageOf, Cond.code yX0_pageOf cX0_pageOf 1 (some .int), Cond.methodLink RX0 63 yX0_slotAt, Cond.instanceMethod yX0_slotAt, Cond.selects RX0 yX0_slotAt yX0_slotAt, Cond.code yX0_slotAt cX0_slotAt 2 (some .int), Cond.methodLink RX0 53 yX0_stepOf, Cond.instanceMethod yX0_stepOf, Cond.selects RX0 yX0_stepOf yX0_stepOf, Cond.code yX0_stepOf cX0_stepOf 2 (some .int)]
def wsX2_recover_r3 : List Cond := [Cond.fieldLink RX0 15 "SlabHeap$Pages" "forms" "[I", Cond.methodLink RX0 81 yX0_slotBy, Cond.static yX0_slotBy, Cond.code yX0_slotBy cX0_slotBy 3 (some .int), Cond.methodLink RX0 56 yX0_isTaken, Cond.instanceMethod yX0_isTaken, Cond.selects RX0 yX0_isTaken yX0_isTaken, Cond.code yX0_isTaken cX0_isTaken 3 (some .boolean), Cond.methodLink RX2 219 yX2_canRevive, Cond.instanceMethod yX2_canRevive, Cond.selects RX2 yX2_canRevive yX2_canRevive, Cond.code yX2_canRevive cX2_canRevive 4 (some .boolean), Cond.methodLink RX2 126 yX2_sizeOf, Cond.instanceMethod yX2_sizeOf, Cond.selects RX2 yX2_sizeOf yX2_sizeOf, Cond.code yX2_sizeOf cX2_sizeOf 2 (some .int), Cond.methodLink RX2 180 yX2_sizeIn, Cond.static yX2_sizeIn, Cond.code yX2_sizeIn cX2_sizeIn 1 (some .int), Cond.methodLink RX2 83 yX2_refsOf, Cond.instanceMethod yX2_refsOf, Cond.selects RX2 yX2_refsOf yX2_refsOf, Cond.code yX2_refsOf cX2_refsOf 2 (some .int), Cond.methodLink RX2 183 yX2_refsIn]
def wsX2_recover_r4 : List Cond := [Cond.static yX2_refsIn, Cond.code yX2_refsIn cX2_refsIn 1 (some .int), Cond.methodLink RX2 40 yX2_isShape, Cond.static yX2_isShape, Cond.code yX2_isShape cX2_isShape 2 (some .boolean), Cond.methodLink RX2 56 yX2_headOf, Cond.static yX2_headOf, Cond.code yX2_headOf cX2_headOf 4 (some .int), Cond.constant RX2 176 (4194304), Cond.methodLink RX2 171 yJ9_floorMod_7cf53, Cond.static yJ9_floorMod_7cf53, Cond.initialized RJ9, Cond.code yJ9_floorMod_7cf53 cJ9_floorMod_7cf53 3 (some .int), Cond.methodLink RX2 222 yX0_canHold, Cond.instanceMethod yX0_canHold, Cond.selects RX0 yX0_canHold yX0_canHold, Cond.code yX0_canHold cX0_canHold 6 (some .boolean), Cond.static yX2_classFor, Cond.code yX2_classFor cX2_classFor 5 (some .int), Cond.fieldLink RX2 177 "SlabHeap" "CLASSES" "[I", Cond.methodLink RX0 38 yX0_kindOf, Cond.instanceMethod yX0_kindOf, Cond.selects RX0 yX0_kindOf yX0_kindOf, Cond.code yX0_kindOf cX0_kindOf 2 (some .int)]
def wsX2_recover_r5 : List Cond := [Cond.methodLink RX0 84 yX0_isSlabOf, Cond.instanceMethod yX0_isSlabOf, Cond.selects RX0 yX0_isSlabOf yX0_isSlabOf, Cond.code yX0_isSlabOf cX0_isSlabOf 3 (some .boolean), Cond.static yX2_isPage, Cond.code yX2_isPage cX2_isPage 1 (some .boolean), Cond.static yX2_orderFor, Cond.code yX2_orderFor cX2_orderFor 2 (some .int), Cond.methodLink RX2 129 yX2_classFor, Cond.methodLink RX0 44 yX0_alignedTo, Cond.static yX0_alignedTo, Cond.code yX0_alignedTo cX0_alignedTo 2 (some .int), Cond.static yX2_isOrder, Cond.code yX2_isOrder cX2_isOrder 1 (some .boolean), Cond.methodLink RX0 87 yX0_isFreeRun, Cond.instanceMethod yX0_isFreeRun, Cond.selects RX0 yX0_isFreeRun yX0_isFreeRun, Cond.code yX0_isFreeRun cX0_isFreeRun 5 (some .boolean), Cond.methodLink RX2 52 yX0_add, Cond.instanceMethod yX0_add, Cond.selects RX0 yX0_add yX0_add, Cond.code yX0_add cX0_add 6 none, Cond.methodLink RX0 90 yX0_lay, Cond.instanceMethod yX0_lay]
def wsX2_recover_r6 : List Cond := [Cond.selects RX0 yX0_lay yX0_lay, Cond.code yX0_lay cX0_lay 4 none, Cond.methodLink RX0 94 yX0_layExtent, Cond.instanceMethod yX0_layExtent, Cond.selects RX0 yX0_layExtent yX0_layExtent, Cond.code yX0_layExtent cX0_layExtent 5 none, Cond.methodLink RX2 210 yX2_addFound, Cond.instanceMethod yX2_addFound, Cond.selects RX2 yX2_addFound yX2_addFound, Cond.code yX2_addFound cX2_addFound 2 none, Cond.methodLink RX2 60 yX1_write, Cond.instanceMethod yX1_write, Cond.selects RX1 yX1_write yX1_write, Cond.code yX1_write cX1_write 4 none, Cond.fieldLink RX1 21 "SlabHeap$Words" "queued" "[Z", Cond.fieldLink RX1 25 "SlabHeap$Words" "queueLength" "I", Cond.fieldLink RX1 18 "SlabHeap$Words" "queue" "[I", Cond.methodLink RX2 114 yX2_rowAt, Cond.instanceMethod yX2_rowAt, Cond.selects RX2 yX2_rowAt yX2_rowAt, Cond.code yX2_rowAt cX2_rowAt 2 (some .int), Cond.methodLink RX2 63 yX2_wordOf, Cond.static yX2_wordOf, Cond.code yX2_wordOf cX2_wordOf 2 (some .int)]
def wsX2_recover : List Cond := .code yX2_recover cX2_recover 3 none :: ((wsX2_recover_r1 ++ (wsX2_recover_r2 ++ (wsX2_recover_r3 ++ (wsX2_recover_r4 ++ (wsX2_recover_r5 ++ wsX2_recover_r6))))) ++ wsX20 ++ wsX00 ++ wsX10)
def wsX2_crash_r1 : List Cond := [Cond.fieldLink RX2 10 "SlabHeap" "words" "LSlabHeap$Words;", Cond.fieldLink RX2 34 "SlabHeap" "crashes" "I", Cond.fieldLink RX2 27 "SlabHeap" "found" "I", Cond.methodLink RX2 102 yX1_keepSome, Cond.instanceMethod yX1_keepSome, Cond.selects RX1 yX1_keepSome yX1_keepSome, Cond.initialized RX1, Cond.code yX1_keepSome cX1_keepSome 4 none, Cond.fieldLink RX1 25 "SlabHeap$Words" "queueLength" "I", Cond.fieldLink RX1 9 "SlabHeap$Words" "now" "[I", Cond.fieldLink RX1 15 "SlabHeap$Words" "kept" "[I", Cond.methodLink RX1 37 yX1_lineAt, Cond.instanceMethod yX1_lineAt, Cond.selects RX1 yX1_lineAt yX1_lineAt, Cond.code yX1_lineAt cX1_lineAt 2 (some .int), Cond.fieldLink RX1 18 "SlabHeap$Words" "queue" "[I", Cond.methodLink RX1 41 yX1_settleLine, Cond.instanceMethod yX1_settleLine, Cond.selects RX1 yX1_settleLine yX1_settleLine, Cond.code yX1_settleLine cX1_settleLine 5 none, Cond.fieldLink RX1 21 "SlabHeap$Words" "queued" "[Z", Cond.methodLink RX2 105 yX2_recover, Cond.instanceMethod yX2_recover, Cond.selects RX2 yX2_recover yX2_recover]
def wsX2_crash_r2 : List Cond := [Cond.initialized RX2, Cond.code yX2_recover cX2_recover 3 none, Cond.fieldLink RX2 19 "SlabHeap" "pages" "LSlabHeap$Pages;", Cond.fieldLink RX2 31 "SlabHeap" "cleared" "I", Cond.fieldLink RX2 23 "SlabHeap" "row" "[I", Cond.methodLink RX2 213 yX0_freeAll, Cond.instanceMethod yX0_freeAll, Cond.selects RX0 yX0_freeAll yX0_freeAll, Cond.initialized RX0, Cond.code yX0_freeAll cX0_freeAll 1 none, Cond.fieldLink RX0 9 "SlabHeap$Pages" "kinds" "[I", Cond.fieldLink RX0 18 "SlabHeap$Pages" "taken" "[I", Cond.methodLink RX0 24 yJ7_fill_53178, Cond.static yJ7_fill_53178, Cond.initialized RJ7, Cond.code yJ7_fill_53178 cJ7_fill_53178 4 none, Cond.methodLink RX2 216 yX2_reviveFrom, Cond.instanceMethod yX2_reviveFrom, Cond.selects RX2 yX2_reviveFrom yX2_reviveFrom, Cond.code yX2_reviveFrom cX2_reviveFrom 5 none, Cond.methodLink RX2 92 yX1_at, Cond.instanceMethod yX1_at, Cond.selects RX1 yX1_at yX1_at, Cond.code yX1_at cX1_at 2 (some .int)]
def wsX2_crash_r3 : List Cond := [Cond.static yX2_isWord, Cond.code yX2_isWord cX2_isWord 1 (some .boolean), Cond.methodLink RX2 89 yX2_isTarget, Cond.instanceMethod yX2_isTarget, Cond.selects RX2 yX2_isTarget yX2_isTarget, Cond.code yX2_isTarget cX2_isTarget 2 (some .boolean), Cond.methodLink RX2 66 yX0_isLive, Cond.instanceMethod yX0_isLive, Cond.selects RX0 yX0_isLive yX0_isLive, Cond.code yX0_isLive cX0_isLive 2 (some .boolean), Cond.methodLink RX0 60 yX0_pageOf, Cond.static yX0_pageOf, Cond.code yX0_pageOf cX0_pageOf 1 (some .int), Cond.methodLink RX0 63 yX0_slotAt, Cond.instanceMethod yX0_slotAt, Cond.selects RX0 yX0_slotAt yX0_slotAt, Cond.code yX0_slotAt cX0_slotAt 2 (some .int), Cond.methodLink RX0 53 yX0_stepOf, Cond.instanceMethod yX0_stepOf, Cond.selects RX0 yX0_stepOf yX0_stepOf, Cond.code yX0_stepOf cX0_stepOf 2 (some .int), Cond.fieldLink RX0 15 "SlabHeap$Pages" "forms" "[I", Cond.methodLink RX0 81 yX0_slotBy, Cond.static yX0_slotBy]
def wsX2_crash_r4 : List Cond := [Cond.code yX0_slotBy cX0_slotBy 3 (some .int), Cond.methodLink RX0 56 yX0_isTaken, Cond.instanceMethod yX0_isTaken, Cond.selects RX0 yX0_isTaken yX0_isTaken, Cond.code yX0_isTaken cX0_isTaken 3 (some .boolean), Cond.methodLink RX2 219 yX2_canRevive, Cond.instanceMethod yX2_canRevive, Cond.selects RX2 yX2_canRevive yX2_canRevive, Cond.code yX2_canRevive cX2_canRevive 4 (some .boolean), Cond.methodLink RX2 126 yX2_sizeOf, Cond.instanceMethod yX2_sizeOf, Cond.selects RX2 yX2_sizeOf yX2_sizeOf, Cond.code yX2_sizeOf cX2_sizeOf 2 (some .int), Cond.methodLink RX2 180 yX2_sizeIn, Cond.static yX2_sizeIn, Cond.code yX2_sizeIn cX2_sizeIn 1 (some .int), Cond.methodLink RX2 83 yX2_refsOf, Cond.instanceMethod yX2_refsOf, Cond.selects RX2 yX2_refsOf yX2_refsOf, Cond.code yX2_refsOf cX2_refsOf 2 (some .int), Cond.methodLink RX2 183 yX2_refsIn, Cond.static yX2_refsIn, Cond.code yX2_refsIn cX2_refsIn 1 (some .int), Cond.methodLink RX2 40 yX2_isShape]
def wsX2_crash_r5 : List Cond := [Cond.static yX2_isShape, Cond.code yX2_isShape cX2_isShape 2 (some .boolean), Cond.methodLink RX2 56 yX2_headOf, Cond.static yX2_headOf, Cond.code yX2_headOf cX2_headOf 4 (some .int), Cond.constant RX2 176 (4194304), Cond.methodLink RX2 171 yJ9_floorMod_7cf53, Cond.static yJ9_floorMod_7cf53, Cond.initialized RJ9, Cond.code yJ9_floorMod_7cf53 cJ9_floorMod_7cf53 3 (some .int), Cond.methodLink RX2 222 yX0_canHold, Cond.instanceMethod yX0_canHold, Cond.selects RX0 yX0_canHold yX0_canHold, Cond.code yX0_canHold cX0_canHold 6 (some .boolean), Cond.static yX2_classFor, Cond.code yX2_classFor cX2_classFor 5 (some .int), Cond.fieldLink RX2 177 "SlabHeap" "CLASSES" "[I", Cond.methodLink RX0 38 yX0_kindOf, Cond.instanceMethod yX0_kindOf, Cond.selects RX0 yX0_kindOf yX0_kindOf, Cond.code yX0_kindOf cX0_kindOf 2 (some .int), Cond.methodLink RX0 84 yX0_isSlabOf, Cond.instanceMethod yX0_isSlabOf, Cond.selects RX0 yX0_isSlabOf yX0_isSlabOf]
def wsX2_crash_r6 : List Cond := [Cond.code yX0_isSlabOf cX0_isSlabOf 3 (some .boolean), Cond.static yX2_isPage, Cond.code yX2_isPage cX2_isPage 1 (some .boolean), Cond.static yX2_orderFor, Cond.code yX2_orderFor cX2_orderFor 2 (some .int), Cond.methodLink RX2 129 yX2_classFor, Cond.methodLink RX0 44 yX0_alignedTo, Cond.static yX0_alignedTo, Cond.code yX0_alignedTo cX0_alignedTo 2 (some .int), Cond.static yX2_isOrder, Cond.code yX2_isOrder cX2_isOrder 1 (some .boolean), Cond.methodLink RX0 87 yX0_isFreeRun, Cond.instanceMethod yX0_isFreeRun, Cond.selects RX0 yX0_isFreeRun yX0_isFreeRun, Cond.code yX0_isFreeRun cX0_isFreeRun 5 (some .boolean), Cond.methodLink RX2 52 yX0_add, Cond.instanceMethod yX0_add, Cond.selects RX0 yX0_add yX0_add, Cond.code yX0_add cX0_add 6 none, Cond.methodLink RX0 90 yX0_lay, Cond.instanceMethod yX0_lay, Cond.selects RX0 yX0_lay yX0_lay, Cond.code yX0_lay cX0_lay 4 none, Cond.methodLink RX0 94 yX0_layExtent]
def wsX2_crash_r7 : List Cond := [Cond.instanceMethod yX0_layExtent, Cond.selects RX0 yX0_layExtent yX0_layExtent, Cond.code yX0_layExtent cX0_layExtent 5 none, Cond.methodLink RX2 210 yX2_addFound, Cond.instanceMethod yX2_addFound, Cond.selects RX2 yX2_addFound yX2_addFound, Cond.code yX2_addFound cX2_addFound 2 none, Cond.methodLink RX2 60 yX1_write, Cond.instanceMethod yX1_write, Cond.selects RX1 yX1_write yX1_write, Cond.code yX1_write cX1_write 4 none, Cond.methodLink RX2 114 yX2_rowAt, Cond.instanceMethod yX2_rowAt, Cond.selects RX2 yX2_rowAt yX2_rowAt, Cond.code yX2_rowAt cX2_rowAt 2 (some .int), Cond.methodLink RX2 63 yX2_wordOf, Cond.static yX2_wordOf, Cond.code yX2_wordOf cX2_wordOf 2 (some .int)]
def wsX2_crash : List Cond := .code yX2_crash cX2_crash 2 (some .int) :: ((wsX2_crash_r1 ++ (wsX2_crash_r2 ++ (wsX2_crash_r3 ++ (wsX2_crash_r4 ++ (wsX2_crash_r5 ++ (wsX2_crash_r6 ++ wsX2_crash_r7)))))) ++ wsX20 ++ wsX10 ++ wsX00)
def wsX2_markFrom_r1 : List Cond := [Cond.fieldLink RX2 10 "SlabHeap" "words" "LSlabHeap$Words;", Cond.fieldLink RX2 19 "SlabHeap" "pages" "LSlabHeap$Pages;", Cond.methodLink RX2 92 yX1_at, Cond.instanceMethod yX1_at, Cond.selects RX1 yX1_at yX1_at, Cond.initialized RX1, Cond.code yX1_at cX1_at 2 (some .int), Cond.fieldLink RX1 9 "SlabHeap$Words" "now" "[I", Cond.static yX2_isWord, Cond.initialized RX2, Cond.code yX2_isWord cX2_isWord 1 (some .boolean), Cond.methodLink RX2 207 yX0_mark, Cond.instanceMethod yX0_mark, Cond.selects RX0 yX0_mark yX0_mark, Cond.initialized RX0, Cond.code yX0_mark cX0_mark 3 (some .boolean), Cond.fieldLink RX0 21 "SlabHeap$Pages" "marks" "[I", Cond.methodLink RX0 60 yX0_pageOf, Cond.static yX0_pageOf, Cond.code yX0_pageOf cX0_pageOf 1 (some .int), Cond.static yX2_isPage, Cond.code yX2_isPage cX2_isPage 1 (some .boolean), Cond.methodLink RX0 98 yX0_isLive, Cond.instanceMethod yX0_isLive]
def wsX2_markFrom_r2 : List Cond := [Cond.selects RX0 yX0_isLive yX0_isLive, Cond.code yX0_isLive cX0_isLive 2 (some .boolean), Cond.methodLink RX0 63 yX0_slotAt, Cond.instanceMethod yX0_slotAt, Cond.selects RX0 yX0_slotAt yX0_slotAt, Cond.code yX0_slotAt cX0_slotAt 2 (some .int), Cond.methodLink RX0 53 yX0_stepOf, Cond.instanceMethod yX0_stepOf, Cond.selects RX0 yX0_stepOf yX0_stepOf, Cond.code yX0_stepOf cX0_stepOf 2 (some .int), Cond.fieldLink RX0 9 "SlabHeap$Pages" "kinds" "[I", Cond.fieldLink RX0 15 "SlabHeap$Pages" "forms" "[I", Cond.methodLink RX0 81 yX0_slotBy, Cond.static yX0_slotBy, Cond.code yX0_slotBy cX0_slotBy 3 (some .int), Cond.methodLink RX0 56 yX0_isTaken, Cond.instanceMethod yX0_isTaken, Cond.selects RX0 yX0_isTaken yX0_isTaken, Cond.code yX0_isTaken cX0_isTaken 3 (some .boolean), Cond.fieldLink RX0 18 "SlabHeap$Pages" "taken" "[I", Cond.methodLink RX0 101 yX0_isMarked, Cond.instanceMethod yX0_isMarked, Cond.selects RX0 yX0_isMarked yX0_isMarked, Cond.code yX0_isMarked cX0_isMarked 4 (some .boolean)]
def wsX2_markFrom_r3 : List Cond := [Cond.methodLink RX2 210 yX2_addFound, Cond.instanceMethod yX2_addFound, Cond.selects RX2 yX2_addFound yX2_addFound, Cond.code yX2_addFound cX2_addFound 2 none, Cond.fieldLink RX2 27 "SlabHeap" "found" "I", Cond.fieldLink RX2 23 "SlabHeap" "row" "[I"]
def wsX2_markFrom : List Cond := .code yX2_markFrom cX2_markFrom 5 none :: ((wsX2_markFrom_r1 ++ (wsX2_markFrom_r2 ++ wsX2_markFrom_r3)) ++ wsX20 ++ wsX10 ++ wsX00)
def wsX2_markReached_r1 : List Cond := [Cond.fieldLink RX2 19 "SlabHeap" "pages" "LSlabHeap$Pages;", Cond.fieldLink RX2 27 "SlabHeap" "found" "I", Cond.fieldLink RX2 23 "SlabHeap" "row" "[I", Cond.methodLink RX2 201 yX0_clearMarks, Cond.instanceMethod yX0_clearMarks, Cond.selects RX0 yX0_clearMarks yX0_clearMarks, Cond.initialized RX0, Cond.code yX0_clearMarks cX0_clearMarks 1 none, Cond.fieldLink RX0 21 "SlabHeap$Pages" "marks" "[I", Cond.methodLink RX0 24 yJ7_fill_53178, Cond.static yJ7_fill_53178, Cond.initialized RJ7, Cond.code yJ7_fill_53178 cJ7_fill_53178 4 none, Cond.methodLink RX2 204 yX2_markFrom, Cond.instanceMethod yX2_markFrom, Cond.selects RX2 yX2_markFrom yX2_markFrom, Cond.initialized RX2, Cond.code yX2_markFrom cX2_markFrom 5 none, Cond.fieldLink RX2 10 "SlabHeap" "words" "LSlabHeap$Words;", Cond.methodLink RX2 92 yX1_at, Cond.instanceMethod yX1_at, Cond.selects RX1 yX1_at yX1_at, Cond.initialized RX1, Cond.code yX1_at cX1_at 2 (some .int)]
def wsX2_markReached_r2 : List Cond := [Cond.fieldLink RX1 9 "SlabHeap$Words" "now" "[I", Cond.static yX2_isWord, Cond.code yX2_isWord cX2_isWord 1 (some .boolean), Cond.methodLink RX2 207 yX0_mark, Cond.instanceMethod yX0_mark, Cond.selects RX0 yX0_mark yX0_mark, Cond.code yX0_mark cX0_mark 3 (some .boolean), Cond.methodLink RX0 60 yX0_pageOf, Cond.static yX0_pageOf, Cond.code yX0_pageOf cX0_pageOf 1 (some .int), Cond.static yX2_isPage, Cond.code yX2_isPage cX2_isPage 1 (some .boolean), Cond.methodLink RX0 98 yX0_isLive, Cond.instanceMethod yX0_isLive, Cond.selects RX0 yX0_isLive yX0_isLive, Cond.code yX0_isLive cX0_isLive 2 (some .boolean), Cond.methodLink RX0 63 yX0_slotAt, Cond.instanceMethod yX0_slotAt, Cond.selects RX0 yX0_slotAt yX0_slotAt, Cond.code yX0_slotAt cX0_slotAt 2 (some .int), Cond.methodLink RX0 53 yX0_stepOf, Cond.instanceMethod yX0_stepOf, Cond.selects RX0 yX0_stepOf yX0_stepOf, Cond.code yX0_stepOf cX0_stepOf 2 (some .int)]
def wsX2_markReached_r3 : List Cond := [Cond.fieldLink RX0 9 "SlabHeap$Pages" "kinds" "[I", Cond.fieldLink RX0 15 "SlabHeap$Pages" "forms" "[I", Cond.methodLink RX0 81 yX0_slotBy, Cond.static yX0_slotBy, Cond.code yX0_slotBy cX0_slotBy 3 (some .int), Cond.methodLink RX0 56 yX0_isTaken, Cond.instanceMethod yX0_isTaken, Cond.selects RX0 yX0_isTaken yX0_isTaken, Cond.code yX0_isTaken cX0_isTaken 3 (some .boolean), Cond.fieldLink RX0 18 "SlabHeap$Pages" "taken" "[I", Cond.methodLink RX0 101 yX0_isMarked, Cond.instanceMethod yX0_isMarked, Cond.selects RX0 yX0_isMarked yX0_isMarked, Cond.code yX0_isMarked cX0_isMarked 4 (some .boolean), Cond.methodLink RX2 210 yX2_addFound, Cond.instanceMethod yX2_addFound, Cond.selects RX2 yX2_addFound yX2_addFound, Cond.code yX2_addFound cX2_addFound 2 none, Cond.methodLink RX2 114 yX2_rowAt, Cond.instanceMethod yX2_rowAt, Cond.selects RX2 yX2_rowAt yX2_rowAt, Cond.code yX2_rowAt cX2_rowAt 2 (some .int), Cond.methodLink RX2 63 yX2_wordOf, Cond.static yX2_wordOf]
def wsX2_markReached_r4 : List Cond := [Cond.code yX2_wordOf cX2_wordOf 2 (some .int), Cond.methodLink RX2 83 yX2_refsOf, Cond.instanceMethod yX2_refsOf, Cond.selects RX2 yX2_refsOf yX2_refsOf, Cond.code yX2_refsOf cX2_refsOf 2 (some .int), Cond.methodLink RX2 183 yX2_refsIn, Cond.static yX2_refsIn, Cond.code yX2_refsIn cX2_refsIn 1 (some .int)]
def wsX2_markReached : List Cond := .code yX2_markReached cX2_markReached 3 none :: ((wsX2_markReached_r1 ++ (wsX2_markReached_r2 ++ (wsX2_markReached_r3 ++ wsX2_markReached_r4))) ++ wsX20 ++ wsX00 ++ wsX10)
def wsX2_collect_r1 : List Cond := [Cond.fieldLink RX2 19 "SlabHeap" "pages" "LSlabHeap$Pages;", Cond.methodLink RX2 108 yX2_markReached, Cond.instanceMethod yX2_markReached, Cond.selects RX2 yX2_markReached yX2_markReached, Cond.initialized RX2, Cond.code yX2_markReached cX2_markReached 3 none, Cond.fieldLink RX2 27 "SlabHeap" "found" "I", Cond.fieldLink RX2 23 "SlabHeap" "row" "[I", Cond.methodLink RX2 201 yX0_clearMarks, Cond.instanceMethod yX0_clearMarks, Cond.selects RX0 yX0_clearMarks yX0_clearMarks, Cond.initialized RX0, Cond.code yX0_clearMarks cX0_clearMarks 1 none, Cond.fieldLink RX0 21 "SlabHeap$Pages" "marks" "[I", Cond.methodLink RX0 24 yJ7_fill_53178, Cond.static yJ7_fill_53178, Cond.initialized RJ7, Cond.code yJ7_fill_53178 cJ7_fill_53178 4 none, Cond.methodLink RX2 204 yX2_markFrom, Cond.instanceMethod yX2_markFrom, Cond.selects RX2 yX2_markFrom yX2_markFrom, Cond.code yX2_markFrom cX2_markFrom 5 none, Cond.fieldLink RX2 10 "SlabHeap" "words" "LSlabHeap$Words;", Cond.methodLink RX2 92 yX1_at]
def wsX2_collect_r2 : List Cond := [Cond.instanceMethod yX1_at, Cond.selects RX1 yX1_at yX1_at, Cond.initialized RX1, Cond.code yX1_at cX1_at 2 (some .int), Cond.fieldLink RX1 9 "SlabHeap$Words" "now" "[I", Cond.static yX2_isWord, Cond.code yX2_isWord cX2_isWord 1 (some .boolean), Cond.methodLink RX2 207 yX0_mark, Cond.instanceMethod yX0_mark, Cond.selects RX0 yX0_mark yX0_mark, Cond.code yX0_mark cX0_mark 3 (some .boolean), Cond.methodLink RX0 60 yX0_pageOf, Cond.static yX0_pageOf, Cond.code yX0_pageOf cX0_pageOf 1 (some .int), Cond.static yX2_isPage, Cond.code yX2_isPage cX2_isPage 1 (some .boolean), Cond.methodLink RX0 98 yX0_isLive, Cond.instanceMethod yX0_isLive, Cond.selects RX0 yX0_isLive yX0_isLive, Cond.code yX0_isLive cX0_isLive 2 (some .boolean), Cond.methodLink RX0 63 yX0_slotAt, Cond.instanceMethod yX0_slotAt, Cond.selects RX0 yX0_slotAt yX0_slotAt, Cond.code yX0_slotAt cX0_slotAt 2 (some .int)]
def wsX2_collect_r3 : List Cond := [Cond.methodLink RX0 53 yX0_stepOf, Cond.instanceMethod yX0_stepOf, Cond.selects RX0 yX0_stepOf yX0_stepOf, Cond.code yX0_stepOf cX0_stepOf 2 (some .int), Cond.fieldLink RX0 9 "SlabHeap$Pages" "kinds" "[I", Cond.fieldLink RX0 15 "SlabHeap$Pages" "forms" "[I", Cond.methodLink RX0 81 yX0_slotBy, Cond.static yX0_slotBy, Cond.code yX0_slotBy cX0_slotBy 3 (some .int), Cond.methodLink RX0 56 yX0_isTaken, Cond.instanceMethod yX0_isTaken, Cond.selects RX0 yX0_isTaken yX0_isTaken, Cond.code yX0_isTaken cX0_isTaken 3 (some .boolean), Cond.fieldLink RX0 18 "SlabHeap$Pages" "taken" "[I", Cond.methodLink RX0 101 yX0_isMarked, Cond.instanceMethod yX0_isMarked, Cond.selects RX0 yX0_isMarked yX0_isMarked, Cond.code yX0_isMarked cX0_isMarked 4 (some .boolean), Cond.methodLink RX2 210 yX2_addFound, Cond.instanceMethod yX2_addFound, Cond.selects RX2 yX2_addFound yX2_addFound, Cond.code yX2_addFound cX2_addFound 2 none, Cond.methodLink RX2 114 yX2_rowAt, Cond.instanceMethod yX2_rowAt]
def wsX2_collect_r4 : List Cond := [Cond.selects RX2 yX2_rowAt yX2_rowAt, Cond.code yX2_rowAt cX2_rowAt 2 (some .int), Cond.methodLink RX2 63 yX2_wordOf, Cond.static yX2_wordOf, Cond.code yX2_wordOf cX2_wordOf 2 (some .int), Cond.methodLink RX2 83 yX2_refsOf, Cond.instanceMethod yX2_refsOf, Cond.selects RX2 yX2_refsOf yX2_refsOf, Cond.code yX2_refsOf cX2_refsOf 2 (some .int), Cond.methodLink RX2 183 yX2_refsIn, Cond.static yX2_refsIn, Cond.code yX2_refsIn cX2_refsIn 1 (some .int), Cond.methodLink RX2 111 yX2_listLive, Cond.instanceMethod yX2_listLive, Cond.selects RX2 yX2_listLive yX2_listLive, Cond.code yX2_listLive cX2_listLive 6 (some .int), Cond.methodLink RX2 189 yX0_slotsOf, Cond.instanceMethod yX0_slotsOf, Cond.selects RX0 yX0_slotsOf yX0_slotsOf, Cond.code yX0_slotsOf cX0_slotsOf 3 (some .int), Cond.methodLink RX2 192 yX0_blockIn, Cond.instanceMethod yX0_blockIn, Cond.selects RX0 yX0_blockIn yX0_blockIn, Cond.code yX0_blockIn cX0_blockIn 3 (some .int)]
def wsX2_collect_r5 : List Cond := [Cond.methodLink RX2 117 yX0_isMarked, Cond.methodLink RX2 76 yX2_release, Cond.instanceMethod yX2_release, Cond.selects RX2 yX2_release yX2_release, Cond.code yX2_release cX2_release 2 none, Cond.methodLink RX2 198 yX0_remove, Cond.instanceMethod yX0_remove, Cond.selects RX0 yX0_remove yX0_remove, Cond.code yX0_remove cX0_remove 6 none, Cond.methodLink RX0 90 yX0_lay, Cond.instanceMethod yX0_lay, Cond.selects RX0 yX0_lay yX0_lay, Cond.code yX0_lay cX0_lay 4 none, Cond.methodLink RX2 60 yX1_write, Cond.instanceMethod yX1_write, Cond.selects RX1 yX1_write yX1_write, Cond.code yX1_write cX1_write 4 none, Cond.fieldLink RX1 21 "SlabHeap$Words" "queued" "[Z", Cond.fieldLink RX1 25 "SlabHeap$Words" "queueLength" "I", Cond.fieldLink RX1 18 "SlabHeap$Words" "queue" "[I"]
def wsX2_collect : List Cond := .code yX2_collect cX2_collect 5 (some .int) :: ((wsX2_collect_r1 ++ (wsX2_collect_r2 ++ (wsX2_collect_r3 ++ (wsX2_collect_r4 ++ wsX2_collect_r5)))) ++ wsX20 ++ wsX00 ++ wsX10)
def wsX2_word : List Cond := .code yX2_word cX2_word 3 (some .int) :: ([.fieldLink RX2 10 "SlabHeap" "words" "LSlabHeap$Words;", .methodLink RX2 120 yX1_keptAt, .instanceMethod yX1_keptAt, .selects RX1 yX1_keptAt yX1_keptAt, .initialized RX1, .code yX1_keptAt cX1_keptAt 2 (some .int), .fieldLink RX1 15 "SlabHeap$Words" "kept" "[I", .static yX2_isWord, .initialized RX2, .code yX2_isWord cX2_isWord 1 (some .boolean), .methodLink RX2 92 yX1_at, .instanceMethod yX1_at, .selects RX1 yX1_at yX1_at, .code yX1_at cX1_at 2 (some .int), .fieldLink RX1 9 "SlabHeap$Words" "now" "[I"] ++ wsX20 ++ wsX10)
def wsX2_isOfBlock_r1 : List Cond := [Cond.fieldLink RX2 19 "SlabHeap" "pages" "LSlabHeap$Pages;", Cond.methodLink RX2 186 yX0_blockOver, Cond.instanceMethod yX0_blockOver, Cond.selects RX0 yX0_blockOver yX0_blockOver, Cond.initialized RX0, Cond.code yX0_blockOver cX0_blockOver 4 (some .int), Cond.fieldLink RX0 9 "SlabHeap$Pages" "kinds" "[I", Cond.fieldLink RX0 15 "SlabHeap$Pages" "forms" "[I", Cond.methodLink RX0 60 yX0_pageOf, Cond.static yX0_pageOf, Cond.code yX0_pageOf cX0_pageOf 1 (some .int), Cond.static yX2_isPage, Cond.initialized RX2, Cond.code yX2_isPage cX2_isPage 1 (some .boolean), Cond.methodLink RX0 44 yX0_alignedTo, Cond.static yX0_alignedTo, Cond.code yX0_alignedTo cX0_alignedTo 2 (some .int), Cond.static yX2_isOrder, Cond.code yX2_isOrder cX2_isOrder 1 (some .boolean), Cond.methodLink RX0 66 yX0_blockIn, Cond.instanceMethod yX0_blockIn, Cond.selects RX0 yX0_blockIn yX0_blockIn, Cond.code yX0_blockIn cX0_blockIn 3 (some .int), Cond.methodLink RX0 56 yX0_isTaken]
def wsX2_isOfBlock_r2 : List Cond := [Cond.instanceMethod yX0_isTaken, Cond.selects RX0 yX0_isTaken yX0_isTaken, Cond.code yX0_isTaken cX0_isTaken 3 (some .boolean), Cond.fieldLink RX0 18 "SlabHeap$Pages" "taken" "[I", Cond.methodLink RX0 53 yX0_stepOf, Cond.instanceMethod yX0_stepOf, Cond.selects RX0 yX0_stepOf yX0_stepOf, Cond.code yX0_stepOf cX0_stepOf 2 (some .int), Cond.methodLink RX2 73 yX2_lengthOf, Cond.instanceMethod yX2_lengthOf, Cond.selects RX2 yX2_lengthOf yX2_lengthOf, Cond.code yX2_lengthOf cX2_lengthOf 2 (some .int), Cond.methodLink RX2 126 yX2_sizeOf, Cond.instanceMethod yX2_sizeOf, Cond.selects RX2 yX2_sizeOf yX2_sizeOf, Cond.code yX2_sizeOf cX2_sizeOf 2 (some .int), Cond.fieldLink RX2 10 "SlabHeap" "words" "LSlabHeap$Words;", Cond.methodLink RX2 92 yX1_at, Cond.instanceMethod yX1_at, Cond.selects RX1 yX1_at yX1_at, Cond.initialized RX1, Cond.code yX1_at cX1_at 2 (some .int), Cond.fieldLink RX1 9 "SlabHeap$Words" "now" "[I", Cond.static yX2_isWord]
def wsX2_isOfBlock_r3 : List Cond := [Cond.code yX2_isWord cX2_isWord 1 (some .boolean), Cond.methodLink RX2 180 yX2_sizeIn, Cond.static yX2_sizeIn, Cond.code yX2_sizeIn cX2_sizeIn 1 (some .int)]
def wsX2_isOfBlock : List Cond := .code yX2_isOfBlock cX2_isOfBlock 3 (some .boolean) :: ((wsX2_isOfBlock_r1 ++ (wsX2_isOfBlock_r2 ++ wsX2_isOfBlock_r3)) ++ wsX20 ++ wsX00 ++ wsX10)
def wsX2_scribble_r1 : List Cond := [Cond.fieldLink RX2 10 "SlabHeap" "words" "LSlabHeap$Words;", Cond.methodLink RX2 86 yX2_settle, Cond.instanceMethod yX2_settle, Cond.selects RX2 yX2_settle yX2_settle, Cond.initialized RX2, Cond.code yX2_settle cX2_settle 2 (some .boolean), Cond.fieldLink RX2 37 "SlabHeap" "latestTrouble" "I", Cond.methodLink RX2 123 yX2_isOfBlock, Cond.instanceMethod yX2_isOfBlock, Cond.selects RX2 yX2_isOfBlock yX2_isOfBlock, Cond.code yX2_isOfBlock cX2_isOfBlock 3 (some .boolean), Cond.fieldLink RX2 19 "SlabHeap" "pages" "LSlabHeap$Pages;", Cond.methodLink RX2 186 yX0_blockOver, Cond.instanceMethod yX0_blockOver, Cond.selects RX0 yX0_blockOver yX0_blockOver, Cond.initialized RX0, Cond.code yX0_blockOver cX0_blockOver 4 (some .int), Cond.fieldLink RX0 9 "SlabHeap$Pages" "kinds" "[I", Cond.fieldLink RX0 15 "SlabHeap$Pages" "forms" "[I", Cond.methodLink RX0 60 yX0_pageOf, Cond.static yX0_pageOf, Cond.code yX0_pageOf cX0_pageOf 1 (some .int), Cond.static yX2_isPage, Cond.code yX2_isPage cX2_isPage 1 (some .boolean)]
def wsX2_scribble_r2 : List Cond := [Cond.methodLink RX0 44 yX0_alignedTo, Cond.static yX0_alignedTo, Cond.code yX0_alignedTo cX0_alignedTo 2 (some .int), Cond.static yX2_isOrder, Cond.code yX2_isOrder cX2_isOrder 1 (some .boolean), Cond.methodLink RX0 66 yX0_blockIn, Cond.instanceMethod yX0_blockIn, Cond.selects RX0 yX0_blockIn yX0_blockIn, Cond.code yX0_blockIn cX0_blockIn 3 (some .int), Cond.methodLink RX0 56 yX0_isTaken, Cond.instanceMethod yX0_isTaken, Cond.selects RX0 yX0_isTaken yX0_isTaken, Cond.code yX0_isTaken cX0_isTaken 3 (some .boolean), Cond.fieldLink RX0 18 "SlabHeap$Pages" "taken" "[I", Cond.methodLink RX0 53 yX0_stepOf, Cond.instanceMethod yX0_stepOf, Cond.selects RX0 yX0_stepOf yX0_stepOf, Cond.code yX0_stepOf cX0_stepOf 2 (some .int), Cond.methodLink RX2 73 yX2_lengthOf, Cond.instanceMethod yX2_lengthOf, Cond.selects RX2 yX2_lengthOf yX2_lengthOf, Cond.code yX2_lengthOf cX2_lengthOf 2 (some .int), Cond.methodLink RX2 126 yX2_sizeOf, Cond.instanceMethod yX2_sizeOf]
def wsX2_scribble_r3 : List Cond := [Cond.selects RX2 yX2_sizeOf yX2_sizeOf, Cond.code yX2_sizeOf cX2_sizeOf 2 (some .int), Cond.methodLink RX2 92 yX1_at, Cond.instanceMethod yX1_at, Cond.selects RX1 yX1_at yX1_at, Cond.initialized RX1, Cond.code yX1_at cX1_at 2 (some .int), Cond.fieldLink RX1 9 "SlabHeap$Words" "now" "[I", Cond.static yX2_isWord, Cond.code yX2_isWord cX2_isWord 1 (some .boolean), Cond.methodLink RX2 180 yX2_sizeIn, Cond.static yX2_sizeIn, Cond.code yX2_sizeIn cX2_sizeIn 1 (some .int), Cond.methodLink RX2 60 yX1_write, Cond.instanceMethod yX1_write, Cond.selects RX1 yX1_write yX1_write, Cond.code yX1_write cX1_write 4 none, Cond.fieldLink RX1 21 "SlabHeap$Words" "queued" "[Z", Cond.fieldLink RX1 25 "SlabHeap$Words" "queueLength" "I", Cond.fieldLink RX1 18 "SlabHeap$Words" "queue" "[I"]
def wsX2_scribble : List Cond := .code yX2_scribble cX2_scribble 3 (some .boolean) :: ((wsX2_scribble_r1 ++ (wsX2_scribble_r2 ++ wsX2_scribble_r3)) ++ wsX20 ++ wsX00 ++ wsX10)
def wsX2_block_r1 : List Cond := [Cond.fieldLink RX2 19 "SlabHeap" "pages" "LSlabHeap$Pages;", Cond.methodLink RX2 66 yX0_isLive, Cond.instanceMethod yX0_isLive, Cond.selects RX0 yX0_isLive yX0_isLive, Cond.initialized RX0, Cond.code yX0_isLive cX0_isLive 2 (some .boolean), Cond.methodLink RX0 60 yX0_pageOf, Cond.static yX0_pageOf, Cond.code yX0_pageOf cX0_pageOf 1 (some .int), Cond.methodLink RX0 63 yX0_slotAt, Cond.instanceMethod yX0_slotAt, Cond.selects RX0 yX0_slotAt yX0_slotAt, Cond.code yX0_slotAt cX0_slotAt 2 (some .int), Cond.methodLink RX0 53 yX0_stepOf, Cond.instanceMethod yX0_stepOf, Cond.selects RX0 yX0_stepOf yX0_stepOf, Cond.code yX0_stepOf cX0_stepOf 2 (some .int), Cond.fieldLink RX0 9 "SlabHeap$Pages" "kinds" "[I", Cond.fieldLink RX0 15 "SlabHeap$Pages" "forms" "[I", Cond.methodLink RX0 81 yX0_slotBy, Cond.static yX0_slotBy, Cond.code yX0_slotBy cX0_slotBy 3 (some .int), Cond.methodLink RX0 56 yX0_isTaken, Cond.instanceMethod yX0_isTaken]
def wsX2_block_r2 : List Cond := [Cond.selects RX0 yX0_isTaken yX0_isTaken, Cond.code yX0_isTaken cX0_isTaken 3 (some .boolean), Cond.fieldLink RX0 18 "SlabHeap$Pages" "taken" "[I", Cond.methodLink RX2 126 yX2_sizeOf, Cond.instanceMethod yX2_sizeOf, Cond.selects RX2 yX2_sizeOf yX2_sizeOf, Cond.initialized RX2, Cond.code yX2_sizeOf cX2_sizeOf 2 (some .int), Cond.fieldLink RX2 10 "SlabHeap" "words" "LSlabHeap$Words;", Cond.methodLink RX2 92 yX1_at, Cond.instanceMethod yX1_at, Cond.selects RX1 yX1_at yX1_at, Cond.initialized RX1, Cond.code yX1_at cX1_at 2 (some .int), Cond.fieldLink RX1 9 "SlabHeap$Words" "now" "[I", Cond.static yX2_isWord, Cond.code yX2_isWord cX2_isWord 1 (some .boolean), Cond.methodLink RX2 180 yX2_sizeIn, Cond.static yX2_sizeIn, Cond.code yX2_sizeIn cX2_sizeIn 1 (some .int), Cond.methodLink RX2 83 yX2_refsOf, Cond.instanceMethod yX2_refsOf, Cond.selects RX2 yX2_refsOf yX2_refsOf, Cond.code yX2_refsOf cX2_refsOf 2 (some .int)]
def wsX2_block_r3 : List Cond := [Cond.methodLink RX2 183 yX2_refsIn, Cond.static yX2_refsIn, Cond.code yX2_refsIn cX2_refsIn 1 (some .int), Cond.methodLink RX2 129 yX2_classFor, Cond.static yX2_classFor, Cond.code yX2_classFor cX2_classFor 5 (some .int), Cond.fieldLink RX2 177 "SlabHeap" "CLASSES" "[I", Cond.methodLink RX2 132 yX2_orderFor, Cond.static yX2_orderFor, Cond.code yX2_orderFor cX2_orderFor 2 (some .int), Cond.methodLink RX2 70 yX2_leadsTo, Cond.instanceMethod yX2_leadsTo, Cond.selects RX2 yX2_leadsTo yX2_leadsTo, Cond.code yX2_leadsTo cX2_leadsTo 6 (some .int), Cond.methodLink RX2 195 yX2_equalWords, Cond.instanceMethod yX2_equalWords, Cond.selects RX2 yX2_equalWords yX2_equalWords, Cond.code yX2_equalWords cX2_equalWords 6 (some .int), Cond.methodLink RX2 111 yX2_listLive, Cond.instanceMethod yX2_listLive, Cond.selects RX2 yX2_listLive yX2_listLive, Cond.code yX2_listLive cX2_listLive 6 (some .int), Cond.fieldLink RX2 23 "SlabHeap" "row" "[I", Cond.methodLink RX2 189 yX0_slotsOf]
def wsX2_block_r4 : List Cond := [Cond.instanceMethod yX0_slotsOf, Cond.selects RX0 yX0_slotsOf yX0_slotsOf, Cond.code yX0_slotsOf cX0_slotsOf 3 (some .int), Cond.methodLink RX2 192 yX0_blockIn, Cond.instanceMethod yX0_blockIn, Cond.selects RX0 yX0_blockIn yX0_blockIn, Cond.code yX0_blockIn cX0_blockIn 3 (some .int), Cond.methodLink RX2 114 yX2_rowAt, Cond.instanceMethod yX2_rowAt, Cond.selects RX2 yX2_rowAt yX2_rowAt, Cond.code yX2_rowAt cX2_rowAt 2 (some .int), Cond.methodLink RX2 63 yX2_wordOf, Cond.static yX2_wordOf, Cond.code yX2_wordOf cX2_wordOf 2 (some .int)]
def wsX2_block : List Cond := .code yX2_block cX2_block 3 (some .int) :: ((wsX2_block_r1 ++ (wsX2_block_r2 ++ (wsX2_block_r3 ++ wsX2_block_r4))) ++ wsX20 ++ wsX00 ++ wsX10)
def wsX2_live_r1 : List Cond := [Cond.methodLink RX2 111 yX2_listLive, Cond.instanceMethod yX2_listLive, Cond.selects RX2 yX2_listLive yX2_listLive, Cond.initialized RX2, Cond.code yX2_listLive cX2_listLive 6 (some .int), Cond.fieldLink RX2 19 "SlabHeap" "pages" "LSlabHeap$Pages;", Cond.fieldLink RX2 23 "SlabHeap" "row" "[I", Cond.methodLink RX2 189 yX0_slotsOf, Cond.instanceMethod yX0_slotsOf, Cond.selects RX0 yX0_slotsOf yX0_slotsOf, Cond.initialized RX0, Cond.code yX0_slotsOf cX0_slotsOf 3 (some .int), Cond.methodLink RX0 53 yX0_stepOf, Cond.instanceMethod yX0_stepOf, Cond.selects RX0 yX0_stepOf yX0_stepOf, Cond.code yX0_stepOf cX0_stepOf 2 (some .int), Cond.fieldLink RX0 9 "SlabHeap$Pages" "kinds" "[I", Cond.fieldLink RX0 15 "SlabHeap$Pages" "forms" "[I", Cond.methodLink RX2 192 yX0_blockIn, Cond.instanceMethod yX0_blockIn, Cond.selects RX0 yX0_blockIn yX0_blockIn, Cond.code yX0_blockIn cX0_blockIn 3 (some .int), Cond.methodLink RX0 56 yX0_isTaken, Cond.instanceMethod yX0_isTaken]
def wsX2_live_r2 : List Cond := [Cond.selects RX0 yX0_isTaken yX0_isTaken, Cond.code yX0_isTaken cX0_isTaken 3 (some .boolean), Cond.fieldLink RX0 18 "SlabHeap$Pages" "taken" "[I", Cond.methodLink RX2 114 yX2_rowAt, Cond.instanceMethod yX2_rowAt, Cond.selects RX2 yX2_rowAt yX2_rowAt, Cond.code yX2_rowAt cX2_rowAt 2 (some .int)]
def wsX2_live : List Cond := .code yX2_live cX2_live 3 (some .int) :: ((wsX2_live_r1 ++ wsX2_live_r2) ++ wsX20 ++ wsX00)
def wsX2_page_r1 : List Cond := [Cond.fieldLink RX2 19 "SlabHeap" "pages" "LSlabHeap$Pages;", Cond.methodLink RX2 135 yX2_isPage, Cond.static yX2_isPage, Cond.initialized RX2, Cond.code yX2_isPage cX2_isPage 1 (some .boolean), Cond.methodLink RX2 138 yX0_kindOf, Cond.instanceMethod yX0_kindOf, Cond.selects RX0 yX0_kindOf yX0_kindOf, Cond.initialized RX0, Cond.code yX0_kindOf cX0_kindOf 2 (some .int), Cond.fieldLink RX0 9 "SlabHeap$Pages" "kinds" "[I", Cond.methodLink RX2 141 yX0_formOf, Cond.instanceMethod yX0_formOf, Cond.selects RX0 yX0_formOf yX0_formOf, Cond.code yX0_formOf cX0_formOf 2 (some .int), Cond.fieldLink RX0 15 "SlabHeap$Pages" "forms" "[I", Cond.methodLink RX0 34 yX0_freeOrderAt, Cond.instanceMethod yX0_freeOrderAt, Cond.selects RX0 yX0_freeOrderAt yX0_freeOrderAt, Cond.code yX0_freeOrderAt cX0_freeOrderAt 3 (some .int), Cond.methodLink RX0 44 yX0_alignedTo, Cond.static yX0_alignedTo, Cond.code yX0_alignedTo cX0_alignedTo 2 (some .int), Cond.static yX2_isOrder]
def wsX2_page_r2 : List Cond := [Cond.code yX2_isOrder cX2_isOrder 1 (some .boolean), Cond.methodLink RX0 113 yX0_isFreeExtent, Cond.instanceMethod yX0_isFreeExtent, Cond.selects RX0 yX0_isFreeExtent yX0_isFreeExtent, Cond.code yX0_isFreeExtent cX0_isFreeExtent 3 (some .boolean), Cond.methodLink RX0 87 yX0_isFreeRun, Cond.instanceMethod yX0_isFreeRun, Cond.selects RX0 yX0_isFreeRun yX0_isFreeRun, Cond.code yX0_isFreeRun cX0_isFreeRun 5 (some .boolean), Cond.methodLink RX0 38 yX0_kindOf, Cond.methodLink RX2 144 yX0_blocksOn, Cond.instanceMethod yX0_blocksOn, Cond.selects RX0 yX0_blocksOn yX0_blocksOn, Cond.code yX0_blocksOn cX0_blocksOn 2 (some .int), Cond.fieldLink RX0 18 "SlabHeap$Pages" "taken" "[I", Cond.methodLink RX0 48 yJ6_bitCount_0f7a4, Cond.static yJ6_bitCount_0f7a4, Cond.initialized RJ6, Cond.code yJ6_bitCount_0f7a4 cJ6_bitCount_0f7a4 1 (some .int), Cond.constant RJ6 265 (1431655765), Cond.constant RJ6 266 (858993459), Cond.constant RJ6 267 (252645135), Cond.methodLink RX2 147 yX0_firstOf, Cond.instanceMethod yX0_firstOf]
def wsX2_page_r3 : List Cond := [Cond.selects RX0 yX0_firstOf yX0_firstOf, Cond.code yX0_firstOf cX0_firstOf 4 (some .int), Cond.methodLink RX0 41 yX0_formOf]
def wsX2_page : List Cond := .code yX2_page cX2_page 3 (some .int) :: ((wsX2_page_r1 ++ (wsX2_page_r2 ++ wsX2_page_r3)) ++ wsX20 ++ wsX00)
def wsX2_extents_r1 : List Cond := [Cond.fieldLink RX2 19 "SlabHeap" "pages" "LSlabHeap$Pages;", Cond.methodLink RX2 150 yX0_freeExtents, Cond.instanceMethod yX0_freeExtents, Cond.selects RX0 yX0_freeExtents yX0_freeExtents, Cond.initialized RX0, Cond.code yX0_freeExtents cX0_freeExtents 4 (some .int), Cond.static yX2_isOrder, Cond.initialized RX2, Cond.code yX2_isOrder cX2_isOrder 1 (some .boolean), Cond.methodLink RX0 113 yX0_isFreeExtent, Cond.instanceMethod yX0_isFreeExtent, Cond.selects RX0 yX0_isFreeExtent yX0_isFreeExtent, Cond.code yX0_isFreeExtent cX0_isFreeExtent 3 (some .boolean), Cond.methodLink RX0 87 yX0_isFreeRun, Cond.instanceMethod yX0_isFreeRun, Cond.selects RX0 yX0_isFreeRun yX0_isFreeRun, Cond.code yX0_isFreeRun cX0_isFreeRun 5 (some .boolean), Cond.methodLink RX0 38 yX0_kindOf, Cond.instanceMethod yX0_kindOf, Cond.selects RX0 yX0_kindOf yX0_kindOf, Cond.code yX0_kindOf cX0_kindOf 2 (some .int), Cond.fieldLink RX0 9 "SlabHeap$Pages" "kinds" "[I", Cond.methodLink RX0 44 yX0_alignedTo, Cond.static yX0_alignedTo]
def wsX2_extents_r2 : List Cond := [Cond.code yX0_alignedTo cX0_alignedTo 2 (some .int)]
def wsX2_extents : List Cond := .code yX2_extents cX2_extents 2 (some .int) :: ((wsX2_extents_r1 ++ wsX2_extents_r2) ++ wsX20 ++ wsX00)
def wsX2_next_r1 : List Cond := [Cond.fieldLink RX2 19 "SlabHeap" "pages" "LSlabHeap$Pages;", Cond.methodLink RX2 153 yX0_extentFor, Cond.instanceMethod yX0_extentFor, Cond.selects RX0 yX0_extentFor yX0_extentFor, Cond.initialized RX0, Cond.code yX0_extentFor cX0_extentFor 4 (some .int), Cond.static yX2_isOrder, Cond.initialized RX2, Cond.code yX2_isOrder cX2_isOrder 1 (some .boolean), Cond.methodLink RX0 113 yX0_isFreeExtent, Cond.instanceMethod yX0_isFreeExtent, Cond.selects RX0 yX0_isFreeExtent yX0_isFreeExtent, Cond.code yX0_isFreeExtent cX0_isFreeExtent 3 (some .boolean), Cond.methodLink RX0 87 yX0_isFreeRun, Cond.instanceMethod yX0_isFreeRun, Cond.selects RX0 yX0_isFreeRun yX0_isFreeRun, Cond.code yX0_isFreeRun cX0_isFreeRun 5 (some .boolean), Cond.methodLink RX0 38 yX0_kindOf, Cond.instanceMethod yX0_kindOf, Cond.selects RX0 yX0_kindOf yX0_kindOf, Cond.code yX0_kindOf cX0_kindOf 2 (some .int), Cond.fieldLink RX0 9 "SlabHeap$Pages" "kinds" "[I", Cond.methodLink RX0 44 yX0_alignedTo, Cond.static yX0_alignedTo]
def wsX2_next_r2 : List Cond := [Cond.code yX0_alignedTo cX0_alignedTo 2 (some .int)]
def wsX2_next : List Cond := .code yX2_next cX2_next 2 (some .int) :: ((wsX2_next_r1 ++ wsX2_next_r2) ++ wsX20 ++ wsX00)
def wsX2_liveWords_r1 : List Cond := [Cond.methodLink RX2 111 yX2_listLive, Cond.instanceMethod yX2_listLive, Cond.selects RX2 yX2_listLive yX2_listLive, Cond.initialized RX2, Cond.code yX2_listLive cX2_listLive 6 (some .int), Cond.fieldLink RX2 19 "SlabHeap" "pages" "LSlabHeap$Pages;", Cond.fieldLink RX2 23 "SlabHeap" "row" "[I", Cond.methodLink RX2 189 yX0_slotsOf, Cond.instanceMethod yX0_slotsOf, Cond.selects RX0 yX0_slotsOf yX0_slotsOf, Cond.initialized RX0, Cond.code yX0_slotsOf cX0_slotsOf 3 (some .int), Cond.methodLink RX0 53 yX0_stepOf, Cond.instanceMethod yX0_stepOf, Cond.selects RX0 yX0_stepOf yX0_stepOf, Cond.code yX0_stepOf cX0_stepOf 2 (some .int), Cond.fieldLink RX0 9 "SlabHeap$Pages" "kinds" "[I", Cond.fieldLink RX0 15 "SlabHeap$Pages" "forms" "[I", Cond.methodLink RX2 192 yX0_blockIn, Cond.instanceMethod yX0_blockIn, Cond.selects RX0 yX0_blockIn yX0_blockIn, Cond.code yX0_blockIn cX0_blockIn 3 (some .int), Cond.methodLink RX0 56 yX0_isTaken, Cond.instanceMethod yX0_isTaken]
def wsX2_liveWords_r2 : List Cond := [Cond.selects RX0 yX0_isTaken yX0_isTaken, Cond.code yX0_isTaken cX0_isTaken 3 (some .boolean), Cond.fieldLink RX0 18 "SlabHeap$Pages" "taken" "[I", Cond.methodLink RX2 114 yX2_rowAt, Cond.instanceMethod yX2_rowAt, Cond.selects RX2 yX2_rowAt yX2_rowAt, Cond.code yX2_rowAt cX2_rowAt 2 (some .int), Cond.methodLink RX2 73 yX2_lengthOf, Cond.instanceMethod yX2_lengthOf, Cond.selects RX2 yX2_lengthOf yX2_lengthOf, Cond.code yX2_lengthOf cX2_lengthOf 2 (some .int), Cond.methodLink RX2 126 yX2_sizeOf, Cond.instanceMethod yX2_sizeOf, Cond.selects RX2 yX2_sizeOf yX2_sizeOf, Cond.code yX2_sizeOf cX2_sizeOf 2 (some .int), Cond.fieldLink RX2 10 "SlabHeap" "words" "LSlabHeap$Words;", Cond.methodLink RX2 92 yX1_at, Cond.instanceMethod yX1_at, Cond.selects RX1 yX1_at yX1_at, Cond.initialized RX1, Cond.code yX1_at cX1_at 2 (some .int), Cond.fieldLink RX1 9 "SlabHeap$Words" "now" "[I", Cond.static yX2_isWord, Cond.code yX2_isWord cX2_isWord 1 (some .boolean)]
def wsX2_liveWords_r3 : List Cond := [Cond.methodLink RX2 180 yX2_sizeIn, Cond.static yX2_sizeIn, Cond.code yX2_sizeIn cX2_sizeIn 1 (some .int)]
def wsX2_liveWords : List Cond := .code yX2_liveWords cX2_liveWords 4 (some .int) :: ((wsX2_liveWords_r1 ++ (wsX2_liveWords_r2 ++ wsX2_liveWords_r3)) ++ wsX20 ++ wsX00 ++ wsX10)
def wsX2_count_r1 : List Cond := [Cond.fieldLink RX2 19 "SlabHeap" "pages" "LSlabHeap$Pages;", Cond.fieldLink RX2 10 "SlabHeap" "words" "LSlabHeap$Words;", Cond.fieldLink RX2 31 "SlabHeap" "cleared" "I", Cond.fieldLink RX2 34 "SlabHeap" "crashes" "I", Cond.methodLink RX2 111 yX2_listLive, Cond.instanceMethod yX2_listLive, Cond.selects RX2 yX2_listLive yX2_listLive, Cond.initialized RX2, Cond.code yX2_listLive cX2_listLive 6 (some .int), Cond.fieldLink RX2 23 "SlabHeap" "row" "[I", Cond.methodLink RX2 189 yX0_slotsOf, Cond.instanceMethod yX0_slotsOf, Cond.selects RX0 yX0_slotsOf yX0_slotsOf, Cond.initialized RX0, Cond.code yX0_slotsOf cX0_slotsOf 3 (some .int), Cond.methodLink RX0 53 yX0_stepOf, Cond.instanceMethod yX0_stepOf, Cond.selects RX0 yX0_stepOf yX0_stepOf, Cond.code yX0_stepOf cX0_stepOf 2 (some .int), Cond.fieldLink RX0 9 "SlabHeap$Pages" "kinds" "[I", Cond.fieldLink RX0 15 "SlabHeap$Pages" "forms" "[I", Cond.methodLink RX2 192 yX0_blockIn, Cond.instanceMethod yX0_blockIn, Cond.selects RX0 yX0_blockIn yX0_blockIn]
def wsX2_count_r2 : List Cond := [Cond.code yX0_blockIn cX0_blockIn 3 (some .int), Cond.methodLink RX0 56 yX0_isTaken, Cond.instanceMethod yX0_isTaken, Cond.selects RX0 yX0_isTaken yX0_isTaken, Cond.code yX0_isTaken cX0_isTaken 3 (some .boolean), Cond.fieldLink RX0 18 "SlabHeap$Pages" "taken" "[I", Cond.methodLink RX2 156 yX0_howMany, Cond.instanceMethod yX0_howMany, Cond.selects RX0 yX0_howMany yX0_howMany, Cond.code yX0_howMany cX0_howMany 4 (some .int), Cond.methodLink RX0 38 yX0_kindOf, Cond.instanceMethod yX0_kindOf, Cond.selects RX0 yX0_kindOf yX0_kindOf, Cond.code yX0_kindOf cX0_kindOf 2 (some .int), Cond.methodLink RX2 159 yX0_emptySlots, Cond.instanceMethod yX0_emptySlots, Cond.selects RX0 yX0_emptySlots yX0_emptySlots, Cond.code yX0_emptySlots cX0_emptySlots 3 (some .int), Cond.methodLink RX0 104 yX0_slotsOf, Cond.methodLink RX0 107 yX0_blocksOn, Cond.instanceMethod yX0_blocksOn, Cond.selects RX0 yX0_blocksOn yX0_blocksOn, Cond.code yX0_blocksOn cX0_blocksOn 2 (some .int), Cond.static yX2_isPage]
def wsX2_count_r3 : List Cond := [Cond.code yX2_isPage cX2_isPage 1 (some .boolean), Cond.methodLink RX0 48 yJ6_bitCount_0f7a4, Cond.static yJ6_bitCount_0f7a4, Cond.initialized RJ6, Cond.code yJ6_bitCount_0f7a4 cJ6_bitCount_0f7a4 1 (some .int), Cond.constant RJ6 265 (1431655765), Cond.constant RJ6 266 (858993459), Cond.constant RJ6 267 (252645135), Cond.methodLink RX2 162 yX1_waiting, Cond.instanceMethod yX1_waiting, Cond.selects RX1 yX1_waiting yX1_waiting, Cond.initialized RX1, Cond.code yX1_waiting cX1_waiting 1 (some .int), Cond.fieldLink RX1 25 "SlabHeap$Words" "queueLength" "I", Cond.methodLink RX2 165 yX2_liveWords, Cond.instanceMethod yX2_liveWords, Cond.selects RX2 yX2_liveWords yX2_liveWords, Cond.code yX2_liveWords cX2_liveWords 4 (some .int), Cond.methodLink RX2 114 yX2_rowAt, Cond.instanceMethod yX2_rowAt, Cond.selects RX2 yX2_rowAt yX2_rowAt, Cond.code yX2_rowAt cX2_rowAt 2 (some .int), Cond.methodLink RX2 73 yX2_lengthOf, Cond.instanceMethod yX2_lengthOf]
def wsX2_count_r4 : List Cond := [Cond.selects RX2 yX2_lengthOf yX2_lengthOf, Cond.code yX2_lengthOf cX2_lengthOf 2 (some .int), Cond.methodLink RX2 126 yX2_sizeOf, Cond.instanceMethod yX2_sizeOf, Cond.selects RX2 yX2_sizeOf yX2_sizeOf, Cond.code yX2_sizeOf cX2_sizeOf 2 (some .int), Cond.methodLink RX2 92 yX1_at, Cond.instanceMethod yX1_at, Cond.selects RX1 yX1_at yX1_at, Cond.code yX1_at cX1_at 2 (some .int), Cond.fieldLink RX1 9 "SlabHeap$Words" "now" "[I", Cond.static yX2_isWord, Cond.code yX2_isWord cX2_isWord 1 (some .boolean), Cond.methodLink RX2 180 yX2_sizeIn, Cond.static yX2_sizeIn, Cond.code yX2_sizeIn cX2_sizeIn 1 (some .int)]
def wsX2_count : List Cond := .code yX2_count cX2_count 2 (some .int) :: ((wsX2_count_r1 ++ (wsX2_count_r2 ++ (wsX2_count_r3 ++ wsX2_count_r4))) ++ wsX20 ++ wsX00 ++ wsX10)
def wsX2_head : List Cond := .code yX2_head cX2_head 5 (some .int) :: ([.methodLink RX2 40 yX2_isShape, .static yX2_isShape, .initialized RX2, .code yX2_isShape cX2_isShape 2 (some .boolean), .methodLink RX2 56 yX2_headOf, .static yX2_headOf, .code yX2_headOf cX2_headOf 4 (some .int), .constant RX2 176 (4194304), .methodLink RX2 171 yJ9_floorMod_7cf53, .static yJ9_floorMod_7cf53, .initialized RJ9, .code yJ9_floorMod_7cf53 cJ9_floorMod_7cf53 3 (some .int)])
def wsX2_waits : List Cond := .code yX2_waits cX2_waits 2 (some .int) :: ([.fieldLink RX2 10 "SlabHeap" "words" "LSlabHeap$Words;", .methodLink RX2 168 yX1_lineAt, .instanceMethod yX1_lineAt, .selects RX1 yX1_lineAt yX1_lineAt, .initialized RX1, .code yX1_lineAt cX1_lineAt 2 (some .int), .fieldLink RX1 25 "SlabHeap$Words" "queueLength" "I", .fieldLink RX1 18 "SlabHeap$Words" "queue" "[I"] ++ wsX20 ++ wsX10)
def wsX2_trouble : List Cond := .code yX2_trouble cX2_trouble 1 (some .int) :: ([.fieldLink RX2 37 "SlabHeap" "latestTrouble" "I"] ++ wsX20)
def wsX3_init : List Cond := .code yX3_init cX3_init 1 none :: ([.methodLink RX3 1 objectInit, .instanceMethod objectInit, .code objectInit ⟨#[0xb1]⟩ 1 none, .arrayClass .int, .fieldLink RX3 7 "SlabHeapModel" "words" "[I", .fieldLink RX3 13 "SlabHeapModel" "kept" "[I", .arrayClass .boolean, .fieldLink RX3 16 "SlabHeapModel" "isLive" "[Z", .fieldLink RX3 20 "SlabHeapModel" "isWaiting" "[Z", .fieldLink RX3 23 "SlabHeapModel" "waiting" "[I", .fieldLink RX3 26 "SlabHeapModel" "kind" "[I", .fieldLink RX3 29 "SlabHeapModel" "sort" "[I", .fieldLink RX3 32 "SlabHeapModel" "first" "[I", .fieldLink RX3 35 "SlabHeapModel" "blocks" "[I", .fieldLink RX3 38 "SlabHeapModel" "free" "[I", .fieldLink RX3 41 "SlabHeapModel" "found" "[I", .fieldLink RX3 44 "SlabHeapModel" "isSeen" "[Z"] ++ wsX30)
def wsX3_no : List Cond := .code yX3_no cX3_no 2 (some .int) :: ([.fieldLink RX3 51 "SlabHeapModel" "trouble" "I"] ++ wsX30)
def wsX3_not : List Cond := .code yX3_not cX3_not 2 (some .boolean) :: ([.fieldLink RX3 51 "SlabHeapModel" "trouble" "I"] ++ wsX30)
def wsX3_is : List Cond := .code yX3_is cX3_is 4 (some .boolean) :: ([])
def wsX3_write : List Cond := .code yX3_write cX3_write 4 none :: ([.fieldLink RX3 7 "SlabHeapModel" "words" "[I", .fieldLink RX3 20 "SlabHeapModel" "isWaiting" "[Z", .fieldLink RX3 23 "SlabHeapModel" "waiting" "[I", .fieldLink RX3 54 "SlabHeapModel" "waits" "I"] ++ wsX30)
def wsX3_headOf : List Cond := .code yX3_headOf cX3_headOf 5 (some .int) :: ([.constant RX3 57 (4194304)])
def wsX3_sizeAt : List Cond := .code yX3_sizeAt cX3_sizeAt 2 (some .int) :: ([.fieldLink RX3 7 "SlabHeapModel" "words" "[I"] ++ wsX30)
def wsX3_refsAt : List Cond := .code yX3_refsAt cX3_refsAt 2 (some .int) :: ([.fieldLink RX3 7 "SlabHeapModel" "words" "[I"] ++ wsX30)
def wsX3_isHead : List Cond := .code yX3_isHead cX3_isHead 4 (some .boolean) :: ([.fieldLink RX3 7 "SlabHeapModel" "words" "[I", .methodLink RX3 58 yX3_sizeAt, .instanceMethod yX3_sizeAt, .selects RX3 yX3_sizeAt yX3_sizeAt, .initialized RX3, .code yX3_sizeAt cX3_sizeAt 2 (some .int), .methodLink RX3 62 yX3_refsAt, .instanceMethod yX3_refsAt, .selects RX3 yX3_refsAt yX3_refsAt, .code yX3_refsAt cX3_refsAt 2 (some .int), .methodLink RX3 65 yX3_headOf, .instanceMethod yX3_headOf, .selects RX3 yX3_headOf yX3_headOf, .code yX3_headOf cX3_headOf 5 (some .int), .constant RX3 57 (4194304)] ++ wsX30)
def wsX3_classOf : List Cond := .code yX3_classOf cX3_classOf 2 (some .int) :: ([])
def wsX3_orderOf : List Cond := .code yX3_orderOf cX3_orderOf 3 (some .int) :: ([])
def wsX3_isBlock : List Cond := .code yX3_isBlock cX3_isBlock 2 (some .boolean) :: ([.fieldLink RX3 16 "SlabHeapModel" "isLive" "[Z", .methodLink RX3 69 yX3_is, .instanceMethod yX3_is, .selects RX3 yX3_is yX3_is, .initialized RX3, .code yX3_is cX3_is 4 (some .boolean)] ++ wsX30)
def wsX3_areFree : List Cond := .code yX3_areFree cX3_areFree 4 (some .boolean) :: ([.fieldLink RX3 26 "SlabHeapModel" "kind" "[I"] ++ wsX30)
def wsX3_map : List Cond := .code yX3_map cX3_map 6 none :: ([.fieldLink RX3 26 "SlabHeapModel" "kind" "[I", .fieldLink RX3 29 "SlabHeapModel" "sort" "[I", .fieldLink RX3 32 "SlabHeapModel" "first" "[I", .fieldLink RX3 35 "SlabHeapModel" "blocks" "[I", .fieldLink RX3 38 "SlabHeapModel" "free" "[I", .fieldLink RX3 16 "SlabHeapModel" "isLive" "[Z", .methodLink RX3 58 yX3_sizeAt, .instanceMethod yX3_sizeAt, .selects RX3 yX3_sizeAt yX3_sizeAt, .initialized RX3, .code yX3_sizeAt cX3_sizeAt 2 (some .int), .fieldLink RX3 7 "SlabHeapModel" "words" "[I", .methodLink RX3 73 yX3_classOf, .instanceMethod yX3_classOf, .selects RX3 yX3_classOf yX3_classOf, .code yX3_classOf cX3_classOf 2 (some .int), .methodLink RX3 76 yX3_orderOf, .instanceMethod yX3_orderOf, .selects RX3 yX3_orderOf yX3_orderOf, .code yX3_orderOf cX3_orderOf 3 (some .int), .methodLink RX3 79 yX3_areFree, .instanceMethod yX3_areFree, .selects RX3 yX3_areFree yX3_areFree, .code yX3_areFree cX3_areFree 4 (some .boolean)] ++ wsX30)
def wsX3_taken : List Cond := .code yX3_taken cX3_taken 4 (some .int) :: ([.fieldLink RX3 38 "SlabHeapModel" "free" "[I", .fieldLink RX3 32 "SlabHeapModel" "first" "[I"] ++ wsX30)
def wsX3_slots : List Cond := .code yX3_slots cX3_slots 2 (some .int) :: ([.fieldLink RX3 29 "SlabHeapModel" "sort" "[I"] ++ wsX30)
def wsX3_placeFor_r1 : List Cond := [Cond.fieldLink RX3 26 "SlabHeapModel" "kind" "[I", Cond.fieldLink RX3 29 "SlabHeapModel" "sort" "[I", Cond.fieldLink RX3 16 "SlabHeapModel" "isLive" "[Z", Cond.methodLink RX3 83 yX3_map, Cond.instanceMethod yX3_map, Cond.selects RX3 yX3_map yX3_map, Cond.initialized RX3, Cond.code yX3_map cX3_map 6 none, Cond.fieldLink RX3 32 "SlabHeapModel" "first" "[I", Cond.fieldLink RX3 35 "SlabHeapModel" "blocks" "[I", Cond.fieldLink RX3 38 "SlabHeapModel" "free" "[I", Cond.methodLink RX3 58 yX3_sizeAt, Cond.instanceMethod yX3_sizeAt, Cond.selects RX3 yX3_sizeAt yX3_sizeAt, Cond.code yX3_sizeAt cX3_sizeAt 2 (some .int), Cond.fieldLink RX3 7 "SlabHeapModel" "words" "[I", Cond.methodLink RX3 73 yX3_classOf, Cond.instanceMethod yX3_classOf, Cond.selects RX3 yX3_classOf yX3_classOf, Cond.code yX3_classOf cX3_classOf 2 (some .int), Cond.methodLink RX3 76 yX3_orderOf, Cond.instanceMethod yX3_orderOf, Cond.selects RX3 yX3_orderOf yX3_orderOf, Cond.code yX3_orderOf cX3_orderOf 3 (some .int)]
def wsX3_placeFor_r2 : List Cond := [Cond.methodLink RX3 79 yX3_areFree, Cond.instanceMethod yX3_areFree, Cond.selects RX3 yX3_areFree yX3_areFree, Cond.code yX3_areFree cX3_areFree 4 (some .boolean), Cond.methodLink RX3 86 yX3_taken, Cond.instanceMethod yX3_taken, Cond.selects RX3 yX3_taken yX3_taken, Cond.code yX3_taken cX3_taken 4 (some .int), Cond.methodLink RX3 89 yX3_slots, Cond.instanceMethod yX3_slots, Cond.selects RX3 yX3_slots yX3_slots, Cond.code yX3_slots cX3_slots 2 (some .int)]
def wsX3_placeFor : List Cond := .code yX3_placeFor cX3_placeFor 5 (some .int) :: ((wsX3_placeFor_r1 ++ wsX3_placeFor_r2) ++ wsX30)
def wsX3_alloc_r1 : List Cond := [Cond.fieldLink RX3 47 "SlabHeapModel" "thrown" "I", Cond.fieldLink RX3 16 "SlabHeapModel" "isLive" "[Z", Cond.fieldLink RX3 51 "SlabHeapModel" "trouble" "I", Cond.methodLink RX3 69 yX3_is, Cond.instanceMethod yX3_is, Cond.selects RX3 yX3_is yX3_is, Cond.initialized RX3, Cond.code yX3_is cX3_is 4 (some .boolean), Cond.methodLink RX3 92 yX3_no, Cond.instanceMethod yX3_no, Cond.selects RX3 yX3_no yX3_no, Cond.code yX3_no cX3_no 2 (some .int), Cond.methodLink RX3 95 yX3_placeFor, Cond.instanceMethod yX3_placeFor, Cond.selects RX3 yX3_placeFor yX3_placeFor, Cond.code yX3_placeFor cX3_placeFor 5 (some .int), Cond.fieldLink RX3 26 "SlabHeapModel" "kind" "[I", Cond.fieldLink RX3 29 "SlabHeapModel" "sort" "[I", Cond.methodLink RX3 83 yX3_map, Cond.instanceMethod yX3_map, Cond.selects RX3 yX3_map yX3_map, Cond.code yX3_map cX3_map 6 none, Cond.fieldLink RX3 32 "SlabHeapModel" "first" "[I", Cond.fieldLink RX3 35 "SlabHeapModel" "blocks" "[I"]
def wsX3_alloc_r2 : List Cond := [Cond.fieldLink RX3 38 "SlabHeapModel" "free" "[I", Cond.methodLink RX3 58 yX3_sizeAt, Cond.instanceMethod yX3_sizeAt, Cond.selects RX3 yX3_sizeAt yX3_sizeAt, Cond.code yX3_sizeAt cX3_sizeAt 2 (some .int), Cond.fieldLink RX3 7 "SlabHeapModel" "words" "[I", Cond.methodLink RX3 73 yX3_classOf, Cond.instanceMethod yX3_classOf, Cond.selects RX3 yX3_classOf yX3_classOf, Cond.code yX3_classOf cX3_classOf 2 (some .int), Cond.methodLink RX3 76 yX3_orderOf, Cond.instanceMethod yX3_orderOf, Cond.selects RX3 yX3_orderOf yX3_orderOf, Cond.code yX3_orderOf cX3_orderOf 3 (some .int), Cond.methodLink RX3 79 yX3_areFree, Cond.instanceMethod yX3_areFree, Cond.selects RX3 yX3_areFree yX3_areFree, Cond.code yX3_areFree cX3_areFree 4 (some .boolean), Cond.methodLink RX3 86 yX3_taken, Cond.instanceMethod yX3_taken, Cond.selects RX3 yX3_taken yX3_taken, Cond.code yX3_taken cX3_taken 4 (some .int), Cond.methodLink RX3 89 yX3_slots, Cond.instanceMethod yX3_slots]
def wsX3_alloc_r3 : List Cond := [Cond.selects RX3 yX3_slots yX3_slots, Cond.code yX3_slots cX3_slots 2 (some .int), Cond.methodLink RX3 65 yX3_headOf, Cond.instanceMethod yX3_headOf, Cond.selects RX3 yX3_headOf yX3_headOf, Cond.code yX3_headOf cX3_headOf 5 (some .int), Cond.constant RX3 57 (4194304), Cond.methodLink RX3 98 yX3_write, Cond.instanceMethod yX3_write, Cond.selects RX3 yX3_write yX3_write, Cond.code yX3_write cX3_write 4 none, Cond.fieldLink RX3 20 "SlabHeapModel" "isWaiting" "[Z", Cond.fieldLink RX3 23 "SlabHeapModel" "waiting" "[I", Cond.fieldLink RX3 54 "SlabHeapModel" "waits" "I"]
def wsX3_alloc : List Cond := .code yX3_alloc cX3_alloc 5 (some .int) :: ((wsX3_alloc_r1 ++ (wsX3_alloc_r2 ++ wsX3_alloc_r3)) ++ wsX30)
def wsX3_leading : List Cond := .code yX3_leading cX3_leading 5 (some .int) :: ([.fieldLink RX3 7 "SlabHeapModel" "words" "[I", .fieldLink RX3 16 "SlabHeapModel" "isLive" "[Z", .methodLink RX3 62 yX3_refsAt, .instanceMethod yX3_refsAt, .selects RX3 yX3_refsAt yX3_refsAt, .initialized RX3, .code yX3_refsAt cX3_refsAt 2 (some .int)] ++ wsX30)
def wsX3_freed : List Cond := .code yX3_freed cX3_freed 3 (some .int) :: ([.fieldLink RX3 16 "SlabHeapModel" "isLive" "[Z", .methodLink RX3 58 yX3_sizeAt, .instanceMethod yX3_sizeAt, .selects RX3 yX3_sizeAt yX3_sizeAt, .initialized RX3, .code yX3_sizeAt cX3_sizeAt 2 (some .int), .fieldLink RX3 7 "SlabHeapModel" "words" "[I", .methodLink RX3 98 yX3_write, .instanceMethod yX3_write, .selects RX3 yX3_write yX3_write, .code yX3_write cX3_write 4 none, .fieldLink RX3 20 "SlabHeapModel" "isWaiting" "[Z", .fieldLink RX3 23 "SlabHeapModel" "waiting" "[I", .fieldLink RX3 54 "SlabHeapModel" "waits" "I"] ++ wsX30)
def wsX3_free_r1 : List Cond := [Cond.fieldLink RX3 47 "SlabHeapModel" "thrown" "I", Cond.fieldLink RX3 51 "SlabHeapModel" "trouble" "I", Cond.methodLink RX3 102 yX3_isBlock, Cond.instanceMethod yX3_isBlock, Cond.selects RX3 yX3_isBlock yX3_isBlock, Cond.initialized RX3, Cond.code yX3_isBlock cX3_isBlock 2 (some .boolean), Cond.fieldLink RX3 16 "SlabHeapModel" "isLive" "[Z", Cond.methodLink RX3 69 yX3_is, Cond.instanceMethod yX3_is, Cond.selects RX3 yX3_is yX3_is, Cond.code yX3_is cX3_is 4 (some .boolean), Cond.methodLink RX3 92 yX3_no, Cond.instanceMethod yX3_no, Cond.selects RX3 yX3_no yX3_no, Cond.code yX3_no cX3_no 2 (some .int), Cond.methodLink RX3 106 yX3_leading, Cond.instanceMethod yX3_leading, Cond.selects RX3 yX3_leading yX3_leading, Cond.code yX3_leading cX3_leading 5 (some .int), Cond.fieldLink RX3 7 "SlabHeapModel" "words" "[I", Cond.methodLink RX3 62 yX3_refsAt, Cond.instanceMethod yX3_refsAt, Cond.selects RX3 yX3_refsAt yX3_refsAt]
def wsX3_free_r2 : List Cond := [Cond.code yX3_refsAt cX3_refsAt 2 (some .int), Cond.methodLink RX3 109 yX3_freed, Cond.instanceMethod yX3_freed, Cond.selects RX3 yX3_freed yX3_freed, Cond.code yX3_freed cX3_freed 3 (some .int), Cond.methodLink RX3 58 yX3_sizeAt, Cond.instanceMethod yX3_sizeAt, Cond.selects RX3 yX3_sizeAt yX3_sizeAt, Cond.code yX3_sizeAt cX3_sizeAt 2 (some .int), Cond.methodLink RX3 98 yX3_write, Cond.instanceMethod yX3_write, Cond.selects RX3 yX3_write yX3_write, Cond.code yX3_write cX3_write 4 none, Cond.fieldLink RX3 20 "SlabHeapModel" "isWaiting" "[Z", Cond.fieldLink RX3 23 "SlabHeapModel" "waiting" "[I", Cond.fieldLink RX3 54 "SlabHeapModel" "waits" "I"]
def wsX3_free : List Cond := .code yX3_free cX3_free 2 (some .int) :: ((wsX3_free_r1 ++ wsX3_free_r2) ++ wsX30)
def wsX3_put_r1 : List Cond := [Cond.fieldLink RX3 47 "SlabHeapModel" "thrown" "I", Cond.fieldLink RX3 51 "SlabHeapModel" "trouble" "I", Cond.methodLink RX3 102 yX3_isBlock, Cond.instanceMethod yX3_isBlock, Cond.selects RX3 yX3_isBlock yX3_isBlock, Cond.initialized RX3, Cond.code yX3_isBlock cX3_isBlock 2 (some .boolean), Cond.fieldLink RX3 16 "SlabHeapModel" "isLive" "[Z", Cond.methodLink RX3 69 yX3_is, Cond.instanceMethod yX3_is, Cond.selects RX3 yX3_is yX3_is, Cond.code yX3_is cX3_is 4 (some .boolean), Cond.methodLink RX3 62 yX3_refsAt, Cond.instanceMethod yX3_refsAt, Cond.selects RX3 yX3_refsAt yX3_refsAt, Cond.code yX3_refsAt cX3_refsAt 2 (some .int), Cond.fieldLink RX3 7 "SlabHeapModel" "words" "[I", Cond.methodLink RX3 58 yX3_sizeAt, Cond.instanceMethod yX3_sizeAt, Cond.selects RX3 yX3_sizeAt yX3_sizeAt, Cond.code yX3_sizeAt cX3_sizeAt 2 (some .int), Cond.methodLink RX3 112 yX3_not, Cond.instanceMethod yX3_not, Cond.selects RX3 yX3_not yX3_not]
def wsX3_put_r2 : List Cond := [Cond.code yX3_not cX3_not 2 (some .boolean), Cond.methodLink RX3 98 yX3_write, Cond.instanceMethod yX3_write, Cond.selects RX3 yX3_write yX3_write, Cond.code yX3_write cX3_write 4 none, Cond.fieldLink RX3 20 "SlabHeapModel" "isWaiting" "[Z", Cond.fieldLink RX3 23 "SlabHeapModel" "waiting" "[I", Cond.fieldLink RX3 54 "SlabHeapModel" "waits" "I"]
def wsX3_put : List Cond := .code yX3_put cX3_put 4 (some .boolean) :: ((wsX3_put_r1 ++ wsX3_put_r2) ++ wsX30)
def wsX3_refer_r1 : List Cond := [Cond.fieldLink RX3 47 "SlabHeapModel" "thrown" "I", Cond.fieldLink RX3 51 "SlabHeapModel" "trouble" "I", Cond.methodLink RX3 102 yX3_isBlock, Cond.instanceMethod yX3_isBlock, Cond.selects RX3 yX3_isBlock yX3_isBlock, Cond.initialized RX3, Cond.code yX3_isBlock cX3_isBlock 2 (some .boolean), Cond.fieldLink RX3 16 "SlabHeapModel" "isLive" "[Z", Cond.methodLink RX3 69 yX3_is, Cond.instanceMethod yX3_is, Cond.selects RX3 yX3_is yX3_is, Cond.code yX3_is cX3_is 4 (some .boolean), Cond.methodLink RX3 62 yX3_refsAt, Cond.instanceMethod yX3_refsAt, Cond.selects RX3 yX3_refsAt yX3_refsAt, Cond.code yX3_refsAt cX3_refsAt 2 (some .int), Cond.fieldLink RX3 7 "SlabHeapModel" "words" "[I", Cond.methodLink RX3 112 yX3_not, Cond.instanceMethod yX3_not, Cond.selects RX3 yX3_not yX3_not, Cond.code yX3_not cX3_not 2 (some .boolean), Cond.methodLink RX3 98 yX3_write, Cond.instanceMethod yX3_write, Cond.selects RX3 yX3_write yX3_write]
def wsX3_refer_r2 : List Cond := [Cond.code yX3_write cX3_write 4 none, Cond.fieldLink RX3 20 "SlabHeapModel" "isWaiting" "[Z", Cond.fieldLink RX3 23 "SlabHeapModel" "waiting" "[I", Cond.fieldLink RX3 54 "SlabHeapModel" "waits" "I"]
def wsX3_refer : List Cond := .code yX3_refer cX3_refer 4 (some .boolean) :: ((wsX3_refer_r1 ++ wsX3_refer_r2) ++ wsX30)
def wsX3_get : List Cond := .code yX3_get cX3_get 3 (some .int) :: ([.fieldLink RX3 47 "SlabHeapModel" "thrown" "I", .fieldLink RX3 7 "SlabHeapModel" "words" "[I", .methodLink RX3 102 yX3_isBlock, .instanceMethod yX3_isBlock, .selects RX3 yX3_isBlock yX3_isBlock, .initialized RX3, .code yX3_isBlock cX3_isBlock 2 (some .boolean), .fieldLink RX3 16 "SlabHeapModel" "isLive" "[Z", .methodLink RX3 69 yX3_is, .instanceMethod yX3_is, .selects RX3 yX3_is yX3_is, .code yX3_is cX3_is 4 (some .boolean), .methodLink RX3 58 yX3_sizeAt, .instanceMethod yX3_sizeAt, .selects RX3 yX3_sizeAt yX3_sizeAt, .code yX3_sizeAt cX3_sizeAt 2 (some .int)] ++ wsX30)
def wsX3_root : List Cond := .code yX3_root cX3_root 3 (some .boolean) :: ([.fieldLink RX3 47 "SlabHeapModel" "thrown" "I", .fieldLink RX3 51 "SlabHeapModel" "trouble" "I", .methodLink RX3 69 yX3_is, .instanceMethod yX3_is, .selects RX3 yX3_is yX3_is, .initialized RX3, .code yX3_is cX3_is 4 (some .boolean), .methodLink RX3 102 yX3_isBlock, .instanceMethod yX3_isBlock, .selects RX3 yX3_isBlock yX3_isBlock, .code yX3_isBlock cX3_isBlock 2 (some .boolean), .fieldLink RX3 16 "SlabHeapModel" "isLive" "[Z", .methodLink RX3 112 yX3_not, .instanceMethod yX3_not, .selects RX3 yX3_not yX3_not, .code yX3_not cX3_not 2 (some .boolean), .methodLink RX3 98 yX3_write, .instanceMethod yX3_write, .selects RX3 yX3_write yX3_write, .code yX3_write cX3_write 4 none, .fieldLink RX3 7 "SlabHeapModel" "words" "[I", .fieldLink RX3 20 "SlabHeapModel" "isWaiting" "[Z", .fieldLink RX3 23 "SlabHeapModel" "waiting" "[I", .fieldLink RX3 54 "SlabHeapModel" "waits" "I"] ++ wsX30)
def wsX3_rootOf : List Cond := .code yX3_rootOf cX3_rootOf 2 (some .int) :: ([.fieldLink RX3 47 "SlabHeapModel" "thrown" "I", .fieldLink RX3 7 "SlabHeapModel" "words" "[I", .methodLink RX3 69 yX3_is, .instanceMethod yX3_is, .selects RX3 yX3_is yX3_is, .initialized RX3, .code yX3_is cX3_is 4 (some .boolean)] ++ wsX30)
def wsX3_keepLine : List Cond := .code yX3_keepLine cX3_keepLine 3 none :: ([.fieldLink RX3 13 "SlabHeapModel" "kept" "[I", .fieldLink RX3 7 "SlabHeapModel" "words" "[I"] ++ wsX30)
def wsX3_nothingWaits : List Cond := .code yX3_nothingWaits cX3_nothingWaits 2 none :: ([.fieldLink RX3 20 "SlabHeapModel" "isWaiting" "[Z", .fieldLink RX3 54 "SlabHeapModel" "waits" "I"] ++ wsX30)
def wsX3_fence : List Cond := .code yX3_fence cX3_fence 3 (some .int) :: ([.fieldLink RX3 47 "SlabHeapModel" "thrown" "I", .fieldLink RX3 54 "SlabHeapModel" "waits" "I", .fieldLink RX3 23 "SlabHeapModel" "waiting" "[I", .methodLink RX3 115 yX3_keepLine, .instanceMethod yX3_keepLine, .selects RX3 yX3_keepLine yX3_keepLine, .initialized RX3, .code yX3_keepLine cX3_keepLine 3 none, .fieldLink RX3 13 "SlabHeapModel" "kept" "[I", .fieldLink RX3 7 "SlabHeapModel" "words" "[I", .methodLink RX3 119 yX3_nothingWaits, .instanceMethod yX3_nothingWaits, .selects RX3 yX3_nothingWaits yX3_nothingWaits, .code yX3_nothingWaits cX3_nothingWaits 2 none, .fieldLink RX3 20 "SlabHeapModel" "isWaiting" "[Z"] ++ wsX30)
def wsX3_fits_r1 : List Cond := [Cond.fieldLink RX3 26 "SlabHeapModel" "kind" "[I", Cond.fieldLink RX3 29 "SlabHeapModel" "sort" "[I", Cond.methodLink RX3 69 yX3_is, Cond.instanceMethod yX3_is, Cond.selects RX3 yX3_is yX3_is, Cond.initialized RX3, Cond.code yX3_is cX3_is 4 (some .boolean), Cond.methodLink RX3 137 yX3_isHead, Cond.instanceMethod yX3_isHead, Cond.selects RX3 yX3_isHead yX3_isHead, Cond.code yX3_isHead cX3_isHead 4 (some .boolean), Cond.fieldLink RX3 7 "SlabHeapModel" "words" "[I", Cond.methodLink RX3 58 yX3_sizeAt, Cond.instanceMethod yX3_sizeAt, Cond.selects RX3 yX3_sizeAt yX3_sizeAt, Cond.code yX3_sizeAt cX3_sizeAt 2 (some .int), Cond.methodLink RX3 62 yX3_refsAt, Cond.instanceMethod yX3_refsAt, Cond.selects RX3 yX3_refsAt yX3_refsAt, Cond.code yX3_refsAt cX3_refsAt 2 (some .int), Cond.methodLink RX3 65 yX3_headOf, Cond.instanceMethod yX3_headOf, Cond.selects RX3 yX3_headOf yX3_headOf, Cond.code yX3_headOf cX3_headOf 5 (some .int)]
def wsX3_fits_r2 : List Cond := [Cond.constant RX3 57 (4194304), Cond.methodLink RX3 83 yX3_map, Cond.instanceMethod yX3_map, Cond.selects RX3 yX3_map yX3_map, Cond.code yX3_map cX3_map 6 none, Cond.fieldLink RX3 32 "SlabHeapModel" "first" "[I", Cond.fieldLink RX3 35 "SlabHeapModel" "blocks" "[I", Cond.fieldLink RX3 38 "SlabHeapModel" "free" "[I", Cond.fieldLink RX3 16 "SlabHeapModel" "isLive" "[Z", Cond.methodLink RX3 73 yX3_classOf, Cond.instanceMethod yX3_classOf, Cond.selects RX3 yX3_classOf yX3_classOf, Cond.code yX3_classOf cX3_classOf 2 (some .int), Cond.methodLink RX3 76 yX3_orderOf, Cond.instanceMethod yX3_orderOf, Cond.selects RX3 yX3_orderOf yX3_orderOf, Cond.code yX3_orderOf cX3_orderOf 3 (some .int), Cond.methodLink RX3 79 yX3_areFree, Cond.instanceMethod yX3_areFree, Cond.selects RX3 yX3_areFree yX3_areFree, Cond.code yX3_areFree cX3_areFree 4 (some .boolean)]
def wsX3_fits : List Cond := .code yX3_fits cX3_fits 6 (some .boolean) :: ((wsX3_fits_r1 ++ wsX3_fits_r2) ++ wsX30)
def wsX3_look_r1 : List Cond := [Cond.fieldLink RX3 7 "SlabHeapModel" "words" "[I", Cond.fieldLink RX3 16 "SlabHeapModel" "isLive" "[Z", Cond.fieldLink RX3 41 "SlabHeapModel" "found" "[I", Cond.fieldLink RX3 128 "SlabHeapModel" "foundMany" "I", Cond.fieldLink RX3 125 "SlabHeapModel" "cleared" "I", Cond.methodLink RX3 102 yX3_isBlock, Cond.instanceMethod yX3_isBlock, Cond.selects RX3 yX3_isBlock yX3_isBlock, Cond.initialized RX3, Cond.code yX3_isBlock cX3_isBlock 2 (some .boolean), Cond.methodLink RX3 69 yX3_is, Cond.instanceMethod yX3_is, Cond.selects RX3 yX3_is yX3_is, Cond.code yX3_is cX3_is 4 (some .boolean), Cond.methodLink RX3 134 yX3_fits, Cond.instanceMethod yX3_fits, Cond.selects RX3 yX3_fits yX3_fits, Cond.code yX3_fits cX3_fits 6 (some .boolean), Cond.fieldLink RX3 26 "SlabHeapModel" "kind" "[I", Cond.fieldLink RX3 29 "SlabHeapModel" "sort" "[I", Cond.methodLink RX3 137 yX3_isHead, Cond.instanceMethod yX3_isHead, Cond.selects RX3 yX3_isHead yX3_isHead, Cond.code yX3_isHead cX3_isHead 4 (some .boolean)]
def wsX3_look_r2 : List Cond := [Cond.methodLink RX3 58 yX3_sizeAt, Cond.instanceMethod yX3_sizeAt, Cond.selects RX3 yX3_sizeAt yX3_sizeAt, Cond.code yX3_sizeAt cX3_sizeAt 2 (some .int), Cond.methodLink RX3 62 yX3_refsAt, Cond.instanceMethod yX3_refsAt, Cond.selects RX3 yX3_refsAt yX3_refsAt, Cond.code yX3_refsAt cX3_refsAt 2 (some .int), Cond.methodLink RX3 65 yX3_headOf, Cond.instanceMethod yX3_headOf, Cond.selects RX3 yX3_headOf yX3_headOf, Cond.code yX3_headOf cX3_headOf 5 (some .int), Cond.constant RX3 57 (4194304), Cond.methodLink RX3 83 yX3_map, Cond.instanceMethod yX3_map, Cond.selects RX3 yX3_map yX3_map, Cond.code yX3_map cX3_map 6 none, Cond.fieldLink RX3 32 "SlabHeapModel" "first" "[I", Cond.fieldLink RX3 35 "SlabHeapModel" "blocks" "[I", Cond.fieldLink RX3 38 "SlabHeapModel" "free" "[I", Cond.methodLink RX3 73 yX3_classOf, Cond.instanceMethod yX3_classOf, Cond.selects RX3 yX3_classOf yX3_classOf, Cond.code yX3_classOf cX3_classOf 2 (some .int)]
def wsX3_look_r3 : List Cond := [Cond.methodLink RX3 76 yX3_orderOf, Cond.instanceMethod yX3_orderOf, Cond.selects RX3 yX3_orderOf yX3_orderOf, Cond.code yX3_orderOf cX3_orderOf 3 (some .int), Cond.methodLink RX3 79 yX3_areFree, Cond.instanceMethod yX3_areFree, Cond.selects RX3 yX3_areFree yX3_areFree, Cond.code yX3_areFree cX3_areFree 4 (some .boolean), Cond.methodLink RX3 98 yX3_write, Cond.instanceMethod yX3_write, Cond.selects RX3 yX3_write yX3_write, Cond.code yX3_write cX3_write 4 none, Cond.fieldLink RX3 20 "SlabHeapModel" "isWaiting" "[Z", Cond.fieldLink RX3 23 "SlabHeapModel" "waiting" "[I", Cond.fieldLink RX3 54 "SlabHeapModel" "waits" "I"]
def wsX3_look : List Cond := .code yX3_look cX3_look 3 none :: ((wsX3_look_r1 ++ (wsX3_look_r2 ++ wsX3_look_r3)) ++ wsX30)
def wsX3_crash_r1 : List Cond := [Cond.fieldLink RX3 47 "SlabHeapModel" "thrown" "I", Cond.fieldLink RX3 54 "SlabHeapModel" "waits" "I", Cond.fieldLink RX3 23 "SlabHeapModel" "waiting" "[I", Cond.fieldLink RX3 7 "SlabHeapModel" "words" "[I", Cond.fieldLink RX3 13 "SlabHeapModel" "kept" "[I", Cond.fieldLink RX3 16 "SlabHeapModel" "isLive" "[Z", Cond.fieldLink RX3 122 "SlabHeapModel" "crashes" "I", Cond.fieldLink RX3 125 "SlabHeapModel" "cleared" "I", Cond.fieldLink RX3 128 "SlabHeapModel" "foundMany" "I", Cond.fieldLink RX3 41 "SlabHeapModel" "found" "[I", Cond.methodLink RX3 115 yX3_keepLine, Cond.instanceMethod yX3_keepLine, Cond.selects RX3 yX3_keepLine yX3_keepLine, Cond.initialized RX3, Cond.code yX3_keepLine cX3_keepLine 3 none, Cond.methodLink RX3 119 yX3_nothingWaits, Cond.instanceMethod yX3_nothingWaits, Cond.selects RX3 yX3_nothingWaits yX3_nothingWaits, Cond.code yX3_nothingWaits cX3_nothingWaits 2 none, Cond.fieldLink RX3 20 "SlabHeapModel" "isWaiting" "[Z", Cond.methodLink RX3 131 yX3_look, Cond.instanceMethod yX3_look, Cond.selects RX3 yX3_look yX3_look, Cond.code yX3_look cX3_look 3 none]
def wsX3_crash_r2 : List Cond := [Cond.methodLink RX3 102 yX3_isBlock, Cond.instanceMethod yX3_isBlock, Cond.selects RX3 yX3_isBlock yX3_isBlock, Cond.code yX3_isBlock cX3_isBlock 2 (some .boolean), Cond.methodLink RX3 69 yX3_is, Cond.instanceMethod yX3_is, Cond.selects RX3 yX3_is yX3_is, Cond.code yX3_is cX3_is 4 (some .boolean), Cond.methodLink RX3 134 yX3_fits, Cond.instanceMethod yX3_fits, Cond.selects RX3 yX3_fits yX3_fits, Cond.code yX3_fits cX3_fits 6 (some .boolean), Cond.fieldLink RX3 26 "SlabHeapModel" "kind" "[I", Cond.fieldLink RX3 29 "SlabHeapModel" "sort" "[I", Cond.methodLink RX3 137 yX3_isHead, Cond.instanceMethod yX3_isHead, Cond.selects RX3 yX3_isHead yX3_isHead, Cond.code yX3_isHead cX3_isHead 4 (some .boolean), Cond.methodLink RX3 58 yX3_sizeAt, Cond.instanceMethod yX3_sizeAt, Cond.selects RX3 yX3_sizeAt yX3_sizeAt, Cond.code yX3_sizeAt cX3_sizeAt 2 (some .int), Cond.methodLink RX3 62 yX3_refsAt, Cond.instanceMethod yX3_refsAt]
def wsX3_crash_r3 : List Cond := [Cond.selects RX3 yX3_refsAt yX3_refsAt, Cond.code yX3_refsAt cX3_refsAt 2 (some .int), Cond.methodLink RX3 65 yX3_headOf, Cond.instanceMethod yX3_headOf, Cond.selects RX3 yX3_headOf yX3_headOf, Cond.code yX3_headOf cX3_headOf 5 (some .int), Cond.constant RX3 57 (4194304), Cond.methodLink RX3 83 yX3_map, Cond.instanceMethod yX3_map, Cond.selects RX3 yX3_map yX3_map, Cond.code yX3_map cX3_map 6 none, Cond.fieldLink RX3 32 "SlabHeapModel" "first" "[I", Cond.fieldLink RX3 35 "SlabHeapModel" "blocks" "[I", Cond.fieldLink RX3 38 "SlabHeapModel" "free" "[I", Cond.methodLink RX3 73 yX3_classOf, Cond.instanceMethod yX3_classOf, Cond.selects RX3 yX3_classOf yX3_classOf, Cond.code yX3_classOf cX3_classOf 2 (some .int), Cond.methodLink RX3 76 yX3_orderOf, Cond.instanceMethod yX3_orderOf, Cond.selects RX3 yX3_orderOf yX3_orderOf, Cond.code yX3_orderOf cX3_orderOf 3 (some .int), Cond.methodLink RX3 79 yX3_areFree, Cond.instanceMethod yX3_areFree]
def wsX3_crash_r4 : List Cond := [Cond.selects RX3 yX3_areFree yX3_areFree, Cond.code yX3_areFree cX3_areFree 4 (some .boolean), Cond.methodLink RX3 98 yX3_write, Cond.instanceMethod yX3_write, Cond.selects RX3 yX3_write yX3_write, Cond.code yX3_write cX3_write 4 none]
def wsX3_crash : List Cond := .code yX3_crash cX3_crash 4 (some .int) :: ((wsX3_crash_r1 ++ (wsX3_crash_r2 ++ (wsX3_crash_r3 ++ wsX3_crash_r4))) ++ wsX30)
def wsX3_see : List Cond := .code yX3_see cX3_see 2 none :: ([.fieldLink RX3 44 "SlabHeapModel" "isSeen" "[Z", .fieldLink RX3 41 "SlabHeapModel" "found" "[I", .fieldLink RX3 128 "SlabHeapModel" "foundMany" "I", .methodLink RX3 102 yX3_isBlock, .instanceMethod yX3_isBlock, .selects RX3 yX3_isBlock yX3_isBlock, .initialized RX3, .code yX3_isBlock cX3_isBlock 2 (some .boolean), .fieldLink RX3 16 "SlabHeapModel" "isLive" "[Z", .methodLink RX3 69 yX3_is, .instanceMethod yX3_is, .selects RX3 yX3_is yX3_is, .code yX3_is cX3_is 4 (some .boolean)] ++ wsX30)
def wsX3_collect_r1 : List Cond := [Cond.fieldLink RX3 47 "SlabHeapModel" "thrown" "I", Cond.fieldLink RX3 44 "SlabHeapModel" "isSeen" "[Z", Cond.fieldLink RX3 128 "SlabHeapModel" "foundMany" "I", Cond.fieldLink RX3 7 "SlabHeapModel" "words" "[I", Cond.fieldLink RX3 41 "SlabHeapModel" "found" "[I", Cond.fieldLink RX3 16 "SlabHeapModel" "isLive" "[Z", Cond.methodLink RX3 140 yX3_see, Cond.instanceMethod yX3_see, Cond.selects RX3 yX3_see yX3_see, Cond.initialized RX3, Cond.code yX3_see cX3_see 2 none, Cond.methodLink RX3 102 yX3_isBlock, Cond.instanceMethod yX3_isBlock, Cond.selects RX3 yX3_isBlock yX3_isBlock, Cond.code yX3_isBlock cX3_isBlock 2 (some .boolean), Cond.methodLink RX3 69 yX3_is, Cond.instanceMethod yX3_is, Cond.selects RX3 yX3_is yX3_is, Cond.code yX3_is cX3_is 4 (some .boolean), Cond.methodLink RX3 62 yX3_refsAt, Cond.instanceMethod yX3_refsAt, Cond.selects RX3 yX3_refsAt yX3_refsAt, Cond.code yX3_refsAt cX3_refsAt 2 (some .int), Cond.methodLink RX3 109 yX3_freed]
def wsX3_collect_r2 : List Cond := [Cond.instanceMethod yX3_freed, Cond.selects RX3 yX3_freed yX3_freed, Cond.code yX3_freed cX3_freed 3 (some .int), Cond.methodLink RX3 58 yX3_sizeAt, Cond.instanceMethod yX3_sizeAt, Cond.selects RX3 yX3_sizeAt yX3_sizeAt, Cond.code yX3_sizeAt cX3_sizeAt 2 (some .int), Cond.methodLink RX3 98 yX3_write, Cond.instanceMethod yX3_write, Cond.selects RX3 yX3_write yX3_write, Cond.code yX3_write cX3_write 4 none, Cond.fieldLink RX3 20 "SlabHeapModel" "isWaiting" "[Z", Cond.fieldLink RX3 23 "SlabHeapModel" "waiting" "[I", Cond.fieldLink RX3 54 "SlabHeapModel" "waits" "I"]
def wsX3_collect : List Cond := .code yX3_collect cX3_collect 4 (some .int) :: ((wsX3_collect_r1 ++ wsX3_collect_r2) ++ wsX30)
def wsX3_word : List Cond := .code yX3_word cX3_word 3 (some .int) :: ([.fieldLink RX3 47 "SlabHeapModel" "thrown" "I", .fieldLink RX3 13 "SlabHeapModel" "kept" "[I", .fieldLink RX3 7 "SlabHeapModel" "words" "[I", .methodLink RX3 69 yX3_is, .instanceMethod yX3_is, .selects RX3 yX3_is yX3_is, .initialized RX3, .code yX3_is cX3_is 4 (some .boolean)] ++ wsX30)
def wsX3_scribble : List Cond := .code yX3_scribble cX3_scribble 4 (some .boolean) :: ([.fieldLink RX3 47 "SlabHeapModel" "thrown" "I", .fieldLink RX3 16 "SlabHeapModel" "isLive" "[Z", .fieldLink RX3 51 "SlabHeapModel" "trouble" "I", .methodLink RX3 69 yX3_is, .instanceMethod yX3_is, .selects RX3 yX3_is yX3_is, .initialized RX3, .code yX3_is cX3_is 4 (some .boolean), .methodLink RX3 112 yX3_not, .instanceMethod yX3_not, .selects RX3 yX3_not yX3_not, .code yX3_not cX3_not 2 (some .boolean), .methodLink RX3 58 yX3_sizeAt, .instanceMethod yX3_sizeAt, .selects RX3 yX3_sizeAt yX3_sizeAt, .code yX3_sizeAt cX3_sizeAt 2 (some .int), .fieldLink RX3 7 "SlabHeapModel" "words" "[I", .methodLink RX3 98 yX3_write, .instanceMethod yX3_write, .selects RX3 yX3_write yX3_write, .code yX3_write cX3_write 4 none, .fieldLink RX3 20 "SlabHeapModel" "isWaiting" "[Z", .fieldLink RX3 23 "SlabHeapModel" "waiting" "[I", .fieldLink RX3 54 "SlabHeapModel" "waits" "I"] ++ wsX30)
def wsX3_block_r1 : List Cond := [Cond.fieldLink RX3 47 "SlabHeapModel" "thrown" "I", Cond.methodLink RX3 102 yX3_isBlock, Cond.instanceMethod yX3_isBlock, Cond.selects RX3 yX3_isBlock yX3_isBlock, Cond.initialized RX3, Cond.code yX3_isBlock cX3_isBlock 2 (some .boolean), Cond.fieldLink RX3 16 "SlabHeapModel" "isLive" "[Z", Cond.methodLink RX3 69 yX3_is, Cond.instanceMethod yX3_is, Cond.selects RX3 yX3_is yX3_is, Cond.code yX3_is cX3_is 4 (some .boolean), Cond.methodLink RX3 58 yX3_sizeAt, Cond.instanceMethod yX3_sizeAt, Cond.selects RX3 yX3_sizeAt yX3_sizeAt, Cond.code yX3_sizeAt cX3_sizeAt 2 (some .int), Cond.fieldLink RX3 7 "SlabHeapModel" "words" "[I", Cond.methodLink RX3 62 yX3_refsAt, Cond.instanceMethod yX3_refsAt, Cond.selects RX3 yX3_refsAt yX3_refsAt, Cond.code yX3_refsAt cX3_refsAt 2 (some .int), Cond.methodLink RX3 73 yX3_classOf, Cond.instanceMethod yX3_classOf, Cond.selects RX3 yX3_classOf yX3_classOf, Cond.code yX3_classOf cX3_classOf 2 (some .int)]
def wsX3_block_r2 : List Cond := [Cond.methodLink RX3 76 yX3_orderOf, Cond.instanceMethod yX3_orderOf, Cond.selects RX3 yX3_orderOf yX3_orderOf, Cond.code yX3_orderOf cX3_orderOf 3 (some .int), Cond.methodLink RX3 106 yX3_leading, Cond.instanceMethod yX3_leading, Cond.selects RX3 yX3_leading yX3_leading, Cond.code yX3_leading cX3_leading 5 (some .int)]
def wsX3_block : List Cond := .code yX3_block cX3_block 4 (some .int) :: ((wsX3_block_r1 ++ wsX3_block_r2) ++ wsX30)
def wsX3_live : List Cond := .code yX3_live cX3_live 4 (some .int) :: ([.fieldLink RX3 47 "SlabHeapModel" "thrown" "I", .fieldLink RX3 16 "SlabHeapModel" "isLive" "[Z"] ++ wsX30)
def wsX3_page_r1 : List Cond := [Cond.fieldLink RX3 47 "SlabHeapModel" "thrown" "I", Cond.fieldLink RX3 26 "SlabHeapModel" "kind" "[I", Cond.fieldLink RX3 29 "SlabHeapModel" "sort" "[I", Cond.fieldLink RX3 35 "SlabHeapModel" "blocks" "[I", Cond.fieldLink RX3 32 "SlabHeapModel" "first" "[I", Cond.methodLink RX3 69 yX3_is, Cond.instanceMethod yX3_is, Cond.selects RX3 yX3_is yX3_is, Cond.initialized RX3, Cond.code yX3_is cX3_is 4 (some .boolean), Cond.methodLink RX3 83 yX3_map, Cond.instanceMethod yX3_map, Cond.selects RX3 yX3_map yX3_map, Cond.code yX3_map cX3_map 6 none, Cond.fieldLink RX3 38 "SlabHeapModel" "free" "[I", Cond.fieldLink RX3 16 "SlabHeapModel" "isLive" "[Z", Cond.methodLink RX3 58 yX3_sizeAt, Cond.instanceMethod yX3_sizeAt, Cond.selects RX3 yX3_sizeAt yX3_sizeAt, Cond.code yX3_sizeAt cX3_sizeAt 2 (some .int), Cond.fieldLink RX3 7 "SlabHeapModel" "words" "[I", Cond.methodLink RX3 73 yX3_classOf, Cond.instanceMethod yX3_classOf, Cond.selects RX3 yX3_classOf yX3_classOf]
def wsX3_page_r2 : List Cond := [Cond.code yX3_classOf cX3_classOf 2 (some .int), Cond.methodLink RX3 76 yX3_orderOf, Cond.instanceMethod yX3_orderOf, Cond.selects RX3 yX3_orderOf yX3_orderOf, Cond.code yX3_orderOf cX3_orderOf 3 (some .int), Cond.methodLink RX3 79 yX3_areFree, Cond.instanceMethod yX3_areFree, Cond.selects RX3 yX3_areFree yX3_areFree, Cond.code yX3_areFree cX3_areFree 4 (some .boolean)]
def wsX3_page : List Cond := .code yX3_page cX3_page 3 (some .int) :: ((wsX3_page_r1 ++ wsX3_page_r2) ++ wsX30)
def wsX3_extents_r1 : List Cond := [Cond.fieldLink RX3 47 "SlabHeapModel" "thrown" "I", Cond.fieldLink RX3 38 "SlabHeapModel" "free" "[I", Cond.fieldLink RX3 32 "SlabHeapModel" "first" "[I", Cond.methodLink RX3 69 yX3_is, Cond.instanceMethod yX3_is, Cond.selects RX3 yX3_is yX3_is, Cond.initialized RX3, Cond.code yX3_is cX3_is 4 (some .boolean), Cond.methodLink RX3 83 yX3_map, Cond.instanceMethod yX3_map, Cond.selects RX3 yX3_map yX3_map, Cond.code yX3_map cX3_map 6 none, Cond.fieldLink RX3 26 "SlabHeapModel" "kind" "[I", Cond.fieldLink RX3 29 "SlabHeapModel" "sort" "[I", Cond.fieldLink RX3 35 "SlabHeapModel" "blocks" "[I", Cond.fieldLink RX3 16 "SlabHeapModel" "isLive" "[Z", Cond.methodLink RX3 58 yX3_sizeAt, Cond.instanceMethod yX3_sizeAt, Cond.selects RX3 yX3_sizeAt yX3_sizeAt, Cond.code yX3_sizeAt cX3_sizeAt 2 (some .int), Cond.fieldLink RX3 7 "SlabHeapModel" "words" "[I", Cond.methodLink RX3 73 yX3_classOf, Cond.instanceMethod yX3_classOf, Cond.selects RX3 yX3_classOf yX3_classOf]
def wsX3_extents_r2 : List Cond := [Cond.code yX3_classOf cX3_classOf 2 (some .int), Cond.methodLink RX3 76 yX3_orderOf, Cond.instanceMethod yX3_orderOf, Cond.selects RX3 yX3_orderOf yX3_orderOf, Cond.code yX3_orderOf cX3_orderOf 3 (some .int), Cond.methodLink RX3 79 yX3_areFree, Cond.instanceMethod yX3_areFree, Cond.selects RX3 yX3_areFree yX3_areFree, Cond.code yX3_areFree cX3_areFree 4 (some .boolean)]
def wsX3_extents : List Cond := .code yX3_extents cX3_extents 4 (some .int) :: ((wsX3_extents_r1 ++ wsX3_extents_r2) ++ wsX30)
def wsX3_next_r1 : List Cond := [Cond.fieldLink RX3 47 "SlabHeapModel" "thrown" "I", Cond.methodLink RX3 69 yX3_is, Cond.instanceMethod yX3_is, Cond.selects RX3 yX3_is yX3_is, Cond.initialized RX3, Cond.code yX3_is cX3_is 4 (some .boolean), Cond.methodLink RX3 83 yX3_map, Cond.instanceMethod yX3_map, Cond.selects RX3 yX3_map yX3_map, Cond.code yX3_map cX3_map 6 none, Cond.fieldLink RX3 26 "SlabHeapModel" "kind" "[I", Cond.fieldLink RX3 29 "SlabHeapModel" "sort" "[I", Cond.fieldLink RX3 32 "SlabHeapModel" "first" "[I", Cond.fieldLink RX3 35 "SlabHeapModel" "blocks" "[I", Cond.fieldLink RX3 38 "SlabHeapModel" "free" "[I", Cond.fieldLink RX3 16 "SlabHeapModel" "isLive" "[Z", Cond.methodLink RX3 58 yX3_sizeAt, Cond.instanceMethod yX3_sizeAt, Cond.selects RX3 yX3_sizeAt yX3_sizeAt, Cond.code yX3_sizeAt cX3_sizeAt 2 (some .int), Cond.fieldLink RX3 7 "SlabHeapModel" "words" "[I", Cond.methodLink RX3 73 yX3_classOf, Cond.instanceMethod yX3_classOf, Cond.selects RX3 yX3_classOf yX3_classOf]
def wsX3_next_r2 : List Cond := [Cond.code yX3_classOf cX3_classOf 2 (some .int), Cond.methodLink RX3 76 yX3_orderOf, Cond.instanceMethod yX3_orderOf, Cond.selects RX3 yX3_orderOf yX3_orderOf, Cond.code yX3_orderOf cX3_orderOf 3 (some .int), Cond.methodLink RX3 79 yX3_areFree, Cond.instanceMethod yX3_areFree, Cond.selects RX3 yX3_areFree yX3_areFree, Cond.code yX3_areFree cX3_areFree 4 (some .boolean), Cond.methodLink RX3 86 yX3_taken, Cond.instanceMethod yX3_taken, Cond.selects RX3 yX3_taken yX3_taken, Cond.code yX3_taken cX3_taken 4 (some .int)]
def wsX3_next : List Cond := .code yX3_next cX3_next 2 (some .int) :: ((wsX3_next_r1 ++ wsX3_next_r2) ++ wsX30)
def wsX3_count_r1 : List Cond := [Cond.fieldLink RX3 47 "SlabHeapModel" "thrown" "I", Cond.fieldLink RX3 16 "SlabHeapModel" "isLive" "[Z", Cond.fieldLink RX3 26 "SlabHeapModel" "kind" "[I", Cond.fieldLink RX3 35 "SlabHeapModel" "blocks" "[I", Cond.fieldLink RX3 54 "SlabHeapModel" "waits" "I", Cond.fieldLink RX3 125 "SlabHeapModel" "cleared" "I", Cond.fieldLink RX3 122 "SlabHeapModel" "crashes" "I", Cond.methodLink RX3 83 yX3_map, Cond.instanceMethod yX3_map, Cond.selects RX3 yX3_map yX3_map, Cond.initialized RX3, Cond.code yX3_map cX3_map 6 none, Cond.fieldLink RX3 29 "SlabHeapModel" "sort" "[I", Cond.fieldLink RX3 32 "SlabHeapModel" "first" "[I", Cond.fieldLink RX3 38 "SlabHeapModel" "free" "[I", Cond.methodLink RX3 58 yX3_sizeAt, Cond.instanceMethod yX3_sizeAt, Cond.selects RX3 yX3_sizeAt yX3_sizeAt, Cond.code yX3_sizeAt cX3_sizeAt 2 (some .int), Cond.fieldLink RX3 7 "SlabHeapModel" "words" "[I", Cond.methodLink RX3 73 yX3_classOf, Cond.instanceMethod yX3_classOf, Cond.selects RX3 yX3_classOf yX3_classOf, Cond.code yX3_classOf cX3_classOf 2 (some .int)]
def wsX3_count_r2 : List Cond := [Cond.methodLink RX3 76 yX3_orderOf, Cond.instanceMethod yX3_orderOf, Cond.selects RX3 yX3_orderOf yX3_orderOf, Cond.code yX3_orderOf cX3_orderOf 3 (some .int), Cond.methodLink RX3 79 yX3_areFree, Cond.instanceMethod yX3_areFree, Cond.selects RX3 yX3_areFree yX3_areFree, Cond.code yX3_areFree cX3_areFree 4 (some .boolean), Cond.methodLink RX3 89 yX3_slots, Cond.instanceMethod yX3_slots, Cond.selects RX3 yX3_slots yX3_slots, Cond.code yX3_slots cX3_slots 2 (some .int)]
def wsX3_count : List Cond := .code yX3_count cX3_count 4 (some .int) :: ((wsX3_count_r1 ++ wsX3_count_r2) ++ wsX30)
def wsX3_head : List Cond := .code yX3_head cX3_head 4 (some .int) :: ([.fieldLink RX3 47 "SlabHeapModel" "thrown" "I", .methodLink RX3 69 yX3_is, .instanceMethod yX3_is, .selects RX3 yX3_is yX3_is, .initialized RX3, .code yX3_is cX3_is 4 (some .boolean), .methodLink RX3 65 yX3_headOf, .instanceMethod yX3_headOf, .selects RX3 yX3_headOf yX3_headOf, .code yX3_headOf cX3_headOf 5 (some .int), .constant RX3 57 (4194304)] ++ wsX30)
def wsX3_waits : List Cond := .code yX3_waits cX3_waits 2 (some .int) :: ([.fieldLink RX3 47 "SlabHeapModel" "thrown" "I", .fieldLink RX3 54 "SlabHeapModel" "waits" "I", .fieldLink RX3 23 "SlabHeapModel" "waiting" "[I", .methodLink RX3 69 yX3_is, .instanceMethod yX3_is, .selects RX3 yX3_is yX3_is, .initialized RX3, .code yX3_is cX3_is 4 (some .boolean)] ++ wsX30)
def wsX3_trouble : List Cond := .code yX3_trouble cX3_trouble 1 (some .int) :: ([.fieldLink RX3 47 "SlabHeapModel" "thrown" "I", .fieldLink RX3 51 "SlabHeapModel" "trouble" "I"] ++ wsX30)
def wsL_law_r1 : List Cond := [Cond.classLink RL 7 RX2, Cond.instantiable RX2 7, Cond.initialized RX2, Cond.classLink RL 10 RX3, Cond.instantiable RX3 18, Cond.initialized RX3, Cond.methodLink RL 9 yX2_init, Cond.instanceMethod yX2_init, Cond.code yX2_init cX2_init 1 none, Cond.methodLink RX2 1 objectInit, Cond.instanceMethod objectInit, Cond.code objectInit ⟨#[0xb1]⟩ 1 none, Cond.classLink RX2 7 RX1, Cond.instantiable RX1 5, Cond.initialized RX1, Cond.fieldLink RX2 10 "SlabHeap" "words" "LSlabHeap$Words;", Cond.classLink RX2 16 RX0, Cond.instantiable RX0 4, Cond.initialized RX0, Cond.fieldLink RX2 19 "SlabHeap" "pages" "LSlabHeap$Pages;", Cond.arrayClass .int, Cond.fieldLink RX2 23 "SlabHeap" "row" "[I", Cond.fieldLink RX2 27 "SlabHeap" "found" "I", Cond.fieldLink RX2 31 "SlabHeap" "cleared" "I"]
def wsL_law_r2 : List Cond := [Cond.fieldLink RX2 34 "SlabHeap" "crashes" "I", Cond.fieldLink RX2 37 "SlabHeap" "latestTrouble" "I", Cond.instanceMethod yX1_init, Cond.code yX1_init cX1_init 1 none, Cond.methodLink RX1 3 objectInit, Cond.fieldLink RX1 9 "SlabHeap$Words" "now" "[I", Cond.fieldLink RX1 15 "SlabHeap$Words" "kept" "[I", Cond.fieldLink RX1 18 "SlabHeap$Words" "queue" "[I", Cond.arrayClass .boolean, Cond.fieldLink RX1 21 "SlabHeap$Words" "queued" "[Z", Cond.fieldLink RX1 25 "SlabHeap$Words" "queueLength" "I", Cond.methodLink RX2 18 yX0_init, Cond.instanceMethod yX0_init, Cond.code yX0_init cX0_init 1 none, Cond.methodLink RX0 3 objectInit, Cond.fieldLink RX0 9 "SlabHeap$Pages" "kinds" "[I", Cond.fieldLink RX0 15 "SlabHeap$Pages" "forms" "[I", Cond.fieldLink RX0 18 "SlabHeap$Pages" "taken" "[I", Cond.fieldLink RX0 21 "SlabHeap$Pages" "marks" "[I", Cond.methodLink RL 12 yX3_init, Cond.instanceMethod yX3_init, Cond.code yX3_init cX3_init 1 none, Cond.methodLink RX3 1 objectInit, Cond.fieldLink RX3 7 "SlabHeapModel" "words" "[I"]
def wsL_law_r3 : List Cond := [Cond.fieldLink RX3 13 "SlabHeapModel" "kept" "[I", Cond.fieldLink RX3 16 "SlabHeapModel" "isLive" "[Z", Cond.fieldLink RX3 20 "SlabHeapModel" "isWaiting" "[Z", Cond.fieldLink RX3 23 "SlabHeapModel" "waiting" "[I", Cond.fieldLink RX3 26 "SlabHeapModel" "kind" "[I", Cond.fieldLink RX3 29 "SlabHeapModel" "sort" "[I", Cond.fieldLink RX3 32 "SlabHeapModel" "first" "[I", Cond.fieldLink RX3 35 "SlabHeapModel" "blocks" "[I", Cond.fieldLink RX3 38 "SlabHeapModel" "free" "[I", Cond.fieldLink RX3 41 "SlabHeapModel" "found" "[I", Cond.fieldLink RX3 44 "SlabHeapModel" "isSeen" "[Z", Cond.methodLink RL 13 yX2_alloc, Cond.instanceMethod yX2_alloc, Cond.selects RX2 yX2_alloc yX2_alloc, Cond.code yX2_alloc cX2_alloc 5 (some .int), Cond.methodLink RX2 40 yX2_isShape, Cond.static yX2_isShape, Cond.code yX2_isShape cX2_isShape 2 (some .boolean), Cond.methodLink RX2 44 yX2_answer, Cond.instanceMethod yX2_answer, Cond.selects RX2 yX2_answer yX2_answer, Cond.code yX2_answer cX2_answer 3 (some .int), Cond.methodLink RX2 48 yX0_placeFor, Cond.instanceMethod yX0_placeFor]
def wsL_law_r4 : List Cond := [Cond.selects RX0 yX0_placeFor yX0_placeFor, Cond.code yX0_placeFor cX0_placeFor 5 (some .int), Cond.static yX2_classFor, Cond.code yX2_classFor cX2_classFor 5 (some .int), Cond.fieldLink RX2 177 "SlabHeap" "CLASSES" "[I", Cond.methodLink RX0 72 yX0_emptySlot, Cond.instanceMethod yX0_emptySlot, Cond.selects RX0 yX0_emptySlot yX0_emptySlot, Cond.code yX0_emptySlot cX0_emptySlot 5 (some .int), Cond.methodLink RX0 84 yX0_isSlabOf, Cond.instanceMethod yX0_isSlabOf, Cond.selects RX0 yX0_isSlabOf yX0_isSlabOf, Cond.code yX0_isSlabOf cX0_isSlabOf 3 (some .boolean), Cond.static yX2_isPage, Cond.code yX2_isPage cX2_isPage 1 (some .boolean), Cond.methodLink RX0 104 yX0_slotsOf, Cond.instanceMethod yX0_slotsOf, Cond.selects RX0 yX0_slotsOf yX0_slotsOf, Cond.code yX0_slotsOf cX0_slotsOf 3 (some .int), Cond.methodLink RX0 53 yX0_stepOf, Cond.instanceMethod yX0_stepOf, Cond.selects RX0 yX0_stepOf yX0_stepOf, Cond.code yX0_stepOf cX0_stepOf 2 (some .int), Cond.methodLink RX0 56 yX0_isTaken]
def wsL_law_r5 : List Cond := [Cond.instanceMethod yX0_isTaken, Cond.selects RX0 yX0_isTaken yX0_isTaken, Cond.code yX0_isTaken cX0_isTaken 3 (some .boolean), Cond.static yX2_orderFor, Cond.code yX2_orderFor cX2_orderFor 2 (some .int), Cond.methodLink RX2 129 yX2_classFor, Cond.methodLink RX0 78 yX0_extentFor, Cond.instanceMethod yX0_extentFor, Cond.selects RX0 yX0_extentFor yX0_extentFor, Cond.code yX0_extentFor cX0_extentFor 4 (some .int), Cond.static yX2_isOrder, Cond.code yX2_isOrder cX2_isOrder 1 (some .boolean), Cond.methodLink RX0 113 yX0_isFreeExtent, Cond.instanceMethod yX0_isFreeExtent, Cond.selects RX0 yX0_isFreeExtent yX0_isFreeExtent, Cond.code yX0_isFreeExtent cX0_isFreeExtent 3 (some .boolean), Cond.methodLink RX0 87 yX0_isFreeRun, Cond.instanceMethod yX0_isFreeRun, Cond.selects RX0 yX0_isFreeRun yX0_isFreeRun, Cond.code yX0_isFreeRun cX0_isFreeRun 5 (some .boolean), Cond.methodLink RX0 38 yX0_kindOf, Cond.instanceMethod yX0_kindOf, Cond.selects RX0 yX0_kindOf yX0_kindOf, Cond.code yX0_kindOf cX0_kindOf 2 (some .int)]
def wsL_law_r6 : List Cond := [Cond.methodLink RX0 44 yX0_alignedTo, Cond.static yX0_alignedTo, Cond.code yX0_alignedTo cX0_alignedTo 2 (some .int), Cond.methodLink RX2 52 yX0_add, Cond.instanceMethod yX0_add, Cond.selects RX0 yX0_add yX0_add, Cond.code yX0_add cX0_add 6 none, Cond.methodLink RX0 60 yX0_pageOf, Cond.static yX0_pageOf, Cond.code yX0_pageOf cX0_pageOf 1 (some .int), Cond.methodLink RX0 90 yX0_lay, Cond.instanceMethod yX0_lay, Cond.selects RX0 yX0_lay yX0_lay, Cond.code yX0_lay cX0_lay 4 none, Cond.methodLink RX0 94 yX0_layExtent, Cond.instanceMethod yX0_layExtent, Cond.selects RX0 yX0_layExtent yX0_layExtent, Cond.code yX0_layExtent cX0_layExtent 5 none, Cond.methodLink RX0 63 yX0_slotAt, Cond.instanceMethod yX0_slotAt, Cond.selects RX0 yX0_slotAt yX0_slotAt, Cond.code yX0_slotAt cX0_slotAt 2 (some .int), Cond.methodLink RX0 81 yX0_slotBy, Cond.static yX0_slotBy]
def wsL_law_r7 : List Cond := [Cond.code yX0_slotBy cX0_slotBy 3 (some .int), Cond.methodLink RX2 56 yX2_headOf, Cond.static yX2_headOf, Cond.code yX2_headOf cX2_headOf 4 (some .int), Cond.constant RX2 176 (4194304), Cond.methodLink RX2 171 yJ9_floorMod_7cf53, Cond.static yJ9_floorMod_7cf53, Cond.initialized RJ9, Cond.code yJ9_floorMod_7cf53 cJ9_floorMod_7cf53 3 (some .int), Cond.methodLink RX2 60 yX1_write, Cond.instanceMethod yX1_write, Cond.selects RX1 yX1_write yX1_write, Cond.code yX1_write cX1_write 4 none, Cond.static yX2_isWord, Cond.code yX2_isWord cX2_isWord 1 (some .boolean), Cond.methodLink RX2 63 yX2_wordOf, Cond.static yX2_wordOf, Cond.code yX2_wordOf cX2_wordOf 2 (some .int), Cond.methodLink RL 17 yX3_alloc, Cond.instanceMethod yX3_alloc, Cond.selects RX3 yX3_alloc yX3_alloc, Cond.code yX3_alloc cX3_alloc 5 (some .int), Cond.fieldLink RX3 47 "SlabHeapModel" "thrown" "I", Cond.fieldLink RX3 51 "SlabHeapModel" "trouble" "I"]
def wsL_law_r8 : List Cond := [Cond.methodLink RX3 69 yX3_is, Cond.instanceMethod yX3_is, Cond.selects RX3 yX3_is yX3_is, Cond.code yX3_is cX3_is 4 (some .boolean), Cond.methodLink RX3 92 yX3_no, Cond.instanceMethod yX3_no, Cond.selects RX3 yX3_no yX3_no, Cond.code yX3_no cX3_no 2 (some .int), Cond.methodLink RX3 95 yX3_placeFor, Cond.instanceMethod yX3_placeFor, Cond.selects RX3 yX3_placeFor yX3_placeFor, Cond.code yX3_placeFor cX3_placeFor 5 (some .int), Cond.methodLink RX3 83 yX3_map, Cond.instanceMethod yX3_map, Cond.selects RX3 yX3_map yX3_map, Cond.code yX3_map cX3_map 6 none, Cond.methodLink RX3 58 yX3_sizeAt, Cond.instanceMethod yX3_sizeAt, Cond.selects RX3 yX3_sizeAt yX3_sizeAt, Cond.code yX3_sizeAt cX3_sizeAt 2 (some .int), Cond.methodLink RX3 73 yX3_classOf, Cond.instanceMethod yX3_classOf, Cond.selects RX3 yX3_classOf yX3_classOf, Cond.code yX3_classOf cX3_classOf 2 (some .int)]
def wsL_law_r9 : List Cond := [Cond.methodLink RX3 76 yX3_orderOf, Cond.instanceMethod yX3_orderOf, Cond.selects RX3 yX3_orderOf yX3_orderOf, Cond.code yX3_orderOf cX3_orderOf 3 (some .int), Cond.methodLink RX3 79 yX3_areFree, Cond.instanceMethod yX3_areFree, Cond.selects RX3 yX3_areFree yX3_areFree, Cond.code yX3_areFree cX3_areFree 4 (some .boolean), Cond.methodLink RX3 86 yX3_taken, Cond.instanceMethod yX3_taken, Cond.selects RX3 yX3_taken yX3_taken, Cond.code yX3_taken cX3_taken 4 (some .int), Cond.methodLink RX3 89 yX3_slots, Cond.instanceMethod yX3_slots, Cond.selects RX3 yX3_slots yX3_slots, Cond.code yX3_slots cX3_slots 2 (some .int), Cond.methodLink RX3 65 yX3_headOf, Cond.instanceMethod yX3_headOf, Cond.selects RX3 yX3_headOf yX3_headOf, Cond.code yX3_headOf cX3_headOf 5 (some .int), Cond.constant RX3 57 (4194304), Cond.methodLink RX3 98 yX3_write, Cond.instanceMethod yX3_write, Cond.selects RX3 yX3_write yX3_write]
def wsL_law_r10 : List Cond := [Cond.code yX3_write cX3_write 4 none, Cond.fieldLink RX3 54 "SlabHeapModel" "waits" "I", Cond.methodLink RL 18 yX2_free, Cond.instanceMethod yX2_free, Cond.selects RX2 yX2_free yX2_free, Cond.code yX2_free cX2_free 3 (some .int), Cond.methodLink RX2 66 yX0_isLive, Cond.instanceMethod yX0_isLive, Cond.selects RX0 yX0_isLive yX0_isLive, Cond.code yX0_isLive cX0_isLive 2 (some .boolean), Cond.methodLink RX2 70 yX2_leadsTo, Cond.instanceMethod yX2_leadsTo, Cond.selects RX2 yX2_leadsTo yX2_leadsTo, Cond.code yX2_leadsTo cX2_leadsTo 6 (some .int), Cond.methodLink RX2 195 yX2_equalWords, Cond.instanceMethod yX2_equalWords, Cond.selects RX2 yX2_equalWords yX2_equalWords, Cond.code yX2_equalWords cX2_equalWords 6 (some .int), Cond.methodLink RX2 92 yX1_at, Cond.instanceMethod yX1_at, Cond.selects RX1 yX1_at yX1_at, Cond.code yX1_at cX1_at 2 (some .int), Cond.methodLink RX2 111 yX2_listLive, Cond.instanceMethod yX2_listLive]
def wsL_law_r11 : List Cond := [Cond.selects RX2 yX2_listLive yX2_listLive, Cond.code yX2_listLive cX2_listLive 6 (some .int), Cond.methodLink RX2 189 yX0_slotsOf, Cond.methodLink RX2 192 yX0_blockIn, Cond.instanceMethod yX0_blockIn, Cond.selects RX0 yX0_blockIn yX0_blockIn, Cond.code yX0_blockIn cX0_blockIn 3 (some .int), Cond.methodLink RX2 114 yX2_rowAt, Cond.instanceMethod yX2_rowAt, Cond.selects RX2 yX2_rowAt yX2_rowAt, Cond.code yX2_rowAt cX2_rowAt 2 (some .int), Cond.methodLink RX2 83 yX2_refsOf, Cond.instanceMethod yX2_refsOf, Cond.selects RX2 yX2_refsOf yX2_refsOf, Cond.code yX2_refsOf cX2_refsOf 2 (some .int), Cond.methodLink RX2 183 yX2_refsIn, Cond.static yX2_refsIn, Cond.code yX2_refsIn cX2_refsIn 1 (some .int), Cond.methodLink RX2 73 yX2_lengthOf, Cond.instanceMethod yX2_lengthOf, Cond.selects RX2 yX2_lengthOf yX2_lengthOf, Cond.code yX2_lengthOf cX2_lengthOf 2 (some .int), Cond.methodLink RX2 126 yX2_sizeOf, Cond.instanceMethod yX2_sizeOf]
def wsL_law_r12 : List Cond := [Cond.selects RX2 yX2_sizeOf yX2_sizeOf, Cond.code yX2_sizeOf cX2_sizeOf 2 (some .int), Cond.methodLink RX2 180 yX2_sizeIn, Cond.static yX2_sizeIn, Cond.code yX2_sizeIn cX2_sizeIn 1 (some .int), Cond.methodLink RX2 76 yX2_release, Cond.instanceMethod yX2_release, Cond.selects RX2 yX2_release yX2_release, Cond.code yX2_release cX2_release 2 none, Cond.methodLink RX2 198 yX0_remove, Cond.instanceMethod yX0_remove, Cond.selects RX0 yX0_remove yX0_remove, Cond.code yX0_remove cX0_remove 6 none, Cond.methodLink RL 22 yX3_free, Cond.instanceMethod yX3_free, Cond.selects RX3 yX3_free yX3_free, Cond.code yX3_free cX3_free 2 (some .int), Cond.methodLink RX3 102 yX3_isBlock, Cond.instanceMethod yX3_isBlock, Cond.selects RX3 yX3_isBlock yX3_isBlock, Cond.code yX3_isBlock cX3_isBlock 2 (some .boolean), Cond.methodLink RX3 106 yX3_leading, Cond.instanceMethod yX3_leading, Cond.selects RX3 yX3_leading yX3_leading]
def wsL_law_r13 : List Cond := [Cond.code yX3_leading cX3_leading 5 (some .int), Cond.methodLink RX3 62 yX3_refsAt, Cond.instanceMethod yX3_refsAt, Cond.selects RX3 yX3_refsAt yX3_refsAt, Cond.code yX3_refsAt cX3_refsAt 2 (some .int), Cond.methodLink RX3 109 yX3_freed, Cond.instanceMethod yX3_freed, Cond.selects RX3 yX3_freed yX3_freed, Cond.code yX3_freed cX3_freed 3 (some .int), Cond.methodLink RL 23 yX2_put, Cond.instanceMethod yX2_put, Cond.selects RX2 yX2_put yX2_put, Cond.code yX2_put cX2_put 4 (some .boolean), Cond.methodLink RX2 80 yX2_hasWord, Cond.instanceMethod yX2_hasWord, Cond.selects RX2 yX2_hasWord yX2_hasWord, Cond.code yX2_hasWord cX2_hasWord 3 (some .boolean), Cond.methodLink RX2 86 yX2_settle, Cond.instanceMethod yX2_settle, Cond.selects RX2 yX2_settle yX2_settle, Cond.code yX2_settle cX2_settle 2 (some .boolean), Cond.methodLink RL 27 yX3_put, Cond.instanceMethod yX3_put, Cond.selects RX3 yX3_put yX3_put]
def wsL_law_r14 : List Cond := [Cond.code yX3_put cX3_put 4 (some .boolean), Cond.methodLink RX3 112 yX3_not, Cond.instanceMethod yX3_not, Cond.selects RX3 yX3_not yX3_not, Cond.code yX3_not cX3_not 2 (some .boolean), Cond.methodLink RL 28 yX2_refer, Cond.instanceMethod yX2_refer, Cond.selects RX2 yX2_refer yX2_refer, Cond.code yX2_refer cX2_refer 4 (some .boolean), Cond.methodLink RX2 89 yX2_isTarget, Cond.instanceMethod yX2_isTarget, Cond.selects RX2 yX2_isTarget yX2_isTarget, Cond.code yX2_isTarget cX2_isTarget 2 (some .boolean), Cond.methodLink RL 31 yX3_refer, Cond.instanceMethod yX3_refer, Cond.selects RX3 yX3_refer yX3_refer, Cond.code yX3_refer cX3_refer 4 (some .boolean), Cond.methodLink RL 32 yX2_get, Cond.instanceMethod yX2_get, Cond.selects RX2 yX2_get yX2_get, Cond.code yX2_get cX2_get 3 (some .int), Cond.methodLink RL 35 yX3_get, Cond.instanceMethod yX3_get, Cond.selects RX3 yX3_get yX3_get]
def wsL_law_r15 : List Cond := [Cond.code yX3_get cX3_get 3 (some .int), Cond.methodLink RL 36 yX2_root, Cond.instanceMethod yX2_root, Cond.selects RX2 yX2_root yX2_root, Cond.code yX2_root cX2_root 3 (some .boolean), Cond.methodLink RX2 95 yX2_isRoot, Cond.static yX2_isRoot, Cond.code yX2_isRoot cX2_isRoot 1 (some .boolean), Cond.methodLink RL 40 yX3_root, Cond.instanceMethod yX3_root, Cond.selects RX3 yX3_root yX3_root, Cond.code yX3_root cX3_root 3 (some .boolean), Cond.methodLink RL 41 yX2_rootOf, Cond.instanceMethod yX2_rootOf, Cond.selects RX2 yX2_rootOf yX2_rootOf, Cond.code yX2_rootOf cX2_rootOf 2 (some .int), Cond.methodLink RL 44 yX3_rootOf, Cond.instanceMethod yX3_rootOf, Cond.selects RX3 yX3_rootOf yX3_rootOf, Cond.code yX3_rootOf cX3_rootOf 2 (some .int), Cond.methodLink RL 45 yX2_fence, Cond.instanceMethod yX2_fence, Cond.selects RX2 yX2_fence yX2_fence, Cond.code yX2_fence cX2_fence 1 (some .int)]
def wsL_law_r16 : List Cond := [Cond.methodLink RX2 98 yX1_keepAll, Cond.instanceMethod yX1_keepAll, Cond.selects RX1 yX1_keepAll yX1_keepAll, Cond.code yX1_keepAll cX1_keepAll 2 (some .int), Cond.methodLink RX1 33 yX1_keepSome, Cond.instanceMethod yX1_keepSome, Cond.selects RX1 yX1_keepSome yX1_keepSome, Cond.code yX1_keepSome cX1_keepSome 4 none, Cond.methodLink RX1 37 yX1_lineAt, Cond.instanceMethod yX1_lineAt, Cond.selects RX1 yX1_lineAt yX1_lineAt, Cond.code yX1_lineAt cX1_lineAt 2 (some .int), Cond.methodLink RX1 41 yX1_settleLine, Cond.instanceMethod yX1_settleLine, Cond.selects RX1 yX1_settleLine yX1_settleLine, Cond.code yX1_settleLine cX1_settleLine 5 none, Cond.methodLink RL 49 yX3_fence, Cond.instanceMethod yX3_fence, Cond.selects RX3 yX3_fence yX3_fence, Cond.code yX3_fence cX3_fence 3 (some .int), Cond.methodLink RX3 115 yX3_keepLine, Cond.instanceMethod yX3_keepLine, Cond.selects RX3 yX3_keepLine yX3_keepLine, Cond.code yX3_keepLine cX3_keepLine 3 none]
def wsL_law_r17 : List Cond := [Cond.methodLink RX3 119 yX3_nothingWaits, Cond.instanceMethod yX3_nothingWaits, Cond.selects RX3 yX3_nothingWaits yX3_nothingWaits, Cond.code yX3_nothingWaits cX3_nothingWaits 2 none, Cond.methodLink RL 50 yX2_crash, Cond.instanceMethod yX2_crash, Cond.selects RX2 yX2_crash yX2_crash, Cond.code yX2_crash cX2_crash 2 (some .int), Cond.methodLink RX2 102 yX1_keepSome, Cond.methodLink RX2 105 yX2_recover, Cond.instanceMethod yX2_recover, Cond.selects RX2 yX2_recover yX2_recover, Cond.code yX2_recover cX2_recover 3 none, Cond.methodLink RX2 213 yX0_freeAll, Cond.instanceMethod yX0_freeAll, Cond.selects RX0 yX0_freeAll yX0_freeAll, Cond.code yX0_freeAll cX0_freeAll 1 none, Cond.methodLink RX0 24 yJ7_fill_53178, Cond.static yJ7_fill_53178, Cond.initialized RJ7, Cond.code yJ7_fill_53178 cJ7_fill_53178 4 none, Cond.methodLink RX2 216 yX2_reviveFrom, Cond.instanceMethod yX2_reviveFrom, Cond.selects RX2 yX2_reviveFrom yX2_reviveFrom]
def wsL_law_r18 : List Cond := [Cond.code yX2_reviveFrom cX2_reviveFrom 5 none, Cond.methodLink RX2 219 yX2_canRevive, Cond.instanceMethod yX2_canRevive, Cond.selects RX2 yX2_canRevive yX2_canRevive, Cond.code yX2_canRevive cX2_canRevive 4 (some .boolean), Cond.methodLink RX2 222 yX0_canHold, Cond.instanceMethod yX0_canHold, Cond.selects RX0 yX0_canHold yX0_canHold, Cond.code yX0_canHold cX0_canHold 6 (some .boolean), Cond.methodLink RX2 210 yX2_addFound, Cond.instanceMethod yX2_addFound, Cond.selects RX2 yX2_addFound yX2_addFound, Cond.code yX2_addFound cX2_addFound 2 none, Cond.methodLink RL 53 yX3_crash, Cond.instanceMethod yX3_crash, Cond.selects RX3 yX3_crash yX3_crash, Cond.code yX3_crash cX3_crash 4 (some .int), Cond.fieldLink RX3 122 "SlabHeapModel" "crashes" "I", Cond.fieldLink RX3 125 "SlabHeapModel" "cleared" "I", Cond.fieldLink RX3 128 "SlabHeapModel" "foundMany" "I", Cond.methodLink RX3 131 yX3_look, Cond.instanceMethod yX3_look, Cond.selects RX3 yX3_look yX3_look, Cond.code yX3_look cX3_look 3 none]
def wsL_law_r19 : List Cond := [Cond.methodLink RX3 134 yX3_fits, Cond.instanceMethod yX3_fits, Cond.selects RX3 yX3_fits yX3_fits, Cond.code yX3_fits cX3_fits 6 (some .boolean), Cond.methodLink RX3 137 yX3_isHead, Cond.instanceMethod yX3_isHead, Cond.selects RX3 yX3_isHead yX3_isHead, Cond.code yX3_isHead cX3_isHead 4 (some .boolean), Cond.methodLink RL 54 yX2_collect, Cond.instanceMethod yX2_collect, Cond.selects RX2 yX2_collect yX2_collect, Cond.code yX2_collect cX2_collect 5 (some .int), Cond.methodLink RX2 108 yX2_markReached, Cond.instanceMethod yX2_markReached, Cond.selects RX2 yX2_markReached yX2_markReached, Cond.code yX2_markReached cX2_markReached 3 none, Cond.methodLink RX2 201 yX0_clearMarks, Cond.instanceMethod yX0_clearMarks, Cond.selects RX0 yX0_clearMarks yX0_clearMarks, Cond.code yX0_clearMarks cX0_clearMarks 1 none, Cond.methodLink RX2 204 yX2_markFrom, Cond.instanceMethod yX2_markFrom, Cond.selects RX2 yX2_markFrom yX2_markFrom, Cond.code yX2_markFrom cX2_markFrom 5 none]
def wsL_law_r20 : List Cond := [Cond.methodLink RX2 207 yX0_mark, Cond.instanceMethod yX0_mark, Cond.selects RX0 yX0_mark yX0_mark, Cond.code yX0_mark cX0_mark 3 (some .boolean), Cond.methodLink RX0 98 yX0_isLive, Cond.methodLink RX0 101 yX0_isMarked, Cond.instanceMethod yX0_isMarked, Cond.selects RX0 yX0_isMarked yX0_isMarked, Cond.code yX0_isMarked cX0_isMarked 4 (some .boolean), Cond.methodLink RX2 117 yX0_isMarked, Cond.methodLink RL 57 yX3_collect, Cond.instanceMethod yX3_collect, Cond.selects RX3 yX3_collect yX3_collect, Cond.code yX3_collect cX3_collect 4 (some .int), Cond.methodLink RX3 140 yX3_see, Cond.instanceMethod yX3_see, Cond.selects RX3 yX3_see yX3_see, Cond.code yX3_see cX3_see 2 none, Cond.methodLink RL 58 yX2_word, Cond.instanceMethod yX2_word, Cond.selects RX2 yX2_word yX2_word, Cond.code yX2_word cX2_word 3 (some .int), Cond.methodLink RX2 120 yX1_keptAt, Cond.instanceMethod yX1_keptAt]
def wsL_law_r21 : List Cond := [Cond.selects RX1 yX1_keptAt yX1_keptAt, Cond.code yX1_keptAt cX1_keptAt 2 (some .int), Cond.methodLink RL 62 yX3_word, Cond.instanceMethod yX3_word, Cond.selects RX3 yX3_word yX3_word, Cond.code yX3_word cX3_word 3 (some .int), Cond.methodLink RL 63 yX2_scribble, Cond.instanceMethod yX2_scribble, Cond.selects RX2 yX2_scribble yX2_scribble, Cond.code yX2_scribble cX2_scribble 3 (some .boolean), Cond.methodLink RX2 123 yX2_isOfBlock, Cond.instanceMethod yX2_isOfBlock, Cond.selects RX2 yX2_isOfBlock yX2_isOfBlock, Cond.code yX2_isOfBlock cX2_isOfBlock 3 (some .boolean), Cond.methodLink RX2 186 yX0_blockOver, Cond.instanceMethod yX0_blockOver, Cond.selects RX0 yX0_blockOver yX0_blockOver, Cond.code yX0_blockOver cX0_blockOver 4 (some .int), Cond.methodLink RX0 66 yX0_blockIn, Cond.methodLink RL 66 yX3_scribble, Cond.instanceMethod yX3_scribble, Cond.selects RX3 yX3_scribble yX3_scribble, Cond.code yX3_scribble cX3_scribble 4 (some .boolean), Cond.methodLink RL 67 yX2_block]
def wsL_law_r22 : List Cond := [Cond.instanceMethod yX2_block, Cond.selects RX2 yX2_block yX2_block, Cond.code yX2_block cX2_block 3 (some .int), Cond.methodLink RX2 132 yX2_orderFor, Cond.methodLink RL 70 yX3_block, Cond.instanceMethod yX3_block, Cond.selects RX3 yX3_block yX3_block, Cond.code yX3_block cX3_block 4 (some .int), Cond.methodLink RL 71 yX2_live, Cond.instanceMethod yX2_live, Cond.selects RX2 yX2_live yX2_live, Cond.code yX2_live cX2_live 3 (some .int), Cond.methodLink RL 74 yX3_live, Cond.instanceMethod yX3_live, Cond.selects RX3 yX3_live yX3_live, Cond.code yX3_live cX3_live 4 (some .int), Cond.methodLink RL 75 yX2_page, Cond.instanceMethod yX2_page, Cond.selects RX2 yX2_page yX2_page, Cond.code yX2_page cX2_page 3 (some .int), Cond.methodLink RX2 135 yX2_isPage, Cond.methodLink RX2 138 yX0_kindOf, Cond.methodLink RX2 141 yX0_formOf, Cond.instanceMethod yX0_formOf]
def wsL_law_r23 : List Cond := [Cond.selects RX0 yX0_formOf yX0_formOf, Cond.code yX0_formOf cX0_formOf 2 (some .int), Cond.methodLink RX0 34 yX0_freeOrderAt, Cond.instanceMethod yX0_freeOrderAt, Cond.selects RX0 yX0_freeOrderAt yX0_freeOrderAt, Cond.code yX0_freeOrderAt cX0_freeOrderAt 3 (some .int), Cond.methodLink RX2 144 yX0_blocksOn, Cond.instanceMethod yX0_blocksOn, Cond.selects RX0 yX0_blocksOn yX0_blocksOn, Cond.code yX0_blocksOn cX0_blocksOn 2 (some .int), Cond.methodLink RX0 48 yJ6_bitCount_0f7a4, Cond.static yJ6_bitCount_0f7a4, Cond.initialized RJ6, Cond.code yJ6_bitCount_0f7a4 cJ6_bitCount_0f7a4 1 (some .int), Cond.constant RJ6 265 (1431655765), Cond.constant RJ6 266 (858993459), Cond.constant RJ6 267 (252645135), Cond.methodLink RX2 147 yX0_firstOf, Cond.instanceMethod yX0_firstOf, Cond.selects RX0 yX0_firstOf yX0_firstOf, Cond.code yX0_firstOf cX0_firstOf 4 (some .int), Cond.methodLink RX0 41 yX0_formOf, Cond.methodLink RL 78 yX3_page, Cond.instanceMethod yX3_page]
def wsL_law_r24 : List Cond := [Cond.selects RX3 yX3_page yX3_page, Cond.code yX3_page cX3_page 3 (some .int), Cond.methodLink RL 79 yX2_extents, Cond.instanceMethod yX2_extents, Cond.selects RX2 yX2_extents yX2_extents, Cond.code yX2_extents cX2_extents 2 (some .int), Cond.methodLink RX2 150 yX0_freeExtents, Cond.instanceMethod yX0_freeExtents, Cond.selects RX0 yX0_freeExtents yX0_freeExtents, Cond.code yX0_freeExtents cX0_freeExtents 4 (some .int), Cond.methodLink RL 82 yX3_extents, Cond.instanceMethod yX3_extents, Cond.selects RX3 yX3_extents yX3_extents, Cond.code yX3_extents cX3_extents 4 (some .int), Cond.methodLink RL 83 yX2_next, Cond.instanceMethod yX2_next, Cond.selects RX2 yX2_next yX2_next, Cond.code yX2_next cX2_next 2 (some .int), Cond.methodLink RX2 153 yX0_extentFor, Cond.methodLink RL 86 yX3_next, Cond.instanceMethod yX3_next, Cond.selects RX3 yX3_next yX3_next, Cond.code yX3_next cX3_next 2 (some .int), Cond.methodLink RL 87 yX2_count]
def wsL_law_r25 : List Cond := [Cond.instanceMethod yX2_count, Cond.selects RX2 yX2_count yX2_count, Cond.code yX2_count cX2_count 2 (some .int), Cond.methodLink RX2 156 yX0_howMany, Cond.instanceMethod yX0_howMany, Cond.selects RX0 yX0_howMany yX0_howMany, Cond.code yX0_howMany cX0_howMany 4 (some .int), Cond.methodLink RX2 159 yX0_emptySlots, Cond.instanceMethod yX0_emptySlots, Cond.selects RX0 yX0_emptySlots yX0_emptySlots, Cond.code yX0_emptySlots cX0_emptySlots 3 (some .int), Cond.methodLink RX0 107 yX0_blocksOn, Cond.methodLink RX2 162 yX1_waiting, Cond.instanceMethod yX1_waiting, Cond.selects RX1 yX1_waiting yX1_waiting, Cond.code yX1_waiting cX1_waiting 1 (some .int), Cond.methodLink RX2 165 yX2_liveWords, Cond.instanceMethod yX2_liveWords, Cond.selects RX2 yX2_liveWords yX2_liveWords, Cond.code yX2_liveWords cX2_liveWords 4 (some .int), Cond.methodLink RL 90 yX3_count, Cond.instanceMethod yX3_count, Cond.selects RX3 yX3_count yX3_count, Cond.code yX3_count cX3_count 4 (some .int)]
def wsL_law_r26 : List Cond := [Cond.methodLink RL 91 yX2_head, Cond.instanceMethod yX2_head, Cond.selects RX2 yX2_head yX2_head, Cond.code yX2_head cX2_head 5 (some .int), Cond.methodLink RL 95 yX3_head, Cond.instanceMethod yX3_head, Cond.selects RX3 yX3_head yX3_head, Cond.code yX3_head cX3_head 4 (some .int), Cond.methodLink RL 96 yX2_waits, Cond.instanceMethod yX2_waits, Cond.selects RX2 yX2_waits yX2_waits, Cond.code yX2_waits cX2_waits 2 (some .int), Cond.methodLink RX2 168 yX1_lineAt, Cond.methodLink RL 99 yX3_waits, Cond.instanceMethod yX3_waits, Cond.selects RX3 yX3_waits yX3_waits, Cond.code yX3_waits cX3_waits 2 (some .int), Cond.methodLink RL 100 yX2_trouble, Cond.instanceMethod yX2_trouble, Cond.selects RX2 yX2_trouble yX2_trouble, Cond.code yX2_trouble cX2_trouble 1 (some .int), Cond.methodLink RL 103 yX3_trouble, Cond.instanceMethod yX3_trouble, Cond.selects RX3 yX3_trouble yX3_trouble]
def wsL_law_r27 : List Cond := [Cond.code yX3_trouble cX3_trouble 1 (some .int)]
def wsL_law : List Cond := (wsL_law_r1 ++ (wsL_law_r2 ++ (wsL_law_r3 ++ (wsL_law_r4 ++ (wsL_law_r5 ++ (wsL_law_r6 ++ (wsL_law_r7 ++ (wsL_law_r8 ++ (wsL_law_r9 ++ (wsL_law_r10 ++ (wsL_law_r11 ++ (wsL_law_r12 ++ (wsL_law_r13 ++ (wsL_law_r14 ++ (wsL_law_r15 ++ (wsL_law_r16 ++ (wsL_law_r17 ++ (wsL_law_r18 ++ (wsL_law_r19 ++ (wsL_law_r20 ++ (wsL_law_r21 ++ (wsL_law_r22 ++ (wsL_law_r23 ++ (wsL_law_r24 ++ (wsL_law_r25 ++ (wsL_law_r26 ++ wsL_law_r27)))))))))))))))))))))))))) ++ wsX20 ++ wsX30 ++ wsX10 ++ wsX00 ++ ([] : List Cond)
theorem ll_mem {ws big : List Cond} (ps : List Nat) (h : ws = ps.filterMap (fun i => big[i]?)) : ∀ w ∈ ws, w ∈ big := by
  intro w hw
  rw [h] at hw
  obtain ⟨i, -, hi⟩ := List.mem_filterMap.mp hw
  exact List.mem_of_getElem? hi
theorem ll_ap {P : Cond → Prop} {a b : List Cond} (ha : ∀ w ∈ a, P w) (hb : ∀ w ∈ b, P w) : ∀ w ∈ a ++ b, P w := fun w h => (List.mem_append.mp h).elim (ha w) (hb w)
set_option maxRecDepth 20000 in
theorem in_wsL_law_r1 : ∀ w ∈ wsL_law_r1, w ∈ lw_tbl := ll_mem [62, 63, 55, 521, 522, 58, 64, 65, 66, 67, 68, 69, 70, 71, 56, 113, 94, 95, 57, 114, 92, 115, 116, 117] (by decide +kernel)
set_option maxRecDepth 20000 in
theorem in_wsL_law_r2 : ∀ w ∈ wsL_law_r2, w ∈ lw_tbl := ll_mem [118, 119, 73, 74, 75, 76, 77, 78, 93, 79, 80, 96, 97, 98, 99, 100, 101, 102, 103, 523, 524, 525, 526, 527] (by decide +kernel)
set_option maxRecDepth 20000 in
theorem in_wsL_law_r3 : ∀ w ∈ wsL_law_r3, w ∈ lw_tbl := ll_mem [528, 529, 530, 531, 537, 538, 539, 540, 541, 542, 544, 135, 136, 137, 138, 139, 140, 141, 142, 144, 0, 145, 146, 147] (by decide +kernel)
set_option maxRecDepth 20000 in
theorem in_wsL_law_r4 : ∀ w ∈ wsL_law_r4, w ∈ lw_tbl := ll_mem [148, 149, 151, 152, 153, 155, 157, 1, 158, 159, 161, 2, 162, 164, 165, 166, 167, 168, 169, 170, 172, 3, 173, 174] (by decide +kernel)
set_option maxRecDepth 20000 in
theorem in_wsL_law_r5 : ∀ w ∈ wsL_law_r5, w ∈ lw_tbl := ll_mem [176, 4, 177, 179, 180, 181, 182, 183, 184, 185, 187, 188, 189, 191, 5, 192, 193, 195, 6, 196, 197, 198, 199, 200] (by decide +kernel)
set_option maxRecDepth 20000 in
theorem in_wsL_law_r6 : ∀ w ∈ wsL_law_r6, w ∈ lw_tbl := ll_mem [201, 202, 203, 204, 205, 206, 207, 208, 209, 210, 211, 213, 7, 214, 215, 217, 8, 218, 219, 221, 9, 222, 223, 224] (by decide +kernel)
set_option maxRecDepth 20000 in
theorem in_wsL_law_r7 : ∀ w ∈ wsL_law_r7, w ∈ lw_tbl := ll_mem [225, 226, 227, 228, 232, 229, 230, 59, 231, 233, 234, 235, 236, 238, 239, 240, 241, 242, 582, 583, 584, 585, 536, 533] (by decide +kernel)
set_option maxRecDepth 20000 in
theorem in_wsL_law_r8 : ∀ w ∈ wsL_law_r8, w ∈ lw_tbl := ll_mem [586, 588, 31, 589, 590, 592, 32, 593, 594, 596, 33, 597, 598, 600, 34, 601, 602, 604, 35, 605, 606, 608, 36, 609] (by decide +kernel)
set_option maxRecDepth 20000 in
theorem in_wsL_law_r9 : ∀ w ∈ wsL_law_r9, w ∈ lw_tbl := ll_mem [610, 612, 37, 613, 614, 616, 38, 617, 618, 620, 39, 621, 622, 624, 40, 625, 626, 628, 41, 629, 630, 631, 633, 42] (by decide +kernel)
set_option maxRecDepth 20000 in
theorem in_wsL_law_r10 : ∀ w ∈ wsL_law_r10, w ∈ lw_tbl := ll_mem [634, 532, 243, 244, 245, 246, 247, 248, 249, 250, 251, 253, 10, 254, 255, 257, 11, 258, 259, 260, 261, 262, 263, 265] (by decide +kernel)
set_option maxRecDepth 20000 in
theorem in_wsL_law_r11 : ∀ w ∈ wsL_law_r11, w ∈ lw_tbl := ll_mem [12, 266, 267, 268, 269, 270, 271, 272, 274, 13, 275, 276, 278, 14, 279, 280, 281, 282, 283, 285, 15, 286, 287, 289] (by decide +kernel)
set_option maxRecDepth 20000 in
theorem in_wsL_law_r12 : ∀ w ∈ wsL_law_r12, w ∈ lw_tbl := ll_mem [16, 290, 291, 292, 293, 294, 296, 17, 297, 298, 299, 300, 301, 635, 636, 637, 638, 639, 641, 43, 642, 643, 645, 44] (by decide +kernel)
set_option maxRecDepth 20000 in
theorem in_wsL_law_r13 : ∀ w ∈ wsL_law_r13, w ∈ lw_tbl := ll_mem [646, 647, 649, 45, 650, 651, 653, 46, 654, 302, 303, 304, 305, 306, 308, 18, 309, 310, 312, 19, 313, 655, 656, 657] (by decide +kernel)
set_option maxRecDepth 20000 in
theorem in_wsL_law_r14 : ∀ w ∈ wsL_law_r14, w ∈ lw_tbl := ll_mem [658, 659, 661, 47, 662, 314, 315, 316, 317, 318, 320, 20, 321, 663, 664, 665, 666, 322, 323, 324, 325, 667, 668, 669] (by decide +kernel)
set_option maxRecDepth 20000 in
theorem in_wsL_law_r15 : ∀ w ∈ wsL_law_r15, w ∈ lw_tbl := ll_mem [670, 326, 327, 328, 329, 330, 331, 332, 671, 672, 673, 674, 333, 334, 335, 336, 675, 676, 677, 678, 337, 338, 339, 340] (by decide +kernel)
set_option maxRecDepth 20000 in
theorem in_wsL_law_r16 : ∀ w ∈ wsL_law_r16, w ∈ lw_tbl := ll_mem [341, 342, 343, 344, 345, 346, 347, 348, 349, 350, 351, 352, 353, 355, 21, 356, 679, 680, 681, 682, 683, 685, 48, 686] (by decide +kernel)
set_option maxRecDepth 20000 in
theorem in_wsL_law_r17 : ∀ w ∈ wsL_law_r17, w ∈ lw_tbl := ll_mem [687, 689, 49, 690, 357, 358, 359, 360, 361, 362, 364, 22, 365, 366, 367, 368, 369, 370, 371, 60, 372, 373, 375, 23] (by decide +kernel)
set_option maxRecDepth 20000 in
theorem in_wsL_law_r18 : ∀ w ∈ wsL_law_r18, w ∈ lw_tbl := ll_mem [376, 377, 379, 24, 380, 381, 382, 383, 384, 385, 387, 25, 388, 691, 692, 693, 694, 535, 534, 543, 695, 697, 50, 698] (by decide +kernel)
set_option maxRecDepth 20000 in
theorem in_wsL_law_r19 : ∀ w ∈ wsL_law_r19, w ∈ lw_tbl := ll_mem [699, 701, 51, 702, 703, 705, 52, 706, 389, 390, 391, 392, 393, 395, 26, 396, 397, 398, 399, 400, 401, 403, 27, 404] (by decide +kernel)
set_option maxRecDepth 20000 in
theorem in_wsL_law_r20 : ∀ w ∈ wsL_law_r20, w ∈ lw_tbl := ll_mem [405, 406, 407, 408, 409, 410, 411, 412, 413, 414, 707, 708, 709, 710, 711, 713, 53, 714, 415, 416, 417, 418, 419, 420] (by decide +kernel)
set_option maxRecDepth 20000 in
theorem in_wsL_law_r21 : ∀ w ∈ wsL_law_r21, w ∈ lw_tbl := ll_mem [421, 422, 715, 716, 717, 718, 423, 424, 425, 426, 427, 429, 28, 430, 431, 432, 433, 434, 435, 719, 720, 721, 722, 436] (by decide +kernel)
set_option maxRecDepth 20000 in
theorem in_wsL_law_r22 : ∀ w ∈ wsL_law_r22, w ∈ lw_tbl := ll_mem [437, 438, 439, 440, 723, 724, 725, 726, 441, 442, 443, 444, 727, 728, 729, 730, 445, 446, 447, 448, 449, 450, 451, 452] (by decide +kernel)
set_option maxRecDepth 20000 in
theorem in_wsL_law_r23 : ∀ w ∈ wsL_law_r23, w ∈ lw_tbl := ll_mem [453, 454, 455, 457, 29, 458, 459, 460, 461, 462, 463, 464, 61, 465, 466, 467, 468, 469, 470, 471, 472, 473, 731, 732] (by decide +kernel)
set_option maxRecDepth 20000 in
theorem in_wsL_law_r24 : ∀ w ∈ wsL_law_r24, w ∈ lw_tbl := ll_mem [733, 734, 474, 475, 476, 477, 478, 479, 480, 481, 735, 736, 737, 738, 482, 483, 484, 485, 486, 739, 740, 741, 742, 487] (by decide +kernel)
set_option maxRecDepth 20000 in
theorem in_wsL_law_r25 : ∀ w ∈ wsL_law_r25, w ∈ lw_tbl := ll_mem [488, 489, 490, 491, 492, 493, 494, 495, 496, 497, 498, 499, 500, 501, 502, 503, 504, 506, 30, 507, 743, 744, 745, 746] (by decide +kernel)
set_option maxRecDepth 20000 in
theorem in_wsL_law_r26 : ∀ w ∈ wsL_law_r26, w ∈ lw_tbl := ll_mem [508, 509, 510, 511, 747, 748, 749, 750, 512, 513, 514, 515, 516, 751, 752, 753, 754, 517, 518, 519, 520, 755, 756, 757] (by decide +kernel)
set_option maxRecDepth 20000 in
theorem in_wsL_law_r27 : ∀ w ∈ wsL_law_r27, w ∈ lw_tbl := ll_mem [758] (by decide +kernel)
set_option maxRecDepth 20000 in
theorem inX0 : ∀ w ∈ wsX00, w ∈ lw_tbl := ll_mem [104, 106, 108, 110] (by decide +kernel)
set_option maxRecDepth 20000 in
theorem inX1 : ∀ w ∈ wsX10, w ∈ lw_tbl := ll_mem [81, 83, 85, 87, 89] (by decide +kernel)
set_option maxRecDepth 20000 in
theorem inX2 : ∀ w ∈ wsX20, w ∈ lw_tbl := ll_mem [120, 122, 124, 126, 128, 130, 132] (by decide +kernel)
set_option maxRecDepth 20000 in
theorem inX3 : ∀ w ∈ wsX30, w ∈ lw_tbl := ll_mem [545, 547, 549, 551, 553, 555, 557, 559, 561, 563, 565, 567, 569, 571, 573, 575, 577, 579] (by decide +kernel)
set_option maxRecDepth 20000 in
theorem wsL_law_in : ∀ w ∈ wsL_law, w ∈ lw_tbl := ll_ap (ll_ap (ll_ap (ll_ap (ll_ap (ll_ap in_wsL_law_r1 (ll_ap in_wsL_law_r2 (ll_ap in_wsL_law_r3 (ll_ap in_wsL_law_r4 (ll_ap in_wsL_law_r5 (ll_ap in_wsL_law_r6 (ll_ap in_wsL_law_r7 (ll_ap in_wsL_law_r8 (ll_ap in_wsL_law_r9 (ll_ap in_wsL_law_r10 (ll_ap in_wsL_law_r11 (ll_ap in_wsL_law_r12 (ll_ap in_wsL_law_r13 (ll_ap in_wsL_law_r14 (ll_ap in_wsL_law_r15 (ll_ap in_wsL_law_r16 (ll_ap in_wsL_law_r17 (ll_ap in_wsL_law_r18 (ll_ap in_wsL_law_r19 (ll_ap in_wsL_law_r20 (ll_ap in_wsL_law_r21 (ll_ap in_wsL_law_r22 (ll_ap in_wsL_law_r23 (ll_ap in_wsL_law_r24 (ll_ap in_wsL_law_r25 (ll_ap in_wsL_law_r26 (in_wsL_law_r27))))))))))))))))))))))))))) inX2) inX3) inX1) inX0) (fun _ h => absurd h List.not_mem_nil)
theorem inlX0 : ∀ w ∈ wsX00, w ∈ wsL_law := fun _ h => List.mem_append_left _ (List.mem_append_right _ h)
theorem inlX1 : ∀ w ∈ wsX10, w ∈ wsL_law := fun _ h => List.mem_append_left _ (List.mem_append_left _ (List.mem_append_right _ h))
theorem inlX2 : ∀ w ∈ wsX20, w ∈ wsL_law := fun _ h => List.mem_append_left _ (List.mem_append_left _ (List.mem_append_left _ (List.mem_append_left _ (List.mem_append_right _ h))))
theorem inlX3 : ∀ w ∈ wsX30, w ∈ wsL_law := fun _ h => List.mem_append_left _ (List.mem_append_left _ (List.mem_append_left _ (List.mem_append_right _ h)))
theorem inJ6 : ∀ w ∈ wsJ60, w ∈ lw_tbl := by decide +kernel
theorem inJ9 : ∀ w ∈ wsJ90, w ∈ lw_tbl := by decide +kernel
theorem inJ7 : ∀ w ∈ wsJ70, w ∈ lw_tbl := by decide +kernel
abbrev vwCl : List vw_C := [(RX0, TX0, 4), (RX1, TX1, 5), (RX2, TX2, 7), (RX3, TX3, 18)]
end
section
theorem dX0_init_0 : decode cX0_init 0 = .ok (.aload_n 0, 1) := by decide +kernel
theorem dX0_init_1 : decode cX0_init 1 = .ok (.invokespecial 3, 3) := by decide +kernel
theorem dX0_init_4 : decode cX0_init 4 = .ok (.aload_n 0, 1) := by decide +kernel
theorem dX0_init_5 : decode cX0_init 5 = .ok (.sipush 256, 3) := by decide +kernel
theorem dX0_init_8 : decode cX0_init 8 = .ok (.newarray .int, 2) := by decide +kernel
theorem dX0_init_10 : decode cX0_init 10 = .ok (.putfield 9, 3) := by decide +kernel
theorem dX0_init_13 : decode cX0_init 13 = .ok (.aload_n 0, 1) := by decide +kernel
theorem dX0_init_14 : decode cX0_init 14 = .ok (.sipush 256, 3) := by decide +kernel
theorem dX0_init_17 : decode cX0_init 17 = .ok (.newarray .int, 2) := by decide +kernel
theorem dX0_init_19 : decode cX0_init 19 = .ok (.putfield 15, 3) := by decide +kernel
theorem dX0_init_22 : decode cX0_init 22 = .ok (.aload_n 0, 1) := by decide +kernel
theorem dX0_init_23 : decode cX0_init 23 = .ok (.sipush 256, 3) := by decide +kernel
theorem dX0_init_26 : decode cX0_init 26 = .ok (.newarray .int, 2) := by decide +kernel
theorem dX0_init_28 : decode cX0_init 28 = .ok (.putfield 18, 3) := by decide +kernel
theorem dX0_init_31 : decode cX0_init 31 = .ok (.aload_n 0, 1) := by decide +kernel
theorem dX0_init_32 : decode cX0_init 32 = .ok (.sipush 256, 3) := by decide +kernel
theorem dX0_init_35 : decode cX0_init 35 = .ok (.newarray .int, 2) := by decide +kernel
theorem dX0_init_37 : decode cX0_init 37 = .ok (.putfield 21, 3) := by decide +kernel
theorem dX0_init_40 : decode cX0_init 40 = .ok (.aload_n 0, 1) := by decide +kernel
theorem dX0_init_41 : decode cX0_init 41 = .ok (.getfield 9, 3) := by decide +kernel
theorem dX0_init_44 : decode cX0_init 44 = .ok (.iconst 0, 1) := by decide +kernel
theorem dX0_init_45 : decode cX0_init 45 = .ok (.iconst 4, 1) := by decide +kernel
theorem dX0_init_46 : decode cX0_init 46 = .ok (.iastore, 1) := by decide +kernel
theorem dX0_init_47 : decode cX0_init 47 = .ok (.return_, 1) := by decide +kernel
set_option maxRecDepth 20000 in
theorem ggX0_freeAll_J7_fill_53178 : GoodIn wsX0_freeAll wsJ7_fill_53178 := goodIn_r _ [6] (by decide +kernel) (by decide +kernel)
set_option maxRecDepth 20000 in
theorem gX0_freeAll_J7_fill_53178 : GoodIn wsX0_freeAll (va_wsS RX0 24 yJ7_fill_53178 wsJ7_fill_53178) := goodIn_app (goodIn_of _ (by decide +kernel)) ggX0_freeAll_J7_fill_53178
theorem dX0_freeAll_0 : decode cX0_freeAll 0 = .ok (.aload_n 0, 1) := by decide +kernel
theorem dX0_freeAll_1 : decode cX0_freeAll 1 = .ok (.getfield 9, 3) := by decide +kernel
theorem dX0_freeAll_4 : decode cX0_freeAll 4 = .ok (.iconst 0, 1) := by decide +kernel
theorem dX0_freeAll_5 : decode cX0_freeAll 5 = .ok (.invokestatic 24, 3) := by decide +kernel
theorem dX0_freeAll_8 : decode cX0_freeAll 8 = .ok (.aload_n 0, 1) := by decide +kernel
theorem dX0_freeAll_9 : decode cX0_freeAll 9 = .ok (.getfield 18, 3) := by decide +kernel
theorem dX0_freeAll_12 : decode cX0_freeAll 12 = .ok (.iconst 0, 1) := by decide +kernel
theorem dX0_freeAll_13 : decode cX0_freeAll 13 = .ok (.invokestatic 24, 3) := by decide +kernel
theorem dX0_freeAll_16 : decode cX0_freeAll 16 = .ok (.aload_n 0, 1) := by decide +kernel
theorem dX0_freeAll_17 : decode cX0_freeAll 17 = .ok (.getfield 9, 3) := by decide +kernel
theorem dX0_freeAll_20 : decode cX0_freeAll 20 = .ok (.iconst 0, 1) := by decide +kernel
theorem dX0_freeAll_21 : decode cX0_freeAll 21 = .ok (.iconst 4, 1) := by decide +kernel
theorem dX0_freeAll_22 : decode cX0_freeAll 22 = .ok (.iastore, 1) := by decide +kernel
theorem dX0_freeAll_23 : decode cX0_freeAll 23 = .ok (.return_, 1) := by decide +kernel
theorem dX0_kindOf_0 : decode cX0_kindOf 0 = .ok (.iload_n 1, 1) := by decide +kernel
theorem dX0_kindOf_1 : decode cX0_kindOf 1 = .ok (.ifCond .lt 19, 3) := by decide +kernel
theorem dX0_kindOf_4 : decode cX0_kindOf 4 = .ok (.iload_n 1, 1) := by decide +kernel
theorem dX0_kindOf_5 : decode cX0_kindOf 5 = .ok (.sipush 256, 3) := by decide +kernel
theorem dX0_kindOf_8 : decode cX0_kindOf 8 = .ok (.if_icmp .ge 12, 3) := by decide +kernel
theorem dX0_kindOf_11 : decode cX0_kindOf 11 = .ok (.aload_n 0, 1) := by decide +kernel
theorem dX0_kindOf_12 : decode cX0_kindOf 12 = .ok (.getfield 9, 3) := by decide +kernel
theorem dX0_kindOf_15 : decode cX0_kindOf 15 = .ok (.iload_n 1, 1) := by decide +kernel
theorem dX0_kindOf_16 : decode cX0_kindOf 16 = .ok (.iaload, 1) := by decide +kernel
theorem dX0_kindOf_17 : decode cX0_kindOf 17 = .ok (.goto 4, 3) := by decide +kernel
theorem dX0_kindOf_20 : decode cX0_kindOf 20 = .ok (.iconst (-1), 1) := by decide +kernel
theorem dX0_kindOf_21 : decode cX0_kindOf 21 = .ok (.ireturn, 1) := by decide +kernel
set_option maxRecDepth 20000 in
theorem ggX0_formOf_X2_isPage : GoodIn wsX0_formOf wsX2_isPage := goodIn_r _ [5] (by decide +kernel) (by decide +kernel)
set_option maxRecDepth 20000 in
theorem gX0_formOf_X2_isPage_n30 : GoodIn wsX0_formOf (wsX2_isPage) := ggX0_formOf_X2_isPage
set_option maxRecDepth 20000 in
theorem ggX0_formOf_X0_freeOrderAt : GoodIn wsX0_formOf wsX0_freeOrderAt := goodIn_r _ [10, 11, 12, 9, 13, 14, 4, 15, 16, 17, 18, 19, 20, 21, 22, 23, 24, 25, 26, 27, 1, 28, 29, 30, 31] (by decide +kernel) (by decide +kernel)
set_option maxRecDepth 20000 in
theorem gX0_formOf_X0_freeOrderAt : GoodIn wsX0_formOf (wsV RX0 34 RX0 yX0_freeOrderAt wsX0_freeOrderAt) := goodIn_app (goodIn_of _ (by decide +kernel)) ggX0_formOf_X0_freeOrderAt
theorem dX0_formOf_0 : decode cX0_formOf 0 = .ok (.iload_n 1, 1) := by decide +kernel
theorem dX0_formOf_1 : decode cX0_formOf 1 = .ok (.invokestatic 30, 3) := by decide +kernel
theorem dX0_formOf_4 : decode cX0_formOf 4 = .ok (.ifCond .eq 13, 3) := by decide +kernel
theorem dX0_formOf_7 : decode cX0_formOf 7 = .ok (.aload_n 0, 1) := by decide +kernel
theorem dX0_formOf_8 : decode cX0_formOf 8 = .ok (.getfield 9, 3) := by decide +kernel
theorem dX0_formOf_11 : decode cX0_formOf 11 = .ok (.iload_n 1, 1) := by decide +kernel
theorem dX0_formOf_12 : decode cX0_formOf 12 = .ok (.iaload, 1) := by decide +kernel
theorem dX0_formOf_13 : decode cX0_formOf 13 = .ok (.iconst 4, 1) := by decide +kernel
theorem dX0_formOf_14 : decode cX0_formOf 14 = .ok (.if_icmp .ne 5, 3) := by decide +kernel
theorem dX0_formOf_17 : decode cX0_formOf 17 = .ok (.iconst (-1), 1) := by decide +kernel
theorem dX0_formOf_18 : decode cX0_formOf 18 = .ok (.ireturn, 1) := by decide +kernel
theorem dX0_formOf_19 : decode cX0_formOf 19 = .ok (.aload_n 0, 1) := by decide +kernel
theorem dX0_formOf_20 : decode cX0_formOf 20 = .ok (.getfield 9, 3) := by decide +kernel
theorem dX0_formOf_23 : decode cX0_formOf 23 = .ok (.iload_n 1, 1) := by decide +kernel
theorem dX0_formOf_24 : decode cX0_formOf 24 = .ok (.iaload, 1) := by decide +kernel
theorem dX0_formOf_25 : decode cX0_formOf 25 = .ok (.ifCond .ne 11, 3) := by decide +kernel
theorem dX0_formOf_28 : decode cX0_formOf 28 = .ok (.aload_n 0, 1) := by decide +kernel
theorem dX0_formOf_29 : decode cX0_formOf 29 = .ok (.iload_n 1, 1) := by decide +kernel
theorem dX0_formOf_30 : decode cX0_formOf 30 = .ok (.invokevirtual 34, 3) := by decide +kernel
theorem dX0_formOf_33 : decode cX0_formOf 33 = .ok (.goto 9, 3) := by decide +kernel
theorem dX0_formOf_36 : decode cX0_formOf 36 = .ok (.aload_n 0, 1) := by decide +kernel
theorem dX0_formOf_37 : decode cX0_formOf 37 = .ok (.getfield 15, 3) := by decide +kernel
theorem dX0_formOf_40 : decode cX0_formOf 40 = .ok (.iload_n 1, 1) := by decide +kernel
theorem dX0_formOf_41 : decode cX0_formOf 41 = .ok (.iaload, 1) := by decide +kernel
theorem dX0_formOf_42 : decode cX0_formOf 42 = .ok (.ireturn, 1) := by decide +kernel
set_option maxRecDepth 20000 in
theorem ggX0_firstOf_X0_kindOf : GoodIn wsX0_firstOf wsX0_kindOf := goodIn_r _ [5, 6, 32, 33, 34, 35] (by decide +kernel) (by decide +kernel)
set_option maxRecDepth 20000 in
theorem gX0_firstOf_X0_kindOf : GoodIn wsX0_firstOf (wsV RX0 38 RX0 yX0_kindOf wsX0_kindOf) := goodIn_app (goodIn_of _ (by decide +kernel)) ggX0_firstOf_X0_kindOf
set_option maxRecDepth 20000 in
theorem ggX0_firstOf_X0_formOf : GoodIn wsX0_firstOf wsX0_formOf := goodIn_r _ [10, 6, 11, 12, 13, 14, 15, 16, 17, 4, 18, 19, 20, 21, 22, 23, 24, 25, 26, 27, 28, 29, 30, 31, 1, 2, 3, 5, 32, 33, 34, 35] (by decide +kernel) (by decide +kernel)
set_option maxRecDepth 20000 in
theorem gX0_firstOf_X0_formOf : GoodIn wsX0_firstOf (wsV RX0 41 RX0 yX0_formOf wsX0_formOf) := goodIn_app (goodIn_of _ (by decide +kernel)) ggX0_firstOf_X0_formOf
set_option maxRecDepth 20000 in
theorem ggX0_firstOf_X0_alignedTo : GoodIn wsX0_firstOf wsX0_alignedTo := goodIn_r _ [21, 22, 13, 23] (by decide +kernel) (by decide +kernel)
set_option maxRecDepth 20000 in
theorem gX0_firstOf_X0_alignedTo : GoodIn wsX0_firstOf (va_wsS RX0 44 yX0_alignedTo wsX0_alignedTo) := goodIn_app (goodIn_of _ (by decide +kernel)) ggX0_firstOf_X0_alignedTo
theorem dX0_firstOf_0 : decode cX0_firstOf 0 = .ok (.aload_n 0, 1) := by decide +kernel
theorem dX0_firstOf_1 : decode cX0_firstOf 1 = .ok (.iload_n 1, 1) := by decide +kernel
theorem dX0_firstOf_2 : decode cX0_firstOf 2 = .ok (.invokevirtual 38, 3) := by decide +kernel
theorem dX0_firstOf_5 : decode cX0_firstOf 5 = .ok (.istore_n 2, 1) := by decide +kernel
theorem dX0_firstOf_6 : decode cX0_firstOf 6 = .ok (.iload_n 2, 1) := by decide +kernel
theorem dX0_firstOf_7 : decode cX0_firstOf 7 = .ok (.iconst 1, 1) := by decide +kernel
theorem dX0_firstOf_8 : decode cX0_firstOf 8 = .ok (.if_icmp .eq 8, 3) := by decide +kernel
theorem dX0_firstOf_11 : decode cX0_firstOf 11 = .ok (.iload_n 2, 1) := by decide +kernel
theorem dX0_firstOf_12 : decode cX0_firstOf 12 = .ok (.iconst 4, 1) := by decide +kernel
theorem dX0_firstOf_13 : decode cX0_firstOf 13 = .ok (.if_icmp .ne 7, 3) := by decide +kernel
theorem dX0_firstOf_16 : decode cX0_firstOf 16 = .ok (.iconst 1, 1) := by decide +kernel
theorem dX0_firstOf_17 : decode cX0_firstOf 17 = .ok (.goto 4, 3) := by decide +kernel
theorem dX0_firstOf_20 : decode cX0_firstOf 20 = .ok (.iconst 0, 1) := by decide +kernel
theorem dX0_firstOf_21 : decode cX0_firstOf 21 = .ok (.istore_n 3, 1) := by decide +kernel
theorem dX0_firstOf_22 : decode cX0_firstOf 22 = .ok (.iload_n 3, 1) := by decide +kernel
theorem dX0_firstOf_23 : decode cX0_firstOf 23 = .ok (.ifCond .eq 7, 3) := by decide +kernel
theorem dX0_firstOf_26 : decode cX0_firstOf 26 = .ok (.iload_n 1, 1) := by decide +kernel
theorem dX0_firstOf_27 : decode cX0_firstOf 27 = .ok (.goto 12, 3) := by decide +kernel
theorem dX0_firstOf_30 : decode cX0_firstOf 30 = .ok (.iload_n 1, 1) := by decide +kernel
theorem dX0_firstOf_31 : decode cX0_firstOf 31 = .ok (.aload_n 0, 1) := by decide +kernel
theorem dX0_firstOf_32 : decode cX0_firstOf 32 = .ok (.iload_n 1, 1) := by decide +kernel
theorem dX0_firstOf_33 : decode cX0_firstOf 33 = .ok (.invokevirtual 41, 3) := by decide +kernel
theorem dX0_firstOf_36 : decode cX0_firstOf 36 = .ok (.invokestatic 44, 3) := by decide +kernel
theorem dX0_firstOf_39 : decode cX0_firstOf 39 = .ok (.ireturn, 1) := by decide +kernel
set_option maxRecDepth 20000 in
theorem ggX0_blocksOn_X2_isPage : GoodIn wsX0_blocksOn wsX2_isPage := goodIn_r _ [4] (by decide +kernel) (by decide +kernel)
set_option maxRecDepth 20000 in
theorem gX0_blocksOn_X2_isPage_n30 : GoodIn wsX0_blocksOn (wsX2_isPage) := ggX0_blocksOn_X2_isPage
set_option maxRecDepth 20000 in
theorem ggX0_blocksOn_J6_bitCount_0f7a4 : GoodIn wsX0_blocksOn wsJ6_bitCount_0f7a4 := goodIn_r _ [8, 9, 10, 11] (by decide +kernel) (by decide +kernel)
set_option maxRecDepth 20000 in
theorem gX0_blocksOn_J6_bitCount_0f7a4 : GoodIn wsX0_blocksOn (va_wsS RX0 48 yJ6_bitCount_0f7a4 wsJ6_bitCount_0f7a4) := goodIn_app (goodIn_of _ (by decide +kernel)) ggX0_blocksOn_J6_bitCount_0f7a4
theorem dX0_blocksOn_0 : decode cX0_blocksOn 0 = .ok (.iload_n 1, 1) := by decide +kernel
theorem dX0_blocksOn_1 : decode cX0_blocksOn 1 = .ok (.invokestatic 30, 3) := by decide +kernel
theorem dX0_blocksOn_4 : decode cX0_blocksOn 4 = .ok (.ifCond .eq 15, 3) := by decide +kernel
theorem dX0_blocksOn_7 : decode cX0_blocksOn 7 = .ok (.aload_n 0, 1) := by decide +kernel
theorem dX0_blocksOn_8 : decode cX0_blocksOn 8 = .ok (.getfield 18, 3) := by decide +kernel
theorem dX0_blocksOn_11 : decode cX0_blocksOn 11 = .ok (.iload_n 1, 1) := by decide +kernel
theorem dX0_blocksOn_12 : decode cX0_blocksOn 12 = .ok (.iaload, 1) := by decide +kernel
theorem dX0_blocksOn_13 : decode cX0_blocksOn 13 = .ok (.invokestatic 48, 3) := by decide +kernel
theorem dX0_blocksOn_16 : decode cX0_blocksOn 16 = .ok (.goto 4, 3) := by decide +kernel
theorem dX0_blocksOn_19 : decode cX0_blocksOn 19 = .ok (.iconst 0, 1) := by decide +kernel
theorem dX0_blocksOn_20 : decode cX0_blocksOn 20 = .ok (.ireturn, 1) := by decide +kernel
set_option maxRecDepth 20000 in
theorem ggX0_slotsOf_X0_stepOf : GoodIn wsX0_slotsOf wsX0_stepOf := goodIn_r _ [5, 6, 7, 8, 9, 10, 11] (by decide +kernel) (by decide +kernel)
set_option maxRecDepth 20000 in
theorem gX0_slotsOf_X0_stepOf : GoodIn wsX0_slotsOf (wsV RX0 53 RX0 yX0_stepOf wsX0_stepOf) := goodIn_app (goodIn_of _ (by decide +kernel)) ggX0_slotsOf_X0_stepOf
theorem dX0_slotsOf_0 : decode cX0_slotsOf 0 = .ok (.aload_n 0, 1) := by decide +kernel
theorem dX0_slotsOf_1 : decode cX0_slotsOf 1 = .ok (.iload_n 1, 1) := by decide +kernel
theorem dX0_slotsOf_2 : decode cX0_slotsOf 2 = .ok (.invokevirtual 53, 3) := by decide +kernel
theorem dX0_slotsOf_5 : decode cX0_slotsOf 5 = .ok (.istore_n 2, 1) := by decide +kernel
theorem dX0_slotsOf_6 : decode cX0_slotsOf 6 = .ok (.iload_n 2, 1) := by decide +kernel
theorem dX0_slotsOf_7 : decode cX0_slotsOf 7 = .ok (.ifCond .le 10, 3) := by decide +kernel
theorem dX0_slotsOf_10 : decode cX0_slotsOf 10 = .ok (.bipush 16, 2) := by decide +kernel
theorem dX0_slotsOf_12 : decode cX0_slotsOf 12 = .ok (.iload_n 2, 1) := by decide +kernel
theorem dX0_slotsOf_13 : decode cX0_slotsOf 13 = .ok (.idiv, 1) := by decide +kernel
theorem dX0_slotsOf_14 : decode cX0_slotsOf 14 = .ok (.goto 4, 3) := by decide +kernel
theorem dX0_slotsOf_17 : decode cX0_slotsOf 17 = .ok (.iconst 0, 1) := by decide +kernel
theorem dX0_slotsOf_18 : decode cX0_slotsOf 18 = .ok (.ireturn, 1) := by decide +kernel
set_option maxRecDepth 20000 in
theorem ggX0_blockIn_X0_isTaken : GoodIn wsX0_blockIn wsX0_isTaken := goodIn_r _ [5, 6, 13, 14, 15, 16] (by decide +kernel) (by decide +kernel)
set_option maxRecDepth 20000 in
theorem gX0_blockIn_X0_isTaken : GoodIn wsX0_blockIn (wsV RX0 56 RX0 yX0_isTaken wsX0_isTaken) := goodIn_app (goodIn_of _ (by decide +kernel)) ggX0_blockIn_X0_isTaken
set_option maxRecDepth 20000 in
theorem ggX0_blockIn_X0_stepOf : GoodIn wsX0_blockIn wsX0_stepOf := goodIn_r _ [10, 11, 12, 13, 14, 15, 16] (by decide +kernel) (by decide +kernel)
set_option maxRecDepth 20000 in
theorem gX0_blockIn_X0_stepOf : GoodIn wsX0_blockIn (wsV RX0 53 RX0 yX0_stepOf wsX0_stepOf) := goodIn_app (goodIn_of _ (by decide +kernel)) ggX0_blockIn_X0_stepOf
theorem dX0_blockIn_0 : decode cX0_blockIn 0 = .ok (.aload_n 0, 1) := by decide +kernel
theorem dX0_blockIn_1 : decode cX0_blockIn 1 = .ok (.iload_n 1, 1) := by decide +kernel
theorem dX0_blockIn_2 : decode cX0_blockIn 2 = .ok (.iload_n 2, 1) := by decide +kernel
theorem dX0_blockIn_3 : decode cX0_blockIn 3 = .ok (.invokevirtual 56, 3) := by decide +kernel
theorem dX0_blockIn_6 : decode cX0_blockIn 6 = .ok (.ifCond .eq 18, 3) := by decide +kernel
theorem dX0_blockIn_9 : decode cX0_blockIn 9 = .ok (.iload_n 1, 1) := by decide +kernel
theorem dX0_blockIn_10 : decode cX0_blockIn 10 = .ok (.bipush 16, 2) := by decide +kernel
theorem dX0_blockIn_12 : decode cX0_blockIn 12 = .ok (.imul, 1) := by decide +kernel
theorem dX0_blockIn_13 : decode cX0_blockIn 13 = .ok (.iload_n 2, 1) := by decide +kernel
theorem dX0_blockIn_14 : decode cX0_blockIn 14 = .ok (.aload_n 0, 1) := by decide +kernel
theorem dX0_blockIn_15 : decode cX0_blockIn 15 = .ok (.iload_n 1, 1) := by decide +kernel
theorem dX0_blockIn_16 : decode cX0_blockIn 16 = .ok (.invokevirtual 53, 3) := by decide +kernel
theorem dX0_blockIn_19 : decode cX0_blockIn 19 = .ok (.imul, 1) := by decide +kernel
theorem dX0_blockIn_20 : decode cX0_blockIn 20 = .ok (.iadd, 1) := by decide +kernel
theorem dX0_blockIn_21 : decode cX0_blockIn 21 = .ok (.goto 4, 3) := by decide +kernel
theorem dX0_blockIn_24 : decode cX0_blockIn 24 = .ok (.iconst (-1), 1) := by decide +kernel
theorem dX0_blockIn_25 : decode cX0_blockIn 25 = .ok (.ireturn, 1) := by decide +kernel
set_option maxRecDepth 20000 in
theorem ggX0_isLive_X0_pageOf : GoodIn wsX0_isLive wsX0_pageOf := goodIn_r _ [4] (by decide +kernel) (by decide +kernel)
set_option maxRecDepth 20000 in
theorem gX0_isLive_X0_pageOf : GoodIn wsX0_isLive (va_wsS RX0 60 yX0_pageOf wsX0_pageOf) := goodIn_app (goodIn_of _ (by decide +kernel)) ggX0_isLive_X0_pageOf
set_option maxRecDepth 20000 in
theorem ggX0_isLive_X0_slotAt : GoodIn wsX0_isLive wsX0_slotAt := goodIn_r _ [8, 1, 2, 3, 4, 9, 10, 11, 12, 13, 14, 15, 16, 17, 23, 24, 25, 26] (by decide +kernel) (by decide +kernel)
set_option maxRecDepth 20000 in
theorem gX0_isLive_X0_slotAt : GoodIn wsX0_isLive (wsV RX0 63 RX0 yX0_slotAt wsX0_slotAt) := goodIn_app (goodIn_of _ (by decide +kernel)) ggX0_isLive_X0_slotAt
set_option maxRecDepth 20000 in
theorem ggX0_isLive_X0_isTaken : GoodIn wsX0_isLive wsX0_isTaken := goodIn_r _ [21, 22, 23, 24, 25, 26] (by decide +kernel) (by decide +kernel)
set_option maxRecDepth 20000 in
theorem gX0_isLive_X0_isTaken : GoodIn wsX0_isLive (wsV RX0 56 RX0 yX0_isTaken wsX0_isTaken) := goodIn_app (goodIn_of _ (by decide +kernel)) ggX0_isLive_X0_isTaken
theorem dX0_isLive_0 : decode cX0_isLive 0 = .ok (.aload_n 0, 1) := by decide +kernel
theorem dX0_isLive_1 : decode cX0_isLive 1 = .ok (.iload_n 1, 1) := by decide +kernel
theorem dX0_isLive_2 : decode cX0_isLive 2 = .ok (.invokestatic 60, 3) := by decide +kernel
theorem dX0_isLive_5 : decode cX0_isLive 5 = .ok (.aload_n 0, 1) := by decide +kernel
theorem dX0_isLive_6 : decode cX0_isLive 6 = .ok (.iload_n 1, 1) := by decide +kernel
theorem dX0_isLive_7 : decode cX0_isLive 7 = .ok (.invokevirtual 63, 3) := by decide +kernel
theorem dX0_isLive_10 : decode cX0_isLive 10 = .ok (.invokevirtual 56, 3) := by decide +kernel
theorem dX0_isLive_13 : decode cX0_isLive 13 = .ok (.ireturn, 1) := by decide +kernel
set_option maxRecDepth 20000 in
theorem ggX0_blockOver_X0_pageOf : GoodIn wsX0_blockOver wsX0_pageOf := goodIn_r _ [6] (by decide +kernel) (by decide +kernel)
set_option maxRecDepth 20000 in
theorem gX0_blockOver_X0_pageOf : GoodIn wsX0_blockOver (va_wsS RX0 60 yX0_pageOf wsX0_pageOf) := goodIn_app (goodIn_of _ (by decide +kernel)) ggX0_blockOver_X0_pageOf
set_option maxRecDepth 20000 in
theorem ggX0_blockOver_X2_isPage : GoodIn wsX0_blockOver wsX2_isPage := goodIn_r _ [9] (by decide +kernel) (by decide +kernel)
set_option maxRecDepth 20000 in
theorem gX0_blockOver_X2_isPage_n30 : GoodIn wsX0_blockOver (wsX2_isPage) := ggX0_blockOver_X2_isPage
set_option maxRecDepth 20000 in
theorem ggX0_blockOver_X0_alignedTo : GoodIn wsX0_blockOver wsX0_alignedTo := goodIn_r _ [12, 13, 8, 14] (by decide +kernel) (by decide +kernel)
set_option maxRecDepth 20000 in
theorem gX0_blockOver_X0_alignedTo : GoodIn wsX0_blockOver (va_wsS RX0 44 yX0_alignedTo wsX0_alignedTo) := goodIn_app (goodIn_of _ (by decide +kernel)) ggX0_blockOver_X0_alignedTo
set_option maxRecDepth 20000 in
theorem ggX0_blockOver_X0_blockIn : GoodIn wsX0_blockOver wsX0_blockIn := goodIn_r _ [18, 19, 20, 21, 5, 22, 23, 24, 25, 26, 27, 1, 2, 28, 29, 30, 31] (by decide +kernel) (by decide +kernel)
set_option maxRecDepth 20000 in
theorem gX0_blockOver_X0_blockIn : GoodIn wsX0_blockOver (wsV RX0 66 RX0 yX0_blockIn wsX0_blockIn) := goodIn_app (goodIn_of _ (by decide +kernel)) ggX0_blockOver_X0_blockIn
set_option maxRecDepth 20000 in
theorem ggX0_blockOver_X0_stepOf : GoodIn wsX0_blockOver wsX0_stepOf := goodIn_r _ [27, 1, 2, 28, 29, 30, 31] (by decide +kernel) (by decide +kernel)
set_option maxRecDepth 20000 in
theorem gX0_blockOver_X0_stepOf : GoodIn wsX0_blockOver (wsV RX0 53 RX0 yX0_stepOf wsX0_stepOf) := goodIn_app (goodIn_of _ (by decide +kernel)) ggX0_blockOver_X0_stepOf
theorem dX0_blockOver_0 : decode cX0_blockOver 0 = .ok (.iload_n 1, 1) := by decide +kernel
theorem dX0_blockOver_1 : decode cX0_blockOver 1 = .ok (.invokestatic 60, 3) := by decide +kernel
theorem dX0_blockOver_4 : decode cX0_blockOver 4 = .ok (.istore_n 2, 1) := by decide +kernel
theorem dX0_blockOver_5 : decode cX0_blockOver 5 = .ok (.iload_n 2, 1) := by decide +kernel
theorem dX0_blockOver_6 : decode cX0_blockOver 6 = .ok (.invokestatic 30, 3) := by decide +kernel
theorem dX0_blockOver_9 : decode cX0_blockOver 9 = .ok (.ifCond .eq 29, 3) := by decide +kernel
theorem dX0_blockOver_12 : decode cX0_blockOver 12 = .ok (.aload_n 0, 1) := by decide +kernel
theorem dX0_blockOver_13 : decode cX0_blockOver 13 = .ok (.getfield 9, 3) := by decide +kernel
theorem dX0_blockOver_16 : decode cX0_blockOver 16 = .ok (.iload_n 2, 1) := by decide +kernel
theorem dX0_blockOver_17 : decode cX0_blockOver 17 = .ok (.iaload, 1) := by decide +kernel
theorem dX0_blockOver_18 : decode cX0_blockOver 18 = .ok (.iconst 3, 1) := by decide +kernel
theorem dX0_blockOver_19 : decode cX0_blockOver 19 = .ok (.if_icmp .ne 19, 3) := by decide +kernel
theorem dX0_blockOver_22 : decode cX0_blockOver 22 = .ok (.aload_n 0, 1) := by decide +kernel
theorem dX0_blockOver_23 : decode cX0_blockOver 23 = .ok (.iload_n 2, 1) := by decide +kernel
theorem dX0_blockOver_24 : decode cX0_blockOver 24 = .ok (.aload_n 0, 1) := by decide +kernel
theorem dX0_blockOver_25 : decode cX0_blockOver 25 = .ok (.getfield 15, 3) := by decide +kernel
theorem dX0_blockOver_28 : decode cX0_blockOver 28 = .ok (.iload_n 2, 1) := by decide +kernel
theorem dX0_blockOver_29 : decode cX0_blockOver 29 = .ok (.iaload, 1) := by decide +kernel
theorem dX0_blockOver_30 : decode cX0_blockOver 30 = .ok (.invokestatic 44, 3) := by decide +kernel
theorem dX0_blockOver_33 : decode cX0_blockOver 33 = .ok (.iconst 0, 1) := by decide +kernel
theorem dX0_blockOver_34 : decode cX0_blockOver 34 = .ok (.invokevirtual 66, 3) := by decide +kernel
theorem dX0_blockOver_37 : decode cX0_blockOver 37 = .ok (.ireturn, 1) := by decide +kernel
theorem dX0_blockOver_38 : decode cX0_blockOver 38 = .ok (.aload_n 0, 1) := by decide +kernel
theorem dX0_blockOver_39 : decode cX0_blockOver 39 = .ok (.iload_n 2, 1) := by decide +kernel
theorem dX0_blockOver_40 : decode cX0_blockOver 40 = .ok (.invokevirtual 53, 3) := by decide +kernel
theorem dX0_blockOver_43 : decode cX0_blockOver 43 = .ok (.istore_n 3, 1) := by decide +kernel
theorem dX0_blockOver_44 : decode cX0_blockOver 44 = .ok (.iload_n 3, 1) := by decide +kernel
theorem dX0_blockOver_45 : decode cX0_blockOver 45 = .ok (.ifCond .le 17, 3) := by decide +kernel
theorem dX0_blockOver_48 : decode cX0_blockOver 48 = .ok (.aload_n 0, 1) := by decide +kernel
theorem dX0_blockOver_49 : decode cX0_blockOver 49 = .ok (.iload_n 2, 1) := by decide +kernel
theorem dX0_blockOver_50 : decode cX0_blockOver 50 = .ok (.iload_n 1, 1) := by decide +kernel
theorem dX0_blockOver_51 : decode cX0_blockOver 51 = .ok (.bipush 16, 2) := by decide +kernel
theorem dX0_blockOver_53 : decode cX0_blockOver 53 = .ok (.irem, 1) := by decide +kernel
theorem dX0_blockOver_54 : decode cX0_blockOver 54 = .ok (.iload_n 3, 1) := by decide +kernel
theorem dX0_blockOver_55 : decode cX0_blockOver 55 = .ok (.idiv, 1) := by decide +kernel
theorem dX0_blockOver_56 : decode cX0_blockOver 56 = .ok (.invokevirtual 66, 3) := by decide +kernel
theorem dX0_blockOver_59 : decode cX0_blockOver 59 = .ok (.goto 4, 3) := by decide +kernel
theorem dX0_blockOver_62 : decode cX0_blockOver 62 = .ok (.iconst (-1), 1) := by decide +kernel
theorem dX0_blockOver_63 : decode cX0_blockOver 63 = .ok (.ireturn, 1) := by decide +kernel
set_option maxRecDepth 20000 in
theorem ggX0_placeFor_X2_classFor : GoodIn wsX0_placeFor wsX2_classFor := goodIn_r _ [3, 4] (by decide +kernel) (by decide +kernel)
set_option maxRecDepth 20000 in
theorem gX0_placeFor_X2_classFor_n69 : GoodIn wsX0_placeFor (wsX2_classFor) := ggX0_placeFor_X2_classFor
set_option maxRecDepth 20000 in
theorem ggX0_placeFor_X0_emptySlot : GoodIn wsX0_placeFor wsX0_emptySlot := goodIn_r _ [9, 10, 11, 12, 8, 13, 14, 15, 16, 2, 17, 18, 19, 20, 21, 22, 23, 24, 25, 26, 27, 28, 29, 30, 55, 56, 57, 58] (by decide +kernel) (by decide +kernel)
set_option maxRecDepth 20000 in
theorem gX0_placeFor_X0_emptySlot : GoodIn wsX0_placeFor (wsV RX0 72 RX0 yX0_emptySlot wsX0_emptySlot) := goodIn_app (goodIn_of _ (by decide +kernel)) ggX0_placeFor_X0_emptySlot
set_option maxRecDepth 20000 in
theorem ggX0_placeFor_X2_orderFor : GoodIn wsX0_placeFor wsX2_orderFor := goodIn_r _ [32, 33, 1, 2, 3, 4] (by decide +kernel) (by decide +kernel)
set_option maxRecDepth 20000 in
theorem gX0_placeFor_X2_orderFor_n75 : GoodIn wsX0_placeFor (wsX2_orderFor) := ggX0_placeFor_X2_orderFor
set_option maxRecDepth 20000 in
theorem ggX0_placeFor_X0_extentFor : GoodIn wsX0_placeFor wsX0_extentFor := goodIn_r _ [37, 38, 2, 39, 40, 41, 42, 8, 43, 44, 45, 46, 47, 48, 49, 50, 51, 14, 52, 53, 54, 55, 56, 57, 58] (by decide +kernel) (by decide +kernel)
set_option maxRecDepth 20000 in
theorem gX0_placeFor_X0_extentFor : GoodIn wsX0_placeFor (wsV RX0 78 RX0 yX0_extentFor wsX0_extentFor) := goodIn_app (goodIn_of _ (by decide +kernel)) ggX0_placeFor_X0_extentFor
theorem dX0_placeFor_0 : decode cX0_placeFor 0 = .ok (.iload_n 1, 1) := by decide +kernel
theorem dX0_placeFor_1 : decode cX0_placeFor 1 = .ok (.invokestatic 69, 3) := by decide +kernel
theorem dX0_placeFor_4 : decode cX0_placeFor 4 = .ok (.istore_n 2, 1) := by decide +kernel
theorem dX0_placeFor_5 : decode cX0_placeFor 5 = .ok (.iload_n 2, 1) := by decide +kernel
theorem dX0_placeFor_6 : decode cX0_placeFor 6 = .ok (.ifCond .le 11, 3) := by decide +kernel
theorem dX0_placeFor_9 : decode cX0_placeFor 9 = .ok (.aload_n 0, 1) := by decide +kernel
theorem dX0_placeFor_10 : decode cX0_placeFor 10 = .ok (.iload_n 2, 1) := by decide +kernel
theorem dX0_placeFor_11 : decode cX0_placeFor 11 = .ok (.invokevirtual 72, 3) := by decide +kernel
theorem dX0_placeFor_14 : decode cX0_placeFor 14 = .ok (.goto 4, 3) := by decide +kernel
theorem dX0_placeFor_17 : decode cX0_placeFor 17 = .ok (.iconst (-1), 1) := by decide +kernel
theorem dX0_placeFor_18 : decode cX0_placeFor 18 = .ok (.istore_n 3, 1) := by decide +kernel
theorem dX0_placeFor_19 : decode cX0_placeFor 19 = .ok (.iload_n 3, 1) := by decide +kernel
theorem dX0_placeFor_20 : decode cX0_placeFor 20 = .ok (.iconst (-1), 1) := by decide +kernel
theorem dX0_placeFor_21 : decode cX0_placeFor 21 = .ok (.if_icmp .eq 5, 3) := by decide +kernel
theorem dX0_placeFor_24 : decode cX0_placeFor 24 = .ok (.iload_n 3, 1) := by decide +kernel
theorem dX0_placeFor_25 : decode cX0_placeFor 25 = .ok (.ireturn, 1) := by decide +kernel
theorem dX0_placeFor_26 : decode cX0_placeFor 26 = .ok (.aload_n 0, 1) := by decide +kernel
theorem dX0_placeFor_27 : decode cX0_placeFor 27 = .ok (.iload_n 2, 1) := by decide +kernel
theorem dX0_placeFor_28 : decode cX0_placeFor 28 = .ok (.ifCond .le 7, 3) := by decide +kernel
theorem dX0_placeFor_31 : decode cX0_placeFor 31 = .ok (.iconst 0, 1) := by decide +kernel
theorem dX0_placeFor_32 : decode cX0_placeFor 32 = .ok (.goto 7, 3) := by decide +kernel
theorem dX0_placeFor_35 : decode cX0_placeFor 35 = .ok (.iload_n 1, 1) := by decide +kernel
theorem dX0_placeFor_36 : decode cX0_placeFor 36 = .ok (.invokestatic 75, 3) := by decide +kernel
theorem dX0_placeFor_39 : decode cX0_placeFor 39 = .ok (.invokevirtual 78, 3) := by decide +kernel
theorem dX0_placeFor_42 : decode cX0_placeFor 42 = .ok (.istore 4, 2) := by decide +kernel
theorem dX0_placeFor_44 : decode cX0_placeFor 44 = .ok (.iload 4, 2) := by decide +kernel
theorem dX0_placeFor_46 : decode cX0_placeFor 46 = .ok (.iconst (-1), 1) := by decide +kernel
theorem dX0_placeFor_47 : decode cX0_placeFor 47 = .ok (.if_icmp .ne 7, 3) := by decide +kernel
theorem dX0_placeFor_50 : decode cX0_placeFor 50 = .ok (.iconst (-1), 1) := by decide +kernel
theorem dX0_placeFor_51 : decode cX0_placeFor 51 = .ok (.goto 8, 3) := by decide +kernel
theorem dX0_placeFor_54 : decode cX0_placeFor 54 = .ok (.iload 4, 2) := by decide +kernel
theorem dX0_placeFor_56 : decode cX0_placeFor 56 = .ok (.bipush 16, 2) := by decide +kernel
theorem dX0_placeFor_58 : decode cX0_placeFor 58 = .ok (.imul, 1) := by decide +kernel
theorem dX0_placeFor_59 : decode cX0_placeFor 59 = .ok (.ireturn, 1) := by decide +kernel
set_option maxRecDepth 20000 in
theorem ggX0_canHold_X0_pageOf : GoodIn wsX0_canHold wsX0_pageOf := goodIn_r _ [4] (by decide +kernel) (by decide +kernel)
set_option maxRecDepth 20000 in
theorem gX0_canHold_X0_pageOf : GoodIn wsX0_canHold (va_wsS RX0 60 yX0_pageOf wsX0_pageOf) := goodIn_app (goodIn_of _ (by decide +kernel)) ggX0_canHold_X0_pageOf
set_option maxRecDepth 20000 in
theorem ggX0_canHold_X2_classFor : GoodIn wsX0_canHold wsX2_classFor := goodIn_r _ [7, 8] (by decide +kernel) (by decide +kernel)
set_option maxRecDepth 20000 in
theorem gX0_canHold_X2_classFor_n69 : GoodIn wsX0_canHold (wsX2_classFor) := ggX0_canHold_X2_classFor
set_option maxRecDepth 20000 in
theorem ggX0_canHold_X0_slotBy : GoodIn wsX0_canHold wsX0_slotBy := goodIn_r _ [11] (by decide +kernel) (by decide +kernel)
set_option maxRecDepth 20000 in
theorem gX0_canHold_X0_slotBy : GoodIn wsX0_canHold (va_wsS RX0 81 yX0_slotBy wsX0_slotBy) := goodIn_app (goodIn_of _ (by decide +kernel)) ggX0_canHold_X0_slotBy
set_option maxRecDepth 20000 in
theorem ggX0_canHold_X0_kindOf : GoodIn wsX0_canHold wsX0_kindOf := goodIn_r _ [15, 16, 36, 37, 38, 39] (by decide +kernel) (by decide +kernel)
set_option maxRecDepth 20000 in
theorem gX0_canHold_X0_kindOf : GoodIn wsX0_canHold (wsV RX0 38 RX0 yX0_kindOf wsX0_kindOf) := goodIn_app (goodIn_of _ (by decide +kernel)) ggX0_canHold_X0_kindOf
set_option maxRecDepth 20000 in
theorem ggX0_canHold_X0_isSlabOf : GoodIn wsX0_canHold wsX0_isSlabOf := goodIn_r _ [20, 16, 21, 22, 6, 23, 36, 37, 38, 39] (by decide +kernel) (by decide +kernel)
set_option maxRecDepth 20000 in
theorem gX0_canHold_X0_isSlabOf : GoodIn wsX0_canHold (wsV RX0 84 RX0 yX0_isSlabOf wsX0_isSlabOf) := goodIn_app (goodIn_of _ (by decide +kernel)) ggX0_canHold_X0_isSlabOf
set_option maxRecDepth 20000 in
theorem ggX0_canHold_X2_orderFor : GoodIn wsX0_canHold wsX2_orderFor := goodIn_r _ [25, 26, 5, 6, 7, 8] (by decide +kernel) (by decide +kernel)
set_option maxRecDepth 20000 in
theorem gX0_canHold_X2_orderFor_n75 : GoodIn wsX0_canHold (wsX2_orderFor) := ggX0_canHold_X2_orderFor
set_option maxRecDepth 20000 in
theorem ggX0_canHold_X0_alignedTo : GoodIn wsX0_canHold wsX0_alignedTo := goodIn_r _ [29, 30, 6, 31] (by decide +kernel) (by decide +kernel)
set_option maxRecDepth 20000 in
theorem gX0_canHold_X0_alignedTo : GoodIn wsX0_canHold (va_wsS RX0 44 yX0_alignedTo wsX0_alignedTo) := goodIn_app (goodIn_of _ (by decide +kernel)) ggX0_canHold_X0_alignedTo
set_option maxRecDepth 20000 in
theorem ggX0_canHold_X0_isFreeRun : GoodIn wsX0_canHold wsX0_isFreeRun := goodIn_r _ [35, 30, 6, 31, 12, 13, 14, 3, 15, 16, 36, 37, 38, 39] (by decide +kernel) (by decide +kernel)
set_option maxRecDepth 20000 in
theorem gX0_canHold_X0_isFreeRun : GoodIn wsX0_canHold (wsV RX0 87 RX0 yX0_isFreeRun wsX0_isFreeRun) := goodIn_app (goodIn_of _ (by decide +kernel)) ggX0_canHold_X0_isFreeRun
theorem dX0_canHold_0 : decode cX0_canHold 0 = .ok (.iload_n 1, 1) := by decide +kernel
theorem dX0_canHold_1 : decode cX0_canHold 1 = .ok (.invokestatic 60, 3) := by decide +kernel
theorem dX0_canHold_4 : decode cX0_canHold 4 = .ok (.istore_n 3, 1) := by decide +kernel
theorem dX0_canHold_5 : decode cX0_canHold 5 = .ok (.iload_n 2, 1) := by decide +kernel
theorem dX0_canHold_6 : decode cX0_canHold 6 = .ok (.invokestatic 69, 3) := by decide +kernel
theorem dX0_canHold_9 : decode cX0_canHold 9 = .ok (.istore 4, 2) := by decide +kernel
theorem dX0_canHold_11 : decode cX0_canHold 11 = .ok (.iload 4, 2) := by decide +kernel
theorem dX0_canHold_13 : decode cX0_canHold 13 = .ok (.ifCond .le 52, 3) := by decide +kernel
theorem dX0_canHold_16 : decode cX0_canHold 16 = .ok (.iload 4, 2) := by decide +kernel
theorem dX0_canHold_18 : decode cX0_canHold 18 = .ok (.iload_n 1, 1) := by decide +kernel
theorem dX0_canHold_19 : decode cX0_canHold 19 = .ok (.bipush 16, 2) := by decide +kernel
theorem dX0_canHold_21 : decode cX0_canHold 21 = .ok (.irem, 1) := by decide +kernel
theorem dX0_canHold_22 : decode cX0_canHold 22 = .ok (.invokestatic 81, 3) := by decide +kernel
theorem dX0_canHold_25 : decode cX0_canHold 25 = .ok (.iconst (-1), 1) := by decide +kernel
theorem dX0_canHold_26 : decode cX0_canHold 26 = .ok (.if_icmp .eq 7, 3) := by decide +kernel
theorem dX0_canHold_29 : decode cX0_canHold 29 = .ok (.iconst 1, 1) := by decide +kernel
theorem dX0_canHold_30 : decode cX0_canHold 30 = .ok (.goto 4, 3) := by decide +kernel
theorem dX0_canHold_33 : decode cX0_canHold 33 = .ok (.iconst 0, 1) := by decide +kernel
theorem dX0_canHold_34 : decode cX0_canHold 34 = .ok (.istore 5, 2) := by decide +kernel
theorem dX0_canHold_36 : decode cX0_canHold 36 = .ok (.iload 5, 2) := by decide +kernel
theorem dX0_canHold_38 : decode cX0_canHold 38 = .ok (.ifCond .eq 25, 3) := by decide +kernel
theorem dX0_canHold_41 : decode cX0_canHold 41 = .ok (.aload_n 0, 1) := by decide +kernel
theorem dX0_canHold_42 : decode cX0_canHold 42 = .ok (.iload_n 3, 1) := by decide +kernel
theorem dX0_canHold_43 : decode cX0_canHold 43 = .ok (.invokevirtual 38, 3) := by decide +kernel
theorem dX0_canHold_46 : decode cX0_canHold 46 = .ok (.ifCond .eq 13, 3) := by decide +kernel
theorem dX0_canHold_49 : decode cX0_canHold 49 = .ok (.aload_n 0, 1) := by decide +kernel
theorem dX0_canHold_50 : decode cX0_canHold 50 = .ok (.iload_n 3, 1) := by decide +kernel
theorem dX0_canHold_51 : decode cX0_canHold 51 = .ok (.iload 4, 2) := by decide +kernel
theorem dX0_canHold_53 : decode cX0_canHold 53 = .ok (.invokevirtual 84, 3) := by decide +kernel
theorem dX0_canHold_56 : decode cX0_canHold 56 = .ok (.ifCond .eq 7, 3) := by decide +kernel
theorem dX0_canHold_59 : decode cX0_canHold 59 = .ok (.iconst 1, 1) := by decide +kernel
theorem dX0_canHold_60 : decode cX0_canHold 60 = .ok (.goto 4, 3) := by decide +kernel
theorem dX0_canHold_63 : decode cX0_canHold 63 = .ok (.iconst 0, 1) := by decide +kernel
theorem dX0_canHold_64 : decode cX0_canHold 64 = .ok (.ireturn, 1) := by decide +kernel
theorem dX0_canHold_65 : decode cX0_canHold 65 = .ok (.iload_n 2, 1) := by decide +kernel
theorem dX0_canHold_66 : decode cX0_canHold 66 = .ok (.invokestatic 75, 3) := by decide +kernel
theorem dX0_canHold_69 : decode cX0_canHold 69 = .ok (.istore 5, 2) := by decide +kernel
theorem dX0_canHold_71 : decode cX0_canHold 71 = .ok (.iload_n 1, 1) := by decide +kernel
theorem dX0_canHold_72 : decode cX0_canHold 72 = .ok (.bipush 16, 2) := by decide +kernel
theorem dX0_canHold_74 : decode cX0_canHold 74 = .ok (.irem, 1) := by decide +kernel
theorem dX0_canHold_75 : decode cX0_canHold 75 = .ok (.ifCond .ne 27, 3) := by decide +kernel
theorem dX0_canHold_78 : decode cX0_canHold 78 = .ok (.iload_n 3, 1) := by decide +kernel
theorem dX0_canHold_79 : decode cX0_canHold 79 = .ok (.iload 5, 2) := by decide +kernel
theorem dX0_canHold_81 : decode cX0_canHold 81 = .ok (.invokestatic 44, 3) := by decide +kernel
theorem dX0_canHold_84 : decode cX0_canHold 84 = .ok (.iload_n 3, 1) := by decide +kernel
theorem dX0_canHold_85 : decode cX0_canHold 85 = .ok (.if_icmp .ne 17, 3) := by decide +kernel
theorem dX0_canHold_88 : decode cX0_canHold 88 = .ok (.aload_n 0, 1) := by decide +kernel
theorem dX0_canHold_89 : decode cX0_canHold 89 = .ok (.iload_n 3, 1) := by decide +kernel
theorem dX0_canHold_90 : decode cX0_canHold 90 = .ok (.iload 5, 2) := by decide +kernel
theorem dX0_canHold_92 : decode cX0_canHold 92 = .ok (.invokevirtual 87, 3) := by decide +kernel
theorem dX0_canHold_95 : decode cX0_canHold 95 = .ok (.ifCond .eq 7, 3) := by decide +kernel
theorem dX0_canHold_98 : decode cX0_canHold 98 = .ok (.iconst 1, 1) := by decide +kernel
theorem dX0_canHold_99 : decode cX0_canHold 99 = .ok (.goto 4, 3) := by decide +kernel
theorem dX0_canHold_102 : decode cX0_canHold 102 = .ok (.iconst 0, 1) := by decide +kernel
theorem dX0_canHold_103 : decode cX0_canHold 103 = .ok (.ireturn, 1) := by decide +kernel
set_option maxRecDepth 20000 in
theorem ggX0_add_X0_pageOf : GoodIn wsX0_add wsX0_pageOf := goodIn_r _ [5] (by decide +kernel) (by decide +kernel)
set_option maxRecDepth 20000 in
theorem gX0_add_X0_pageOf : GoodIn wsX0_add (va_wsS RX0 60 yX0_pageOf wsX0_pageOf) := goodIn_app (goodIn_of _ (by decide +kernel)) ggX0_add_X0_pageOf
set_option maxRecDepth 20000 in
theorem ggX0_add_X2_classFor : GoodIn wsX0_add wsX2_classFor := goodIn_r _ [8, 9] (by decide +kernel) (by decide +kernel)
set_option maxRecDepth 20000 in
theorem gX0_add_X2_classFor_n69 : GoodIn wsX0_add (wsX2_classFor) := ggX0_add_X2_classFor
set_option maxRecDepth 20000 in
theorem ggX0_add_X0_lay : GoodIn wsX0_add wsX0_lay := goodIn_r _ [13, 14, 15, 16, 7, 17, 38, 39, 40, 41] (by decide +kernel) (by decide +kernel)
set_option maxRecDepth 20000 in
theorem gX0_add_X0_lay : GoodIn wsX0_add (wsV RX0 90 RX0 yX0_lay wsX0_lay) := goodIn_app (goodIn_of _ (by decide +kernel)) ggX0_add_X0_lay
set_option maxRecDepth 20000 in
theorem ggX0_add_X2_orderFor : GoodIn wsX0_add wsX2_orderFor := goodIn_r _ [19, 20, 6, 7, 8, 9] (by decide +kernel) (by decide +kernel)
set_option maxRecDepth 20000 in
theorem gX0_add_X2_orderFor_n75 : GoodIn wsX0_add (wsX2_orderFor) := ggX0_add_X2_orderFor
set_option maxRecDepth 20000 in
theorem ggX0_add_X0_layExtent : GoodIn wsX0_add wsX0_layExtent := goodIn_r _ [24, 25, 7, 26, 10, 11, 12, 4, 13, 14, 15, 16, 17, 38, 39, 40, 41] (by decide +kernel) (by decide +kernel)
set_option maxRecDepth 20000 in
theorem gX0_add_X0_layExtent : GoodIn wsX0_add (wsV RX0 94 RX0 yX0_layExtent wsX0_layExtent) := goodIn_app (goodIn_of _ (by decide +kernel)) ggX0_add_X0_layExtent
set_option maxRecDepth 20000 in
theorem ggX0_add_X0_slotAt : GoodIn wsX0_add wsX0_slotAt := goodIn_r _ [30, 2, 3, 4, 5, 31, 32, 33, 34, 14, 15, 35, 36, 37, 38, 39, 40, 41] (by decide +kernel) (by decide +kernel)
set_option maxRecDepth 20000 in
theorem gX0_add_X0_slotAt : GoodIn wsX0_add (wsV RX0 63 RX0 yX0_slotAt wsX0_slotAt) := goodIn_app (goodIn_of _ (by decide +kernel)) ggX0_add_X0_slotAt
set_option maxRecDepth 20000 in
theorem ggX0_add_X2_isPage : GoodIn wsX0_add wsX2_isPage := goodIn_r _ [17] (by decide +kernel) (by decide +kernel)
set_option maxRecDepth 20000 in
theorem gX0_add_X2_isPage_n30 : GoodIn wsX0_add (wsX2_isPage) := ggX0_add_X2_isPage
theorem dX0_add_0 : decode cX0_add 0 = .ok (.iload_n 1, 1) := by decide +kernel
theorem dX0_add_1 : decode cX0_add 1 = .ok (.invokestatic 60, 3) := by decide +kernel
theorem dX0_add_4 : decode cX0_add 4 = .ok (.istore_n 3, 1) := by decide +kernel
theorem dX0_add_5 : decode cX0_add 5 = .ok (.iload_n 2, 1) := by decide +kernel
theorem dX0_add_6 : decode cX0_add 6 = .ok (.invokestatic 69, 3) := by decide +kernel
theorem dX0_add_9 : decode cX0_add 9 = .ok (.istore 4, 2) := by decide +kernel
theorem dX0_add_11 : decode cX0_add 11 = .ok (.iload 4, 2) := by decide +kernel
theorem dX0_add_13 : decode cX0_add 13 = .ok (.ifCond .le 14, 3) := by decide +kernel
theorem dX0_add_16 : decode cX0_add 16 = .ok (.aload_n 0, 1) := by decide +kernel
theorem dX0_add_17 : decode cX0_add 17 = .ok (.iload_n 3, 1) := by decide +kernel
theorem dX0_add_18 : decode cX0_add 18 = .ok (.iconst 1, 1) := by decide +kernel
theorem dX0_add_19 : decode cX0_add 19 = .ok (.iload 4, 2) := by decide +kernel
theorem dX0_add_21 : decode cX0_add 21 = .ok (.invokevirtual 90, 3) := by decide +kernel
theorem dX0_add_24 : decode cX0_add 24 = .ok (.goto 12, 3) := by decide +kernel
theorem dX0_add_27 : decode cX0_add 27 = .ok (.aload_n 0, 1) := by decide +kernel
theorem dX0_add_28 : decode cX0_add 28 = .ok (.iload_n 3, 1) := by decide +kernel
theorem dX0_add_29 : decode cX0_add 29 = .ok (.iload_n 2, 1) := by decide +kernel
theorem dX0_add_30 : decode cX0_add 30 = .ok (.invokestatic 75, 3) := by decide +kernel
theorem dX0_add_33 : decode cX0_add 33 = .ok (.invokevirtual 94, 3) := by decide +kernel
theorem dX0_add_36 : decode cX0_add 36 = .ok (.aload_n 0, 1) := by decide +kernel
theorem dX0_add_37 : decode cX0_add 37 = .ok (.iload_n 1, 1) := by decide +kernel
theorem dX0_add_38 : decode cX0_add 38 = .ok (.invokevirtual 63, 3) := by decide +kernel
theorem dX0_add_41 : decode cX0_add 41 = .ok (.istore 5, 2) := by decide +kernel
theorem dX0_add_43 : decode cX0_add 43 = .ok (.iload_n 3, 1) := by decide +kernel
theorem dX0_add_44 : decode cX0_add 44 = .ok (.invokestatic 30, 3) := by decide +kernel
theorem dX0_add_47 : decode cX0_add 47 = .ok (.ifCond .eq 22, 3) := by decide +kernel
theorem dX0_add_50 : decode cX0_add 50 = .ok (.iload 5, 2) := by decide +kernel
theorem dX0_add_52 : decode cX0_add 52 = .ok (.iconst (-1), 1) := by decide +kernel
theorem dX0_add_53 : decode cX0_add 53 = .ok (.if_icmp .eq 16, 3) := by decide +kernel
theorem dX0_add_56 : decode cX0_add 56 = .ok (.aload_n 0, 1) := by decide +kernel
theorem dX0_add_57 : decode cX0_add 57 = .ok (.getfield 18, 3) := by decide +kernel
theorem dX0_add_60 : decode cX0_add 60 = .ok (.iload_n 3, 1) := by decide +kernel
theorem dX0_add_61 : decode cX0_add 61 = .ok (.dup2, 1) := by decide +kernel
theorem dX0_add_62 : decode cX0_add 62 = .ok (.iaload, 1) := by decide +kernel
theorem dX0_add_63 : decode cX0_add 63 = .ok (.iconst 1, 1) := by decide +kernel
theorem dX0_add_64 : decode cX0_add 64 = .ok (.iload 5, 2) := by decide +kernel
theorem dX0_add_66 : decode cX0_add 66 = .ok (.ishl, 1) := by decide +kernel
theorem dX0_add_67 : decode cX0_add 67 = .ok (.ior, 1) := by decide +kernel
theorem dX0_add_68 : decode cX0_add 68 = .ok (.iastore, 1) := by decide +kernel
theorem dX0_add_69 : decode cX0_add 69 = .ok (.return_, 1) := by decide +kernel
set_option maxRecDepth 20000 in
theorem ggX0_remove_X0_pageOf : GoodIn wsX0_remove wsX0_pageOf := goodIn_r _ [7] (by decide +kernel) (by decide +kernel)
set_option maxRecDepth 20000 in
theorem gX0_remove_X0_pageOf : GoodIn wsX0_remove (va_wsS RX0 60 yX0_pageOf wsX0_pageOf) := goodIn_app (goodIn_of _ (by decide +kernel)) ggX0_remove_X0_pageOf
set_option maxRecDepth 20000 in
theorem ggX0_remove_X0_slotAt : GoodIn wsX0_remove wsX0_slotAt := goodIn_r _ [11, 4, 5, 6, 7, 12, 13, 14, 15, 2, 3, 16, 17, 18, 30, 31, 32, 33] (by decide +kernel) (by decide +kernel)
set_option maxRecDepth 20000 in
theorem gX0_remove_X0_slotAt : GoodIn wsX0_remove (wsV RX0 63 RX0 yX0_slotAt wsX0_slotAt) := goodIn_app (goodIn_of _ (by decide +kernel)) ggX0_remove_X0_slotAt
set_option maxRecDepth 20000 in
theorem ggX0_remove_X2_isPage : GoodIn wsX0_remove wsX2_isPage := goodIn_r _ [21] (by decide +kernel) (by decide +kernel)
set_option maxRecDepth 20000 in
theorem gX0_remove_X2_isPage_n30 : GoodIn wsX0_remove (wsX2_isPage) := ggX0_remove_X2_isPage
set_option maxRecDepth 20000 in
theorem ggX0_remove_X0_isTaken : GoodIn wsX0_remove wsX0_isTaken := goodIn_r _ [25, 1, 30, 31, 32, 33] (by decide +kernel) (by decide +kernel)
set_option maxRecDepth 20000 in
theorem gX0_remove_X0_isTaken : GoodIn wsX0_remove (wsV RX0 56 RX0 yX0_isTaken wsX0_isTaken) := goodIn_app (goodIn_of _ (by decide +kernel)) ggX0_remove_X0_isTaken
set_option maxRecDepth 20000 in
theorem ggX0_remove_X0_lay : GoodIn wsX0_remove wsX0_lay := goodIn_r _ [29, 2, 3, 19, 20, 21, 30, 31, 32, 33] (by decide +kernel) (by decide +kernel)
set_option maxRecDepth 20000 in
theorem gX0_remove_X0_lay : GoodIn wsX0_remove (wsV RX0 90 RX0 yX0_lay wsX0_lay) := goodIn_app (goodIn_of _ (by decide +kernel)) ggX0_remove_X0_lay
theorem dX0_remove_0 : decode cX0_remove 0 = .ok (.iload_n 1, 1) := by decide +kernel
theorem dX0_remove_1 : decode cX0_remove 1 = .ok (.invokestatic 60, 3) := by decide +kernel
theorem dX0_remove_4 : decode cX0_remove 4 = .ok (.istore_n 2, 1) := by decide +kernel
theorem dX0_remove_5 : decode cX0_remove 5 = .ok (.aload_n 0, 1) := by decide +kernel
theorem dX0_remove_6 : decode cX0_remove 6 = .ok (.iload_n 1, 1) := by decide +kernel
theorem dX0_remove_7 : decode cX0_remove 7 = .ok (.invokevirtual 63, 3) := by decide +kernel
theorem dX0_remove_10 : decode cX0_remove 10 = .ok (.istore_n 3, 1) := by decide +kernel
theorem dX0_remove_11 : decode cX0_remove 11 = .ok (.iload_n 2, 1) := by decide +kernel
theorem dX0_remove_12 : decode cX0_remove 12 = .ok (.invokestatic 30, 3) := by decide +kernel
theorem dX0_remove_15 : decode cX0_remove 15 = .ok (.ifCond .eq 12, 3) := by decide +kernel
theorem dX0_remove_18 : decode cX0_remove 18 = .ok (.aload_n 0, 1) := by decide +kernel
theorem dX0_remove_19 : decode cX0_remove 19 = .ok (.iload_n 2, 1) := by decide +kernel
theorem dX0_remove_20 : decode cX0_remove 20 = .ok (.iload_n 3, 1) := by decide +kernel
theorem dX0_remove_21 : decode cX0_remove 21 = .ok (.invokevirtual 56, 3) := by decide +kernel
theorem dX0_remove_24 : decode cX0_remove 24 = .ok (.ifCond .ne 4, 3) := by decide +kernel
theorem dX0_remove_27 : decode cX0_remove 27 = .ok (.return_, 1) := by decide +kernel
theorem dX0_remove_28 : decode cX0_remove 28 = .ok (.aload_n 0, 1) := by decide +kernel
theorem dX0_remove_29 : decode cX0_remove 29 = .ok (.getfield 18, 3) := by decide +kernel
theorem dX0_remove_32 : decode cX0_remove 32 = .ok (.iload_n 2, 1) := by decide +kernel
theorem dX0_remove_33 : decode cX0_remove 33 = .ok (.dup2, 1) := by decide +kernel
theorem dX0_remove_34 : decode cX0_remove 34 = .ok (.iaload, 1) := by decide +kernel
theorem dX0_remove_35 : decode cX0_remove 35 = .ok (.iconst 1, 1) := by decide +kernel
theorem dX0_remove_36 : decode cX0_remove 36 = .ok (.iload_n 3, 1) := by decide +kernel
theorem dX0_remove_37 : decode cX0_remove 37 = .ok (.ishl, 1) := by decide +kernel
theorem dX0_remove_38 : decode cX0_remove 38 = .ok (.iconst (-1), 1) := by decide +kernel
theorem dX0_remove_39 : decode cX0_remove 39 = .ok (.ixor, 1) := by decide +kernel
theorem dX0_remove_40 : decode cX0_remove 40 = .ok (.iand, 1) := by decide +kernel
theorem dX0_remove_41 : decode cX0_remove 41 = .ok (.iastore, 1) := by decide +kernel
theorem dX0_remove_42 : decode cX0_remove 42 = .ok (.aload_n 0, 1) := by decide +kernel
theorem dX0_remove_43 : decode cX0_remove 43 = .ok (.getfield 18, 3) := by decide +kernel
theorem dX0_remove_46 : decode cX0_remove 46 = .ok (.iload_n 2, 1) := by decide +kernel
theorem dX0_remove_47 : decode cX0_remove 47 = .ok (.iaload, 1) := by decide +kernel
theorem dX0_remove_48 : decode cX0_remove 48 = .ok (.ifCond .ne 53, 3) := by decide +kernel
theorem dX0_remove_51 : decode cX0_remove 51 = .ok (.aload_n 0, 1) := by decide +kernel
theorem dX0_remove_52 : decode cX0_remove 52 = .ok (.getfield 9, 3) := by decide +kernel
theorem dX0_remove_55 : decode cX0_remove 55 = .ok (.iload_n 2, 1) := by decide +kernel
theorem dX0_remove_56 : decode cX0_remove 56 = .ok (.iaload, 1) := by decide +kernel
theorem dX0_remove_57 : decode cX0_remove 57 = .ok (.iconst 2, 1) := by decide +kernel
theorem dX0_remove_58 : decode cX0_remove 58 = .ok (.if_icmp .ne 14, 3) := by decide +kernel
theorem dX0_remove_61 : decode cX0_remove 61 = .ok (.iconst 1, 1) := by decide +kernel
theorem dX0_remove_62 : decode cX0_remove 62 = .ok (.aload_n 0, 1) := by decide +kernel
theorem dX0_remove_63 : decode cX0_remove 63 = .ok (.getfield 15, 3) := by decide +kernel
theorem dX0_remove_66 : decode cX0_remove 66 = .ok (.iload_n 2, 1) := by decide +kernel
theorem dX0_remove_67 : decode cX0_remove 67 = .ok (.iaload, 1) := by decide +kernel
theorem dX0_remove_68 : decode cX0_remove 68 = .ok (.ishl, 1) := by decide +kernel
theorem dX0_remove_69 : decode cX0_remove 69 = .ok (.goto 4, 3) := by decide +kernel
theorem dX0_remove_72 : decode cX0_remove 72 = .ok (.iconst 1, 1) := by decide +kernel
theorem dX0_remove_73 : decode cX0_remove 73 = .ok (.istore 4, 2) := by decide +kernel
theorem dX0_remove_75 : decode cX0_remove 75 = .ok (.iconst 0, 1) := by decide +kernel
theorem dX0_remove_76 : decode cX0_remove 76 = .ok (.istore 5, 2) := by decide +kernel
theorem dX0_remove_78 : decode cX0_remove 78 = .ok (.iload 5, 2) := by decide +kernel
theorem dX0_remove_80 : decode cX0_remove 80 = .ok (.iload 4, 2) := by decide +kernel
theorem dX0_remove_82 : decode cX0_remove 82 = .ok (.if_icmp .ge 19, 3) := by decide +kernel
theorem dX0_remove_85 : decode cX0_remove 85 = .ok (.aload_n 0, 1) := by decide +kernel
theorem dX0_remove_86 : decode cX0_remove 86 = .ok (.iload_n 2, 1) := by decide +kernel
theorem dX0_remove_87 : decode cX0_remove 87 = .ok (.iload 5, 2) := by decide +kernel
theorem dX0_remove_89 : decode cX0_remove 89 = .ok (.iadd, 1) := by decide +kernel
theorem dX0_remove_90 : decode cX0_remove 90 = .ok (.iconst 0, 1) := by decide +kernel
theorem dX0_remove_91 : decode cX0_remove 91 = .ok (.iconst 0, 1) := by decide +kernel
theorem dX0_remove_92 : decode cX0_remove 92 = .ok (.invokevirtual 90, 3) := by decide +kernel
theorem dX0_remove_95 : decode cX0_remove 95 = .ok (.iinc 5 1, 3) := by decide +kernel
theorem dX0_remove_98 : decode cX0_remove 98 = .ok (.goto (-20), 3) := by decide +kernel
theorem dX0_remove_101 : decode cX0_remove 101 = .ok (.return_, 1) := by decide +kernel
set_option maxRecDepth 20000 in
theorem ggX0_clearMarks_J7_fill_53178 : GoodIn wsX0_clearMarks wsJ7_fill_53178 := goodIn_r _ [5] (by decide +kernel) (by decide +kernel)
set_option maxRecDepth 20000 in
theorem gX0_clearMarks_J7_fill_53178 : GoodIn wsX0_clearMarks (va_wsS RX0 24 yJ7_fill_53178 wsJ7_fill_53178) := goodIn_app (goodIn_of _ (by decide +kernel)) ggX0_clearMarks_J7_fill_53178
theorem dX0_clearMarks_0 : decode cX0_clearMarks 0 = .ok (.aload_n 0, 1) := by decide +kernel
theorem dX0_clearMarks_1 : decode cX0_clearMarks 1 = .ok (.getfield 21, 3) := by decide +kernel
theorem dX0_clearMarks_4 : decode cX0_clearMarks 4 = .ok (.iconst 0, 1) := by decide +kernel
theorem dX0_clearMarks_5 : decode cX0_clearMarks 5 = .ok (.invokestatic 24, 3) := by decide +kernel
theorem dX0_clearMarks_8 : decode cX0_clearMarks 8 = .ok (.return_, 1) := by decide +kernel
set_option maxRecDepth 20000 in
theorem ggX0_isMarked_X0_pageOf : GoodIn wsX0_isMarked wsX0_pageOf := goodIn_r _ [5] (by decide +kernel) (by decide +kernel)
set_option maxRecDepth 20000 in
theorem gX0_isMarked_X0_pageOf : GoodIn wsX0_isMarked (va_wsS RX0 60 yX0_pageOf wsX0_pageOf) := goodIn_app (goodIn_of _ (by decide +kernel)) ggX0_isMarked_X0_pageOf
set_option maxRecDepth 20000 in
theorem ggX0_isMarked_X0_slotAt : GoodIn wsX0_isMarked wsX0_slotAt := goodIn_r _ [9, 2, 3, 4, 5, 10, 11, 12, 13, 14, 15, 16, 17, 18, 27, 28, 29, 30] (by decide +kernel) (by decide +kernel)
set_option maxRecDepth 20000 in
theorem gX0_isMarked_X0_slotAt : GoodIn wsX0_isMarked (wsV RX0 63 RX0 yX0_slotAt wsX0_slotAt) := goodIn_app (goodIn_of _ (by decide +kernel)) ggX0_isMarked_X0_slotAt
set_option maxRecDepth 20000 in
theorem ggX0_isMarked_X2_isPage : GoodIn wsX0_isMarked wsX2_isPage := goodIn_r _ [21] (by decide +kernel) (by decide +kernel)
set_option maxRecDepth 20000 in
theorem gX0_isMarked_X2_isPage_n30 : GoodIn wsX0_isMarked (wsX2_isPage) := ggX0_isMarked_X2_isPage
set_option maxRecDepth 20000 in
theorem ggX0_isMarked_X0_isTaken : GoodIn wsX0_isMarked wsX0_isTaken := goodIn_r _ [25, 26, 27, 28, 29, 30] (by decide +kernel) (by decide +kernel)
set_option maxRecDepth 20000 in
theorem gX0_isMarked_X0_isTaken : GoodIn wsX0_isMarked (wsV RX0 56 RX0 yX0_isTaken wsX0_isTaken) := goodIn_app (goodIn_of _ (by decide +kernel)) ggX0_isMarked_X0_isTaken
theorem dX0_isMarked_0 : decode cX0_isMarked 0 = .ok (.iload_n 1, 1) := by decide +kernel
theorem dX0_isMarked_1 : decode cX0_isMarked 1 = .ok (.invokestatic 60, 3) := by decide +kernel
theorem dX0_isMarked_4 : decode cX0_isMarked 4 = .ok (.istore_n 2, 1) := by decide +kernel
theorem dX0_isMarked_5 : decode cX0_isMarked 5 = .ok (.aload_n 0, 1) := by decide +kernel
theorem dX0_isMarked_6 : decode cX0_isMarked 6 = .ok (.iload_n 1, 1) := by decide +kernel
theorem dX0_isMarked_7 : decode cX0_isMarked 7 = .ok (.invokevirtual 63, 3) := by decide +kernel
theorem dX0_isMarked_10 : decode cX0_isMarked 10 = .ok (.istore_n 3, 1) := by decide +kernel
theorem dX0_isMarked_11 : decode cX0_isMarked 11 = .ok (.iload_n 2, 1) := by decide +kernel
theorem dX0_isMarked_12 : decode cX0_isMarked 12 = .ok (.invokestatic 30, 3) := by decide +kernel
theorem dX0_isMarked_15 : decode cX0_isMarked 15 = .ok (.ifCond .eq 30, 3) := by decide +kernel
theorem dX0_isMarked_18 : decode cX0_isMarked 18 = .ok (.aload_n 0, 1) := by decide +kernel
theorem dX0_isMarked_19 : decode cX0_isMarked 19 = .ok (.iload_n 2, 1) := by decide +kernel
theorem dX0_isMarked_20 : decode cX0_isMarked 20 = .ok (.iload_n 3, 1) := by decide +kernel
theorem dX0_isMarked_21 : decode cX0_isMarked 21 = .ok (.invokevirtual 56, 3) := by decide +kernel
theorem dX0_isMarked_24 : decode cX0_isMarked 24 = .ok (.ifCond .eq 21, 3) := by decide +kernel
theorem dX0_isMarked_27 : decode cX0_isMarked 27 = .ok (.aload_n 0, 1) := by decide +kernel
theorem dX0_isMarked_28 : decode cX0_isMarked 28 = .ok (.getfield 21, 3) := by decide +kernel
theorem dX0_isMarked_31 : decode cX0_isMarked 31 = .ok (.iload_n 2, 1) := by decide +kernel
theorem dX0_isMarked_32 : decode cX0_isMarked 32 = .ok (.iaload, 1) := by decide +kernel
theorem dX0_isMarked_33 : decode cX0_isMarked 33 = .ok (.iload_n 3, 1) := by decide +kernel
theorem dX0_isMarked_34 : decode cX0_isMarked 34 = .ok (.iushr, 1) := by decide +kernel
theorem dX0_isMarked_35 : decode cX0_isMarked 35 = .ok (.iconst 1, 1) := by decide +kernel
theorem dX0_isMarked_36 : decode cX0_isMarked 36 = .ok (.iand, 1) := by decide +kernel
theorem dX0_isMarked_37 : decode cX0_isMarked 37 = .ok (.iconst 1, 1) := by decide +kernel
theorem dX0_isMarked_38 : decode cX0_isMarked 38 = .ok (.if_icmp .ne 7, 3) := by decide +kernel
theorem dX0_isMarked_41 : decode cX0_isMarked 41 = .ok (.iconst 1, 1) := by decide +kernel
theorem dX0_isMarked_42 : decode cX0_isMarked 42 = .ok (.goto 4, 3) := by decide +kernel
theorem dX0_isMarked_45 : decode cX0_isMarked 45 = .ok (.iconst 0, 1) := by decide +kernel
theorem dX0_isMarked_46 : decode cX0_isMarked 46 = .ok (.ireturn, 1) := by decide +kernel
set_option maxRecDepth 20000 in
theorem ggX0_mark_X0_pageOf : GoodIn wsX0_mark wsX0_pageOf := goodIn_r _ [5] (by decide +kernel) (by decide +kernel)
set_option maxRecDepth 20000 in
theorem gX0_mark_X0_pageOf : GoodIn wsX0_mark (va_wsS RX0 60 yX0_pageOf wsX0_pageOf) := goodIn_app (goodIn_of _ (by decide +kernel)) ggX0_mark_X0_pageOf
set_option maxRecDepth 20000 in
theorem ggX0_mark_X2_isPage : GoodIn wsX0_mark wsX2_isPage := goodIn_r _ [8] (by decide +kernel) (by decide +kernel)
set_option maxRecDepth 20000 in
theorem gX0_mark_X2_isPage_n30 : GoodIn wsX0_mark (wsX2_isPage) := ggX0_mark_X2_isPage
set_option maxRecDepth 20000 in
theorem ggX0_mark_X0_isLive : GoodIn wsX0_mark wsX0_isLive := goodIn_r _ [12, 2, 3, 4, 5, 13, 14, 15, 16, 17, 18, 19, 20, 21, 22, 23, 24, 25, 26, 27, 28, 29, 30, 35, 36, 37, 38] (by decide +kernel) (by decide +kernel)
set_option maxRecDepth 20000 in
theorem gX0_mark_X0_isLive : GoodIn wsX0_mark (wsV RX0 98 RX0 yX0_isLive wsX0_isLive) := goodIn_app (goodIn_of _ (by decide +kernel)) ggX0_mark_X0_isLive
set_option maxRecDepth 20000 in
theorem ggX0_mark_X0_isMarked : GoodIn wsX0_mark wsX0_isMarked := goodIn_r _ [34, 1, 2, 3, 4, 5, 13, 14, 15, 16, 17, 18, 19, 20, 21, 22, 23, 24, 25, 6, 7, 8, 26, 27, 28, 29, 30, 35, 36, 37, 38] (by decide +kernel) (by decide +kernel)
set_option maxRecDepth 20000 in
theorem gX0_mark_X0_isMarked : GoodIn wsX0_mark (wsV RX0 101 RX0 yX0_isMarked wsX0_isMarked) := goodIn_app (goodIn_of _ (by decide +kernel)) ggX0_mark_X0_isMarked
set_option maxRecDepth 20000 in
theorem ggX0_mark_X0_slotAt : GoodIn wsX0_mark wsX0_slotAt := goodIn_r _ [16, 2, 3, 4, 5, 17, 18, 19, 20, 21, 22, 23, 24, 25, 35, 36, 37, 38] (by decide +kernel) (by decide +kernel)
set_option maxRecDepth 20000 in
theorem gX0_mark_X0_slotAt : GoodIn wsX0_mark (wsV RX0 63 RX0 yX0_slotAt wsX0_slotAt) := goodIn_app (goodIn_of _ (by decide +kernel)) ggX0_mark_X0_slotAt
theorem dX0_mark_0 : decode cX0_mark 0 = .ok (.iload_n 1, 1) := by decide +kernel
theorem dX0_mark_1 : decode cX0_mark 1 = .ok (.invokestatic 60, 3) := by decide +kernel
theorem dX0_mark_4 : decode cX0_mark 4 = .ok (.istore_n 2, 1) := by decide +kernel
theorem dX0_mark_5 : decode cX0_mark 5 = .ok (.iload_n 2, 1) := by decide +kernel
theorem dX0_mark_6 : decode cX0_mark 6 = .ok (.invokestatic 30, 3) := by decide +kernel
theorem dX0_mark_9 : decode cX0_mark 9 = .ok (.ifCond .eq 19, 3) := by decide +kernel
theorem dX0_mark_12 : decode cX0_mark 12 = .ok (.aload_n 0, 1) := by decide +kernel
theorem dX0_mark_13 : decode cX0_mark 13 = .ok (.iload_n 1, 1) := by decide +kernel
theorem dX0_mark_14 : decode cX0_mark 14 = .ok (.invokevirtual 98, 3) := by decide +kernel
theorem dX0_mark_17 : decode cX0_mark 17 = .ok (.ifCond .eq 11, 3) := by decide +kernel
theorem dX0_mark_20 : decode cX0_mark 20 = .ok (.aload_n 0, 1) := by decide +kernel
theorem dX0_mark_21 : decode cX0_mark 21 = .ok (.iload_n 1, 1) := by decide +kernel
theorem dX0_mark_22 : decode cX0_mark 22 = .ok (.invokevirtual 101, 3) := by decide +kernel
theorem dX0_mark_25 : decode cX0_mark 25 = .ok (.ifCond .eq 5, 3) := by decide +kernel
theorem dX0_mark_28 : decode cX0_mark 28 = .ok (.iconst 0, 1) := by decide +kernel
theorem dX0_mark_29 : decode cX0_mark 29 = .ok (.ireturn, 1) := by decide +kernel
theorem dX0_mark_30 : decode cX0_mark 30 = .ok (.aload_n 0, 1) := by decide +kernel
theorem dX0_mark_31 : decode cX0_mark 31 = .ok (.getfield 21, 3) := by decide +kernel
theorem dX0_mark_34 : decode cX0_mark 34 = .ok (.iload_n 2, 1) := by decide +kernel
theorem dX0_mark_35 : decode cX0_mark 35 = .ok (.dup2, 1) := by decide +kernel
theorem dX0_mark_36 : decode cX0_mark 36 = .ok (.iaload, 1) := by decide +kernel
theorem dX0_mark_37 : decode cX0_mark 37 = .ok (.iconst 1, 1) := by decide +kernel
theorem dX0_mark_38 : decode cX0_mark 38 = .ok (.aload_n 0, 1) := by decide +kernel
theorem dX0_mark_39 : decode cX0_mark 39 = .ok (.iload_n 1, 1) := by decide +kernel
theorem dX0_mark_40 : decode cX0_mark 40 = .ok (.invokevirtual 63, 3) := by decide +kernel
theorem dX0_mark_43 : decode cX0_mark 43 = .ok (.ishl, 1) := by decide +kernel
theorem dX0_mark_44 : decode cX0_mark 44 = .ok (.ior, 1) := by decide +kernel
theorem dX0_mark_45 : decode cX0_mark 45 = .ok (.iastore, 1) := by decide +kernel
theorem dX0_mark_46 : decode cX0_mark 46 = .ok (.iconst 1, 1) := by decide +kernel
theorem dX0_mark_47 : decode cX0_mark 47 = .ok (.ireturn, 1) := by decide +kernel
set_option maxRecDepth 20000 in
theorem ggX0_howMany_X0_kindOf : GoodIn wsX0_howMany wsX0_kindOf := goodIn_r _ [5, 6, 7, 8, 9, 10] (by decide +kernel) (by decide +kernel)
set_option maxRecDepth 20000 in
theorem gX0_howMany_X0_kindOf : GoodIn wsX0_howMany (wsV RX0 38 RX0 yX0_kindOf wsX0_kindOf) := goodIn_app (goodIn_of _ (by decide +kernel)) ggX0_howMany_X0_kindOf
theorem dX0_howMany_0 : decode cX0_howMany 0 = .ok (.iconst 0, 1) := by decide +kernel
theorem dX0_howMany_1 : decode cX0_howMany 1 = .ok (.istore_n 2, 1) := by decide +kernel
theorem dX0_howMany_2 : decode cX0_howMany 2 = .ok (.iconst 0, 1) := by decide +kernel
theorem dX0_howMany_3 : decode cX0_howMany 3 = .ok (.istore_n 3, 1) := by decide +kernel
theorem dX0_howMany_4 : decode cX0_howMany 4 = .ok (.iload_n 3, 1) := by decide +kernel
theorem dX0_howMany_5 : decode cX0_howMany 5 = .ok (.sipush 256, 3) := by decide +kernel
theorem dX0_howMany_8 : decode cX0_howMany 8 = .ok (.if_icmp .ge 21, 3) := by decide +kernel
theorem dX0_howMany_11 : decode cX0_howMany 11 = .ok (.aload_n 0, 1) := by decide +kernel
theorem dX0_howMany_12 : decode cX0_howMany 12 = .ok (.iload_n 3, 1) := by decide +kernel
theorem dX0_howMany_13 : decode cX0_howMany 13 = .ok (.invokevirtual 38, 3) := by decide +kernel
theorem dX0_howMany_16 : decode cX0_howMany 16 = .ok (.iload_n 1, 1) := by decide +kernel
theorem dX0_howMany_17 : decode cX0_howMany 17 = .ok (.if_icmp .ne 6, 3) := by decide +kernel
theorem dX0_howMany_20 : decode cX0_howMany 20 = .ok (.iinc 2 1, 3) := by decide +kernel
theorem dX0_howMany_23 : decode cX0_howMany 23 = .ok (.iinc 3 1, 3) := by decide +kernel
theorem dX0_howMany_26 : decode cX0_howMany 26 = .ok (.goto (-22), 3) := by decide +kernel
theorem dX0_howMany_29 : decode cX0_howMany 29 = .ok (.iload_n 2, 1) := by decide +kernel
theorem dX0_howMany_30 : decode cX0_howMany 30 = .ok (.ireturn, 1) := by decide +kernel
set_option maxRecDepth 20000 in
theorem ggX0_emptySlots_X0_slotsOf : GoodIn wsX0_emptySlots wsX0_slotsOf := goodIn_r _ [5, 6, 7, 8, 4, 9, 10, 11, 27, 28, 29, 30] (by decide +kernel) (by decide +kernel)
set_option maxRecDepth 20000 in
theorem gX0_emptySlots_X0_slotsOf : GoodIn wsX0_emptySlots (wsV RX0 104 RX0 yX0_slotsOf wsX0_slotsOf) := goodIn_app (goodIn_of _ (by decide +kernel)) ggX0_emptySlots_X0_slotsOf
set_option maxRecDepth 20000 in
theorem ggX0_emptySlots_X0_blocksOn : GoodIn wsX0_emptySlots wsX0_blocksOn := goodIn_r _ [15, 16, 17, 18, 19, 20, 21, 22, 23, 24, 25, 26, 27, 28, 29, 30] (by decide +kernel) (by decide +kernel)
set_option maxRecDepth 20000 in
theorem gX0_emptySlots_X0_blocksOn : GoodIn wsX0_emptySlots (wsV RX0 107 RX0 yX0_blocksOn wsX0_blocksOn) := goodIn_app (goodIn_of _ (by decide +kernel)) ggX0_emptySlots_X0_blocksOn
theorem dX0_emptySlots_0 : decode cX0_emptySlots 0 = .ok (.iconst 0, 1) := by decide +kernel
theorem dX0_emptySlots_1 : decode cX0_emptySlots 1 = .ok (.istore_n 1, 1) := by decide +kernel
theorem dX0_emptySlots_2 : decode cX0_emptySlots 2 = .ok (.iconst 0, 1) := by decide +kernel
theorem dX0_emptySlots_3 : decode cX0_emptySlots 3 = .ok (.istore_n 2, 1) := by decide +kernel
theorem dX0_emptySlots_4 : decode cX0_emptySlots 4 = .ok (.iload_n 2, 1) := by decide +kernel
theorem dX0_emptySlots_5 : decode cX0_emptySlots 5 = .ok (.sipush 256, 3) := by decide +kernel
theorem dX0_emptySlots_8 : decode cX0_emptySlots 8 = .ok (.if_icmp .ge 23, 3) := by decide +kernel
theorem dX0_emptySlots_11 : decode cX0_emptySlots 11 = .ok (.iload_n 1, 1) := by decide +kernel
theorem dX0_emptySlots_12 : decode cX0_emptySlots 12 = .ok (.aload_n 0, 1) := by decide +kernel
theorem dX0_emptySlots_13 : decode cX0_emptySlots 13 = .ok (.iload_n 2, 1) := by decide +kernel
theorem dX0_emptySlots_14 : decode cX0_emptySlots 14 = .ok (.invokevirtual 104, 3) := by decide +kernel
theorem dX0_emptySlots_17 : decode cX0_emptySlots 17 = .ok (.aload_n 0, 1) := by decide +kernel
theorem dX0_emptySlots_18 : decode cX0_emptySlots 18 = .ok (.iload_n 2, 1) := by decide +kernel
theorem dX0_emptySlots_19 : decode cX0_emptySlots 19 = .ok (.invokevirtual 107, 3) := by decide +kernel
theorem dX0_emptySlots_22 : decode cX0_emptySlots 22 = .ok (.isub, 1) := by decide +kernel
theorem dX0_emptySlots_23 : decode cX0_emptySlots 23 = .ok (.iadd, 1) := by decide +kernel
theorem dX0_emptySlots_24 : decode cX0_emptySlots 24 = .ok (.istore_n 1, 1) := by decide +kernel
theorem dX0_emptySlots_25 : decode cX0_emptySlots 25 = .ok (.iinc 2 1, 3) := by decide +kernel
theorem dX0_emptySlots_28 : decode cX0_emptySlots 28 = .ok (.goto (-24), 3) := by decide +kernel
theorem dX0_emptySlots_31 : decode cX0_emptySlots 31 = .ok (.iload_n 1, 1) := by decide +kernel
theorem dX0_emptySlots_32 : decode cX0_emptySlots 32 = .ok (.ireturn, 1) := by decide +kernel
set_option maxRecDepth 20000 in
theorem ggX0_freeExtents_X2_isOrder : GoodIn wsX0_freeExtents wsX2_isOrder := goodIn_r _ [3] (by decide +kernel) (by decide +kernel)
set_option maxRecDepth 20000 in
theorem gX0_freeExtents_X2_isOrder_n110 : GoodIn wsX0_freeExtents (wsX2_isOrder) := ggX0_freeExtents_X2_isOrder
set_option maxRecDepth 20000 in
theorem ggX0_freeExtents_X0_isFreeExtent : GoodIn wsX0_freeExtents wsX0_isFreeExtent := goodIn_r _ [8, 9, 10, 11, 7, 12, 1, 2, 3, 13, 14, 15, 16, 17, 18, 19, 20, 21, 22, 23, 24] (by decide +kernel) (by decide +kernel)
set_option maxRecDepth 20000 in
theorem gX0_freeExtents_X0_isFreeExtent : GoodIn wsX0_freeExtents (wsV RX0 113 RX0 yX0_isFreeExtent wsX0_isFreeExtent) := goodIn_app (goodIn_of _ (by decide +kernel)) ggX0_freeExtents_X0_isFreeExtent
theorem dX0_freeExtents_0 : decode cX0_freeExtents 0 = .ok (.iload_n 1, 1) := by decide +kernel
theorem dX0_freeExtents_1 : decode cX0_freeExtents 1 = .ok (.invokestatic 110, 3) := by decide +kernel
theorem dX0_freeExtents_4 : decode cX0_freeExtents 4 = .ok (.ifCond .ne 5, 3) := by decide +kernel
theorem dX0_freeExtents_7 : decode cX0_freeExtents 7 = .ok (.iconst (-1), 1) := by decide +kernel
theorem dX0_freeExtents_8 : decode cX0_freeExtents 8 = .ok (.ireturn, 1) := by decide +kernel
theorem dX0_freeExtents_9 : decode cX0_freeExtents 9 = .ok (.iconst 0, 1) := by decide +kernel
theorem dX0_freeExtents_10 : decode cX0_freeExtents 10 = .ok (.istore_n 2, 1) := by decide +kernel
theorem dX0_freeExtents_11 : decode cX0_freeExtents 11 = .ok (.iconst 0, 1) := by decide +kernel
theorem dX0_freeExtents_12 : decode cX0_freeExtents 12 = .ok (.istore_n 3, 1) := by decide +kernel
theorem dX0_freeExtents_13 : decode cX0_freeExtents 13 = .ok (.iload_n 3, 1) := by decide +kernel
theorem dX0_freeExtents_14 : decode cX0_freeExtents 14 = .ok (.sipush 256, 3) := by decide +kernel
theorem dX0_freeExtents_17 : decode cX0_freeExtents 17 = .ok (.if_icmp .ge 24, 3) := by decide +kernel
theorem dX0_freeExtents_20 : decode cX0_freeExtents 20 = .ok (.aload_n 0, 1) := by decide +kernel
theorem dX0_freeExtents_21 : decode cX0_freeExtents 21 = .ok (.iload_n 3, 1) := by decide +kernel
theorem dX0_freeExtents_22 : decode cX0_freeExtents 22 = .ok (.iload_n 1, 1) := by decide +kernel
theorem dX0_freeExtents_23 : decode cX0_freeExtents 23 = .ok (.invokevirtual 113, 3) := by decide +kernel
theorem dX0_freeExtents_26 : decode cX0_freeExtents 26 = .ok (.ifCond .eq 6, 3) := by decide +kernel
theorem dX0_freeExtents_29 : decode cX0_freeExtents 29 = .ok (.iinc 2 1, 3) := by decide +kernel
theorem dX0_freeExtents_32 : decode cX0_freeExtents 32 = .ok (.iload_n 3, 1) := by decide +kernel
theorem dX0_freeExtents_33 : decode cX0_freeExtents 33 = .ok (.iconst 1, 1) := by decide +kernel
theorem dX0_freeExtents_34 : decode cX0_freeExtents 34 = .ok (.iload_n 1, 1) := by decide +kernel
theorem dX0_freeExtents_35 : decode cX0_freeExtents 35 = .ok (.ishl, 1) := by decide +kernel
theorem dX0_freeExtents_36 : decode cX0_freeExtents 36 = .ok (.iadd, 1) := by decide +kernel
theorem dX0_freeExtents_37 : decode cX0_freeExtents 37 = .ok (.istore_n 3, 1) := by decide +kernel
theorem dX0_freeExtents_38 : decode cX0_freeExtents 38 = .ok (.goto (-25), 3) := by decide +kernel
theorem dX0_freeExtents_41 : decode cX0_freeExtents 41 = .ok (.iload_n 2, 1) := by decide +kernel
theorem dX0_freeExtents_42 : decode cX0_freeExtents 42 = .ok (.ireturn, 1) := by decide +kernel
set_option maxRecDepth 20000 in
theorem ggX0_extentFor_X2_isOrder : GoodIn wsX0_extentFor wsX2_isOrder := goodIn_r _ [3] (by decide +kernel) (by decide +kernel)
set_option maxRecDepth 20000 in
theorem gX0_extentFor_X2_isOrder_n110 : GoodIn wsX0_extentFor (wsX2_isOrder) := ggX0_extentFor_X2_isOrder
set_option maxRecDepth 20000 in
theorem ggX0_extentFor_X0_isFreeExtent : GoodIn wsX0_extentFor wsX0_isFreeExtent := goodIn_r _ [8, 9, 10, 11, 7, 12, 1, 2, 3, 13, 14, 15, 16, 17, 18, 19, 20, 21, 22, 23, 24] (by decide +kernel) (by decide +kernel)
set_option maxRecDepth 20000 in
theorem gX0_extentFor_X0_isFreeExtent : GoodIn wsX0_extentFor (wsV RX0 113 RX0 yX0_isFreeExtent wsX0_isFreeExtent) := goodIn_app (goodIn_of _ (by decide +kernel)) ggX0_extentFor_X0_isFreeExtent
theorem dX0_extentFor_0 : decode cX0_extentFor 0 = .ok (.iload_n 1, 1) := by decide +kernel
theorem dX0_extentFor_1 : decode cX0_extentFor 1 = .ok (.invokestatic 110, 3) := by decide +kernel
theorem dX0_extentFor_4 : decode cX0_extentFor 4 = .ok (.ifCond .ne 5, 3) := by decide +kernel
theorem dX0_extentFor_7 : decode cX0_extentFor 7 = .ok (.iconst (-1), 1) := by decide +kernel
theorem dX0_extentFor_8 : decode cX0_extentFor 8 = .ok (.ireturn, 1) := by decide +kernel
theorem dX0_extentFor_9 : decode cX0_extentFor 9 = .ok (.iload_n 1, 1) := by decide +kernel
theorem dX0_extentFor_10 : decode cX0_extentFor 10 = .ok (.istore_n 2, 1) := by decide +kernel
theorem dX0_extentFor_11 : decode cX0_extentFor 11 = .ok (.iload_n 2, 1) := by decide +kernel
theorem dX0_extentFor_12 : decode cX0_extentFor 12 = .ok (.bipush 8, 2) := by decide +kernel
theorem dX0_extentFor_14 : decode cX0_extentFor 14 = .ok (.if_icmp .gt 38, 3) := by decide +kernel
theorem dX0_extentFor_17 : decode cX0_extentFor 17 = .ok (.iconst 0, 1) := by decide +kernel
theorem dX0_extentFor_18 : decode cX0_extentFor 18 = .ok (.istore_n 3, 1) := by decide +kernel
theorem dX0_extentFor_19 : decode cX0_extentFor 19 = .ok (.iload_n 3, 1) := by decide +kernel
theorem dX0_extentFor_20 : decode cX0_extentFor 20 = .ok (.sipush 256, 3) := by decide +kernel
theorem dX0_extentFor_23 : decode cX0_extentFor 23 = .ok (.if_icmp .ge 23, 3) := by decide +kernel
theorem dX0_extentFor_26 : decode cX0_extentFor 26 = .ok (.aload_n 0, 1) := by decide +kernel
theorem dX0_extentFor_27 : decode cX0_extentFor 27 = .ok (.iload_n 3, 1) := by decide +kernel
theorem dX0_extentFor_28 : decode cX0_extentFor 28 = .ok (.iload_n 2, 1) := by decide +kernel
theorem dX0_extentFor_29 : decode cX0_extentFor 29 = .ok (.invokevirtual 113, 3) := by decide +kernel
theorem dX0_extentFor_32 : decode cX0_extentFor 32 = .ok (.ifCond .eq 5, 3) := by decide +kernel
theorem dX0_extentFor_35 : decode cX0_extentFor 35 = .ok (.iload_n 3, 1) := by decide +kernel
theorem dX0_extentFor_36 : decode cX0_extentFor 36 = .ok (.ireturn, 1) := by decide +kernel
theorem dX0_extentFor_37 : decode cX0_extentFor 37 = .ok (.iload_n 3, 1) := by decide +kernel
theorem dX0_extentFor_38 : decode cX0_extentFor 38 = .ok (.iconst 1, 1) := by decide +kernel
theorem dX0_extentFor_39 : decode cX0_extentFor 39 = .ok (.iload_n 2, 1) := by decide +kernel
theorem dX0_extentFor_40 : decode cX0_extentFor 40 = .ok (.ishl, 1) := by decide +kernel
theorem dX0_extentFor_41 : decode cX0_extentFor 41 = .ok (.iadd, 1) := by decide +kernel
theorem dX0_extentFor_42 : decode cX0_extentFor 42 = .ok (.istore_n 3, 1) := by decide +kernel
theorem dX0_extentFor_43 : decode cX0_extentFor 43 = .ok (.goto (-24), 3) := by decide +kernel
theorem dX0_extentFor_46 : decode cX0_extentFor 46 = .ok (.iinc 2 1, 3) := by decide +kernel
theorem dX0_extentFor_49 : decode cX0_extentFor 49 = .ok (.goto (-38), 3) := by decide +kernel
theorem dX0_extentFor_52 : decode cX0_extentFor 52 = .ok (.iconst (-1), 1) := by decide +kernel
theorem dX0_extentFor_53 : decode cX0_extentFor 53 = .ok (.ireturn, 1) := by decide +kernel
theorem dX0_pageOf_0 : decode cX0_pageOf 0 = .ok (.iload_n 0, 1) := by decide +kernel
theorem dX0_pageOf_1 : decode cX0_pageOf 1 = .ok (.ifCond .lt 17, 3) := by decide +kernel
theorem dX0_pageOf_4 : decode cX0_pageOf 4 = .ok (.iload_n 0, 1) := by decide +kernel
theorem dX0_pageOf_5 : decode cX0_pageOf 5 = .ok (.sipush 4096, 3) := by decide +kernel
theorem dX0_pageOf_8 : decode cX0_pageOf 8 = .ok (.if_icmp .ge 10, 3) := by decide +kernel
theorem dX0_pageOf_11 : decode cX0_pageOf 11 = .ok (.iload_n 0, 1) := by decide +kernel
theorem dX0_pageOf_12 : decode cX0_pageOf 12 = .ok (.bipush 16, 2) := by decide +kernel
theorem dX0_pageOf_14 : decode cX0_pageOf 14 = .ok (.idiv, 1) := by decide +kernel
theorem dX0_pageOf_15 : decode cX0_pageOf 15 = .ok (.goto 4, 3) := by decide +kernel
theorem dX0_pageOf_18 : decode cX0_pageOf 18 = .ok (.iconst (-1), 1) := by decide +kernel
theorem dX0_pageOf_19 : decode cX0_pageOf 19 = .ok (.ireturn, 1) := by decide +kernel
set_option maxRecDepth 20000 in
theorem ggX0_alignedTo_X2_isOrder : GoodIn wsX0_alignedTo wsX2_isOrder := goodIn_r _ [3] (by decide +kernel) (by decide +kernel)
set_option maxRecDepth 20000 in
theorem gX0_alignedTo_X2_isOrder_n110 : GoodIn wsX0_alignedTo (wsX2_isOrder) := ggX0_alignedTo_X2_isOrder
theorem dX0_alignedTo_0 : decode cX0_alignedTo 0 = .ok (.iload_n 1, 1) := by decide +kernel
theorem dX0_alignedTo_1 : decode cX0_alignedTo 1 = .ok (.invokestatic 110, 3) := by decide +kernel
theorem dX0_alignedTo_4 : decode cX0_alignedTo 4 = .ok (.ifCond .eq 11, 3) := by decide +kernel
theorem dX0_alignedTo_7 : decode cX0_alignedTo 7 = .ok (.iload_n 0, 1) := by decide +kernel
theorem dX0_alignedTo_8 : decode cX0_alignedTo 8 = .ok (.iload_n 1, 1) := by decide +kernel
theorem dX0_alignedTo_9 : decode cX0_alignedTo 9 = .ok (.ishr, 1) := by decide +kernel
theorem dX0_alignedTo_10 : decode cX0_alignedTo 10 = .ok (.iload_n 1, 1) := by decide +kernel
theorem dX0_alignedTo_11 : decode cX0_alignedTo 11 = .ok (.ishl, 1) := by decide +kernel
theorem dX0_alignedTo_12 : decode cX0_alignedTo 12 = .ok (.goto 4, 3) := by decide +kernel
theorem dX0_alignedTo_15 : decode cX0_alignedTo 15 = .ok (.iload_n 0, 1) := by decide +kernel
theorem dX0_alignedTo_16 : decode cX0_alignedTo 16 = .ok (.ireturn, 1) := by decide +kernel
theorem dX0_slotBy_0 : decode cX0_slotBy 0 = .ok (.iload_n 0, 1) := by decide +kernel
theorem dX0_slotBy_1 : decode cX0_slotBy 1 = .ok (.ifCond .le 13, 3) := by decide +kernel
theorem dX0_slotBy_4 : decode cX0_slotBy 4 = .ok (.iload_n 1, 1) := by decide +kernel
theorem dX0_slotBy_5 : decode cX0_slotBy 5 = .ok (.ifCond .lt 9, 3) := by decide +kernel
theorem dX0_slotBy_8 : decode cX0_slotBy 8 = .ok (.iload_n 1, 1) := by decide +kernel
theorem dX0_slotBy_9 : decode cX0_slotBy 9 = .ok (.iload_n 0, 1) := by decide +kernel
theorem dX0_slotBy_10 : decode cX0_slotBy 10 = .ok (.irem, 1) := by decide +kernel
theorem dX0_slotBy_11 : decode cX0_slotBy 11 = .ok (.ifCond .eq 5, 3) := by decide +kernel
theorem dX0_slotBy_14 : decode cX0_slotBy 14 = .ok (.iconst (-1), 1) := by decide +kernel
theorem dX0_slotBy_15 : decode cX0_slotBy 15 = .ok (.ireturn, 1) := by decide +kernel
theorem dX0_slotBy_16 : decode cX0_slotBy 16 = .ok (.iload_n 1, 1) := by decide +kernel
theorem dX0_slotBy_17 : decode cX0_slotBy 17 = .ok (.iload_n 0, 1) := by decide +kernel
theorem dX0_slotBy_18 : decode cX0_slotBy 18 = .ok (.idiv, 1) := by decide +kernel
theorem dX0_slotBy_19 : decode cX0_slotBy 19 = .ok (.istore_n 2, 1) := by decide +kernel
theorem dX0_slotBy_20 : decode cX0_slotBy 20 = .ok (.iload_n 2, 1) := by decide +kernel
theorem dX0_slotBy_21 : decode cX0_slotBy 21 = .ok (.bipush 16, 2) := by decide +kernel
theorem dX0_slotBy_23 : decode cX0_slotBy 23 = .ok (.iload_n 0, 1) := by decide +kernel
theorem dX0_slotBy_24 : decode cX0_slotBy 24 = .ok (.idiv, 1) := by decide +kernel
theorem dX0_slotBy_25 : decode cX0_slotBy 25 = .ok (.if_icmp .ge 7, 3) := by decide +kernel
theorem dX0_slotBy_28 : decode cX0_slotBy 28 = .ok (.iload_n 2, 1) := by decide +kernel
theorem dX0_slotBy_29 : decode cX0_slotBy 29 = .ok (.goto 4, 3) := by decide +kernel
theorem dX0_slotBy_32 : decode cX0_slotBy 32 = .ok (.iconst (-1), 1) := by decide +kernel
theorem dX0_slotBy_33 : decode cX0_slotBy 33 = .ok (.ireturn, 1) := by decide +kernel
theorem dX0_stepOf_0 : decode cX0_stepOf 0 = .ok (.iload_n 1, 1) := by decide +kernel
theorem dX0_stepOf_1 : decode cX0_stepOf 1 = .ok (.ifCond .lt 10, 3) := by decide +kernel
theorem dX0_stepOf_4 : decode cX0_stepOf 4 = .ok (.iload_n 1, 1) := by decide +kernel
theorem dX0_stepOf_5 : decode cX0_stepOf 5 = .ok (.sipush 256, 3) := by decide +kernel
theorem dX0_stepOf_8 : decode cX0_stepOf 8 = .ok (.if_icmp .lt 5, 3) := by decide +kernel
theorem dX0_stepOf_11 : decode cX0_stepOf 11 = .ok (.iconst 0, 1) := by decide +kernel
theorem dX0_stepOf_12 : decode cX0_stepOf 12 = .ok (.ireturn, 1) := by decide +kernel
theorem dX0_stepOf_13 : decode cX0_stepOf 13 = .ok (.aload_n 0, 1) := by decide +kernel
theorem dX0_stepOf_14 : decode cX0_stepOf 14 = .ok (.getfield 9, 3) := by decide +kernel
theorem dX0_stepOf_17 : decode cX0_stepOf 17 = .ok (.iload_n 1, 1) := by decide +kernel
theorem dX0_stepOf_18 : decode cX0_stepOf 18 = .ok (.iaload, 1) := by decide +kernel
theorem dX0_stepOf_19 : decode cX0_stepOf 19 = .ok (.iconst 1, 1) := by decide +kernel
theorem dX0_stepOf_20 : decode cX0_stepOf 20 = .ok (.if_icmp .ne 12, 3) := by decide +kernel
theorem dX0_stepOf_23 : decode cX0_stepOf 23 = .ok (.aload_n 0, 1) := by decide +kernel
theorem dX0_stepOf_24 : decode cX0_stepOf 24 = .ok (.getfield 15, 3) := by decide +kernel
theorem dX0_stepOf_27 : decode cX0_stepOf 27 = .ok (.iload_n 1, 1) := by decide +kernel
theorem dX0_stepOf_28 : decode cX0_stepOf 28 = .ok (.iaload, 1) := by decide +kernel
theorem dX0_stepOf_29 : decode cX0_stepOf 29 = .ok (.goto 19, 3) := by decide +kernel
theorem dX0_stepOf_32 : decode cX0_stepOf 32 = .ok (.aload_n 0, 1) := by decide +kernel
theorem dX0_stepOf_33 : decode cX0_stepOf 33 = .ok (.getfield 9, 3) := by decide +kernel
theorem dX0_stepOf_36 : decode cX0_stepOf 36 = .ok (.iload_n 1, 1) := by decide +kernel
theorem dX0_stepOf_37 : decode cX0_stepOf 37 = .ok (.iaload, 1) := by decide +kernel
theorem dX0_stepOf_38 : decode cX0_stepOf 38 = .ok (.iconst 2, 1) := by decide +kernel
theorem dX0_stepOf_39 : decode cX0_stepOf 39 = .ok (.if_icmp .ne 8, 3) := by decide +kernel
theorem dX0_stepOf_42 : decode cX0_stepOf 42 = .ok (.bipush 16, 2) := by decide +kernel
theorem dX0_stepOf_44 : decode cX0_stepOf 44 = .ok (.goto 4, 3) := by decide +kernel
theorem dX0_stepOf_47 : decode cX0_stepOf 47 = .ok (.iconst 0, 1) := by decide +kernel
theorem dX0_stepOf_48 : decode cX0_stepOf 48 = .ok (.ireturn, 1) := by decide +kernel
set_option maxRecDepth 20000 in
theorem ggX0_slotAt_X0_pageOf : GoodIn wsX0_slotAt wsX0_pageOf := goodIn_r _ [4] (by decide +kernel) (by decide +kernel)
set_option maxRecDepth 20000 in
theorem gX0_slotAt_X0_pageOf : GoodIn wsX0_slotAt (va_wsS RX0 60 yX0_pageOf wsX0_pageOf) := goodIn_app (goodIn_of _ (by decide +kernel)) ggX0_slotAt_X0_pageOf
set_option maxRecDepth 20000 in
theorem ggX0_slotAt_X0_stepOf : GoodIn wsX0_slotAt wsX0_stepOf := goodIn_r _ [8, 9, 10, 14, 15, 16, 17] (by decide +kernel) (by decide +kernel)
set_option maxRecDepth 20000 in
theorem gX0_slotAt_X0_stepOf : GoodIn wsX0_slotAt (wsV RX0 53 RX0 yX0_stepOf wsX0_stepOf) := goodIn_app (goodIn_of _ (by decide +kernel)) ggX0_slotAt_X0_stepOf
set_option maxRecDepth 20000 in
theorem ggX0_slotAt_X0_slotBy : GoodIn wsX0_slotAt wsX0_slotBy := goodIn_r _ [13] (by decide +kernel) (by decide +kernel)
set_option maxRecDepth 20000 in
theorem gX0_slotAt_X0_slotBy : GoodIn wsX0_slotAt (va_wsS RX0 81 yX0_slotBy wsX0_slotBy) := goodIn_app (goodIn_of _ (by decide +kernel)) ggX0_slotAt_X0_slotBy
theorem dX0_slotAt_0 : decode cX0_slotAt 0 = .ok (.aload_n 0, 1) := by decide +kernel
theorem dX0_slotAt_1 : decode cX0_slotAt 1 = .ok (.iload_n 1, 1) := by decide +kernel
theorem dX0_slotAt_2 : decode cX0_slotAt 2 = .ok (.invokestatic 60, 3) := by decide +kernel
theorem dX0_slotAt_5 : decode cX0_slotAt 5 = .ok (.invokevirtual 53, 3) := by decide +kernel
theorem dX0_slotAt_8 : decode cX0_slotAt 8 = .ok (.iload_n 1, 1) := by decide +kernel
theorem dX0_slotAt_9 : decode cX0_slotAt 9 = .ok (.bipush 16, 2) := by decide +kernel
theorem dX0_slotAt_11 : decode cX0_slotAt 11 = .ok (.irem, 1) := by decide +kernel
theorem dX0_slotAt_12 : decode cX0_slotAt 12 = .ok (.invokestatic 81, 3) := by decide +kernel
theorem dX0_slotAt_15 : decode cX0_slotAt 15 = .ok (.ireturn, 1) := by decide +kernel
theorem dX0_isTaken_0 : decode cX0_isTaken 0 = .ok (.iload_n 1, 1) := by decide +kernel
theorem dX0_isTaken_1 : decode cX0_isTaken 1 = .ok (.ifCond .lt 32, 3) := by decide +kernel
theorem dX0_isTaken_4 : decode cX0_isTaken 4 = .ok (.iload_n 1, 1) := by decide +kernel
theorem dX0_isTaken_5 : decode cX0_isTaken 5 = .ok (.sipush 256, 3) := by decide +kernel
theorem dX0_isTaken_8 : decode cX0_isTaken 8 = .ok (.if_icmp .ge 25, 3) := by decide +kernel
theorem dX0_isTaken_11 : decode cX0_isTaken 11 = .ok (.iload_n 2, 1) := by decide +kernel
theorem dX0_isTaken_12 : decode cX0_isTaken 12 = .ok (.ifCond .lt 21, 3) := by decide +kernel
theorem dX0_isTaken_15 : decode cX0_isTaken 15 = .ok (.aload_n 0, 1) := by decide +kernel
theorem dX0_isTaken_16 : decode cX0_isTaken 16 = .ok (.getfield 18, 3) := by decide +kernel
theorem dX0_isTaken_19 : decode cX0_isTaken 19 = .ok (.iload_n 1, 1) := by decide +kernel
theorem dX0_isTaken_20 : decode cX0_isTaken 20 = .ok (.iaload, 1) := by decide +kernel
theorem dX0_isTaken_21 : decode cX0_isTaken 21 = .ok (.iload_n 2, 1) := by decide +kernel
theorem dX0_isTaken_22 : decode cX0_isTaken 22 = .ok (.iushr, 1) := by decide +kernel
theorem dX0_isTaken_23 : decode cX0_isTaken 23 = .ok (.iconst 1, 1) := by decide +kernel
theorem dX0_isTaken_24 : decode cX0_isTaken 24 = .ok (.iand, 1) := by decide +kernel
theorem dX0_isTaken_25 : decode cX0_isTaken 25 = .ok (.iconst 1, 1) := by decide +kernel
theorem dX0_isTaken_26 : decode cX0_isTaken 26 = .ok (.if_icmp .ne 7, 3) := by decide +kernel
theorem dX0_isTaken_29 : decode cX0_isTaken 29 = .ok (.iconst 1, 1) := by decide +kernel
theorem dX0_isTaken_30 : decode cX0_isTaken 30 = .ok (.goto 4, 3) := by decide +kernel
theorem dX0_isTaken_33 : decode cX0_isTaken 33 = .ok (.iconst 0, 1) := by decide +kernel
theorem dX0_isTaken_34 : decode cX0_isTaken 34 = .ok (.ireturn, 1) := by decide +kernel
set_option maxRecDepth 20000 in
theorem ggX0_isSlabOf_X2_isPage : GoodIn wsX0_isSlabOf wsX2_isPage := goodIn_r _ [5] (by decide +kernel) (by decide +kernel)
set_option maxRecDepth 20000 in
theorem gX0_isSlabOf_X2_isPage_n30 : GoodIn wsX0_isSlabOf (wsX2_isPage) := ggX0_isSlabOf_X2_isPage
theorem dX0_isSlabOf_0 : decode cX0_isSlabOf 0 = .ok (.iload_n 1, 1) := by decide +kernel
theorem dX0_isSlabOf_1 : decode cX0_isSlabOf 1 = .ok (.invokestatic 30, 3) := by decide +kernel
theorem dX0_isSlabOf_4 : decode cX0_isSlabOf 4 = .ok (.ifCond .eq 27, 3) := by decide +kernel
theorem dX0_isSlabOf_7 : decode cX0_isSlabOf 7 = .ok (.aload_n 0, 1) := by decide +kernel
theorem dX0_isSlabOf_8 : decode cX0_isSlabOf 8 = .ok (.getfield 9, 3) := by decide +kernel
theorem dX0_isSlabOf_11 : decode cX0_isSlabOf 11 = .ok (.iload_n 1, 1) := by decide +kernel
theorem dX0_isSlabOf_12 : decode cX0_isSlabOf 12 = .ok (.iaload, 1) := by decide +kernel
theorem dX0_isSlabOf_13 : decode cX0_isSlabOf 13 = .ok (.iconst 1, 1) := by decide +kernel
theorem dX0_isSlabOf_14 : decode cX0_isSlabOf 14 = .ok (.if_icmp .ne 17, 3) := by decide +kernel
theorem dX0_isSlabOf_17 : decode cX0_isSlabOf 17 = .ok (.aload_n 0, 1) := by decide +kernel
theorem dX0_isSlabOf_18 : decode cX0_isSlabOf 18 = .ok (.getfield 15, 3) := by decide +kernel
theorem dX0_isSlabOf_21 : decode cX0_isSlabOf 21 = .ok (.iload_n 1, 1) := by decide +kernel
theorem dX0_isSlabOf_22 : decode cX0_isSlabOf 22 = .ok (.iaload, 1) := by decide +kernel
theorem dX0_isSlabOf_23 : decode cX0_isSlabOf 23 = .ok (.iload_n 2, 1) := by decide +kernel
theorem dX0_isSlabOf_24 : decode cX0_isSlabOf 24 = .ok (.if_icmp .ne 7, 3) := by decide +kernel
theorem dX0_isSlabOf_27 : decode cX0_isSlabOf 27 = .ok (.iconst 1, 1) := by decide +kernel
theorem dX0_isSlabOf_28 : decode cX0_isSlabOf 28 = .ok (.goto 4, 3) := by decide +kernel
theorem dX0_isSlabOf_31 : decode cX0_isSlabOf 31 = .ok (.iconst 0, 1) := by decide +kernel
theorem dX0_isSlabOf_32 : decode cX0_isSlabOf 32 = .ok (.ireturn, 1) := by decide +kernel
set_option maxRecDepth 20000 in
theorem ggX0_emptySlot_X0_isSlabOf : GoodIn wsX0_emptySlot wsX0_isSlabOf := goodIn_r _ [5, 6, 7, 8, 9, 10, 24, 25, 26, 27] (by decide +kernel) (by decide +kernel)
set_option maxRecDepth 20000 in
theorem gX0_emptySlot_X0_isSlabOf : GoodIn wsX0_emptySlot (wsV RX0 84 RX0 yX0_isSlabOf wsX0_isSlabOf) := goodIn_app (goodIn_of _ (by decide +kernel)) ggX0_emptySlot_X0_isSlabOf
set_option maxRecDepth 20000 in
theorem ggX0_emptySlot_X0_slotsOf : GoodIn wsX0_emptySlot wsX0_slotsOf := goodIn_r _ [14, 15, 16, 17, 4, 18, 6, 7, 24, 25, 26, 27] (by decide +kernel) (by decide +kernel)
set_option maxRecDepth 20000 in
theorem gX0_emptySlot_X0_slotsOf : GoodIn wsX0_emptySlot (wsV RX0 104 RX0 yX0_slotsOf wsX0_slotsOf) := goodIn_app (goodIn_of _ (by decide +kernel)) ggX0_emptySlot_X0_slotsOf
set_option maxRecDepth 20000 in
theorem ggX0_emptySlot_X0_isTaken : GoodIn wsX0_emptySlot wsX0_isTaken := goodIn_r _ [22, 23, 24, 25, 26, 27] (by decide +kernel) (by decide +kernel)
set_option maxRecDepth 20000 in
theorem gX0_emptySlot_X0_isTaken : GoodIn wsX0_emptySlot (wsV RX0 56 RX0 yX0_isTaken wsX0_isTaken) := goodIn_app (goodIn_of _ (by decide +kernel)) ggX0_emptySlot_X0_isTaken
theorem dX0_emptySlot_0 : decode cX0_emptySlot 0 = .ok (.iconst 1, 1) := by decide +kernel
theorem dX0_emptySlot_1 : decode cX0_emptySlot 1 = .ok (.istore_n 2, 1) := by decide +kernel
theorem dX0_emptySlot_2 : decode cX0_emptySlot 2 = .ok (.iload_n 2, 1) := by decide +kernel
theorem dX0_emptySlot_3 : decode cX0_emptySlot 3 = .ok (.sipush 256, 3) := by decide +kernel
theorem dX0_emptySlot_6 : decode cX0_emptySlot 6 = .ok (.if_icmp .ge 62, 3) := by decide +kernel
theorem dX0_emptySlot_9 : decode cX0_emptySlot 9 = .ok (.aload_n 0, 1) := by decide +kernel
theorem dX0_emptySlot_10 : decode cX0_emptySlot 10 = .ok (.iload_n 2, 1) := by decide +kernel
theorem dX0_emptySlot_11 : decode cX0_emptySlot 11 = .ok (.iload_n 1, 1) := by decide +kernel
theorem dX0_emptySlot_12 : decode cX0_emptySlot 12 = .ok (.invokevirtual 84, 3) := by decide +kernel
theorem dX0_emptySlot_15 : decode cX0_emptySlot 15 = .ok (.ifCond .ne 6, 3) := by decide +kernel
theorem dX0_emptySlot_18 : decode cX0_emptySlot 18 = .ok (.goto 44, 3) := by decide +kernel
theorem dX0_emptySlot_21 : decode cX0_emptySlot 21 = .ok (.aload_n 0, 1) := by decide +kernel
theorem dX0_emptySlot_22 : decode cX0_emptySlot 22 = .ok (.iload_n 2, 1) := by decide +kernel
theorem dX0_emptySlot_23 : decode cX0_emptySlot 23 = .ok (.invokevirtual 104, 3) := by decide +kernel
theorem dX0_emptySlot_26 : decode cX0_emptySlot 26 = .ok (.istore_n 3, 1) := by decide +kernel
theorem dX0_emptySlot_27 : decode cX0_emptySlot 27 = .ok (.iconst 0, 1) := by decide +kernel
theorem dX0_emptySlot_28 : decode cX0_emptySlot 28 = .ok (.istore 4, 2) := by decide +kernel
theorem dX0_emptySlot_30 : decode cX0_emptySlot 30 = .ok (.iload 4, 2) := by decide +kernel
theorem dX0_emptySlot_32 : decode cX0_emptySlot 32 = .ok (.iload_n 3, 1) := by decide +kernel
theorem dX0_emptySlot_33 : decode cX0_emptySlot 33 = .ok (.if_icmp .ge 29, 3) := by decide +kernel
theorem dX0_emptySlot_36 : decode cX0_emptySlot 36 = .ok (.aload_n 0, 1) := by decide +kernel
theorem dX0_emptySlot_37 : decode cX0_emptySlot 37 = .ok (.iload_n 2, 1) := by decide +kernel
theorem dX0_emptySlot_38 : decode cX0_emptySlot 38 = .ok (.iload 4, 2) := by decide +kernel
theorem dX0_emptySlot_40 : decode cX0_emptySlot 40 = .ok (.invokevirtual 56, 3) := by decide +kernel
theorem dX0_emptySlot_43 : decode cX0_emptySlot 43 = .ok (.ifCond .ne 13, 3) := by decide +kernel
theorem dX0_emptySlot_46 : decode cX0_emptySlot 46 = .ok (.iload_n 2, 1) := by decide +kernel
theorem dX0_emptySlot_47 : decode cX0_emptySlot 47 = .ok (.bipush 16, 2) := by decide +kernel
theorem dX0_emptySlot_49 : decode cX0_emptySlot 49 = .ok (.imul, 1) := by decide +kernel
theorem dX0_emptySlot_50 : decode cX0_emptySlot 50 = .ok (.iload 4, 2) := by decide +kernel
theorem dX0_emptySlot_52 : decode cX0_emptySlot 52 = .ok (.iload_n 1, 1) := by decide +kernel
theorem dX0_emptySlot_53 : decode cX0_emptySlot 53 = .ok (.imul, 1) := by decide +kernel
theorem dX0_emptySlot_54 : decode cX0_emptySlot 54 = .ok (.iadd, 1) := by decide +kernel
theorem dX0_emptySlot_55 : decode cX0_emptySlot 55 = .ok (.ireturn, 1) := by decide +kernel
theorem dX0_emptySlot_56 : decode cX0_emptySlot 56 = .ok (.iinc 4 1, 3) := by decide +kernel
theorem dX0_emptySlot_59 : decode cX0_emptySlot 59 = .ok (.goto (-29), 3) := by decide +kernel
theorem dX0_emptySlot_62 : decode cX0_emptySlot 62 = .ok (.iinc 2 1, 3) := by decide +kernel
theorem dX0_emptySlot_65 : decode cX0_emptySlot 65 = .ok (.goto (-63), 3) := by decide +kernel
theorem dX0_emptySlot_68 : decode cX0_emptySlot 68 = .ok (.iconst (-1), 1) := by decide +kernel
theorem dX0_emptySlot_69 : decode cX0_emptySlot 69 = .ok (.ireturn, 1) := by decide +kernel
set_option maxRecDepth 20000 in
theorem ggX0_lay_X2_isPage : GoodIn wsX0_lay wsX2_isPage := goodIn_r _ [5] (by decide +kernel) (by decide +kernel)
set_option maxRecDepth 20000 in
theorem gX0_lay_X2_isPage_n30 : GoodIn wsX0_lay (wsX2_isPage) := ggX0_lay_X2_isPage
theorem dX0_lay_0 : decode cX0_lay 0 = .ok (.iload_n 1, 1) := by decide +kernel
theorem dX0_lay_1 : decode cX0_lay 1 = .ok (.invokestatic 30, 3) := by decide +kernel
theorem dX0_lay_4 : decode cX0_lay 4 = .ok (.ifCond .eq 17, 3) := by decide +kernel
theorem dX0_lay_7 : decode cX0_lay 7 = .ok (.aload_n 0, 1) := by decide +kernel
theorem dX0_lay_8 : decode cX0_lay 8 = .ok (.getfield 9, 3) := by decide +kernel
theorem dX0_lay_11 : decode cX0_lay 11 = .ok (.iload_n 1, 1) := by decide +kernel
theorem dX0_lay_12 : decode cX0_lay 12 = .ok (.iload_n 2, 1) := by decide +kernel
theorem dX0_lay_13 : decode cX0_lay 13 = .ok (.iastore, 1) := by decide +kernel
theorem dX0_lay_14 : decode cX0_lay 14 = .ok (.aload_n 0, 1) := by decide +kernel
theorem dX0_lay_15 : decode cX0_lay 15 = .ok (.getfield 15, 3) := by decide +kernel
theorem dX0_lay_18 : decode cX0_lay 18 = .ok (.iload_n 1, 1) := by decide +kernel
theorem dX0_lay_19 : decode cX0_lay 19 = .ok (.iload_n 3, 1) := by decide +kernel
theorem dX0_lay_20 : decode cX0_lay 20 = .ok (.iastore, 1) := by decide +kernel
theorem dX0_lay_21 : decode cX0_lay 21 = .ok (.return_, 1) := by decide +kernel
set_option maxRecDepth 20000 in
theorem ggX0_layExtent_X2_isOrder : GoodIn wsX0_layExtent wsX2_isOrder := goodIn_r _ [3] (by decide +kernel) (by decide +kernel)
set_option maxRecDepth 20000 in
theorem gX0_layExtent_X2_isOrder_n110 : GoodIn wsX0_layExtent (wsX2_isOrder) := ggX0_layExtent_X2_isOrder
set_option maxRecDepth 20000 in
theorem ggX0_layExtent_X0_lay : GoodIn wsX0_layExtent wsX0_lay := goodIn_r _ [8, 9, 10, 11, 2, 12, 13, 14, 15, 16] (by decide +kernel) (by decide +kernel)
set_option maxRecDepth 20000 in
theorem gX0_layExtent_X0_lay : GoodIn wsX0_layExtent (wsV RX0 90 RX0 yX0_lay wsX0_lay) := goodIn_app (goodIn_of _ (by decide +kernel)) ggX0_layExtent_X0_lay
theorem dX0_layExtent_0 : decode cX0_layExtent 0 = .ok (.iload_n 2, 1) := by decide +kernel
theorem dX0_layExtent_1 : decode cX0_layExtent 1 = .ok (.invokestatic 110, 3) := by decide +kernel
theorem dX0_layExtent_4 : decode cX0_layExtent 4 = .ok (.ifCond .ne 4, 3) := by decide +kernel
theorem dX0_layExtent_7 : decode cX0_layExtent 7 = .ok (.return_, 1) := by decide +kernel
theorem dX0_layExtent_8 : decode cX0_layExtent 8 = .ok (.aload_n 0, 1) := by decide +kernel
theorem dX0_layExtent_9 : decode cX0_layExtent 9 = .ok (.iload_n 1, 1) := by decide +kernel
theorem dX0_layExtent_10 : decode cX0_layExtent 10 = .ok (.iconst 2, 1) := by decide +kernel
theorem dX0_layExtent_11 : decode cX0_layExtent 11 = .ok (.iload_n 2, 1) := by decide +kernel
theorem dX0_layExtent_12 : decode cX0_layExtent 12 = .ok (.invokevirtual 90, 3) := by decide +kernel
theorem dX0_layExtent_15 : decode cX0_layExtent 15 = .ok (.iconst 1, 1) := by decide +kernel
theorem dX0_layExtent_16 : decode cX0_layExtent 16 = .ok (.iload_n 2, 1) := by decide +kernel
theorem dX0_layExtent_17 : decode cX0_layExtent 17 = .ok (.ishl, 1) := by decide +kernel
theorem dX0_layExtent_18 : decode cX0_layExtent 18 = .ok (.istore_n 3, 1) := by decide +kernel
theorem dX0_layExtent_19 : decode cX0_layExtent 19 = .ok (.iconst 1, 1) := by decide +kernel
theorem dX0_layExtent_20 : decode cX0_layExtent 20 = .ok (.istore 4, 2) := by decide +kernel
theorem dX0_layExtent_22 : decode cX0_layExtent 22 = .ok (.iload 4, 2) := by decide +kernel
theorem dX0_layExtent_24 : decode cX0_layExtent 24 = .ok (.iload_n 3, 1) := by decide +kernel
theorem dX0_layExtent_25 : decode cX0_layExtent 25 = .ok (.if_icmp .ge 19, 3) := by decide +kernel
theorem dX0_layExtent_28 : decode cX0_layExtent 28 = .ok (.aload_n 0, 1) := by decide +kernel
theorem dX0_layExtent_29 : decode cX0_layExtent 29 = .ok (.iload_n 1, 1) := by decide +kernel
theorem dX0_layExtent_30 : decode cX0_layExtent 30 = .ok (.iload 4, 2) := by decide +kernel
theorem dX0_layExtent_32 : decode cX0_layExtent 32 = .ok (.iadd, 1) := by decide +kernel
theorem dX0_layExtent_33 : decode cX0_layExtent 33 = .ok (.iconst 3, 1) := by decide +kernel
theorem dX0_layExtent_34 : decode cX0_layExtent 34 = .ok (.iload_n 2, 1) := by decide +kernel
theorem dX0_layExtent_35 : decode cX0_layExtent 35 = .ok (.invokevirtual 90, 3) := by decide +kernel
theorem dX0_layExtent_38 : decode cX0_layExtent 38 = .ok (.iinc 4 1, 3) := by decide +kernel
theorem dX0_layExtent_41 : decode cX0_layExtent 41 = .ok (.goto (-19), 3) := by decide +kernel
theorem dX0_layExtent_44 : decode cX0_layExtent 44 = .ok (.return_, 1) := by decide +kernel
set_option maxRecDepth 20000 in
theorem ggX0_isFreeRun_X2_isOrder : GoodIn wsX0_isFreeRun wsX2_isOrder := goodIn_r _ [3] (by decide +kernel) (by decide +kernel)
set_option maxRecDepth 20000 in
theorem gX0_isFreeRun_X2_isOrder_n110 : GoodIn wsX0_isFreeRun (wsX2_isOrder) := ggX0_isFreeRun_X2_isOrder
set_option maxRecDepth 20000 in
theorem ggX0_isFreeRun_X0_kindOf : GoodIn wsX0_isFreeRun wsX0_kindOf := goodIn_r _ [8, 9, 10, 11, 12, 13] (by decide +kernel) (by decide +kernel)
set_option maxRecDepth 20000 in
theorem gX0_isFreeRun_X0_kindOf : GoodIn wsX0_isFreeRun (wsV RX0 38 RX0 yX0_kindOf wsX0_kindOf) := goodIn_app (goodIn_of _ (by decide +kernel)) ggX0_isFreeRun_X0_kindOf
theorem dX0_isFreeRun_0 : decode cX0_isFreeRun 0 = .ok (.iload_n 2, 1) := by decide +kernel
theorem dX0_isFreeRun_1 : decode cX0_isFreeRun 1 = .ok (.invokestatic 110, 3) := by decide +kernel
theorem dX0_isFreeRun_4 : decode cX0_isFreeRun 4 = .ok (.ifCond .eq 18, 3) := by decide +kernel
theorem dX0_isFreeRun_7 : decode cX0_isFreeRun 7 = .ok (.iload_n 1, 1) := by decide +kernel
theorem dX0_isFreeRun_8 : decode cX0_isFreeRun 8 = .ok (.ifCond .lt 14, 3) := by decide +kernel
theorem dX0_isFreeRun_11 : decode cX0_isFreeRun 11 = .ok (.iload_n 1, 1) := by decide +kernel
theorem dX0_isFreeRun_12 : decode cX0_isFreeRun 12 = .ok (.iconst 1, 1) := by decide +kernel
theorem dX0_isFreeRun_13 : decode cX0_isFreeRun 13 = .ok (.iload_n 2, 1) := by decide +kernel
theorem dX0_isFreeRun_14 : decode cX0_isFreeRun 14 = .ok (.ishl, 1) := by decide +kernel
theorem dX0_isFreeRun_15 : decode cX0_isFreeRun 15 = .ok (.iadd, 1) := by decide +kernel
theorem dX0_isFreeRun_16 : decode cX0_isFreeRun 16 = .ok (.sipush 256, 3) := by decide +kernel
theorem dX0_isFreeRun_19 : decode cX0_isFreeRun 19 = .ok (.if_icmp .le 5, 3) := by decide +kernel
theorem dX0_isFreeRun_22 : decode cX0_isFreeRun 22 = .ok (.iconst 0, 1) := by decide +kernel
theorem dX0_isFreeRun_23 : decode cX0_isFreeRun 23 = .ok (.ireturn, 1) := by decide +kernel
theorem dX0_isFreeRun_24 : decode cX0_isFreeRun 24 = .ok (.iconst 1, 1) := by decide +kernel
theorem dX0_isFreeRun_25 : decode cX0_isFreeRun 25 = .ok (.iload_n 2, 1) := by decide +kernel
theorem dX0_isFreeRun_26 : decode cX0_isFreeRun 26 = .ok (.ishl, 1) := by decide +kernel
theorem dX0_isFreeRun_27 : decode cX0_isFreeRun 27 = .ok (.istore_n 3, 1) := by decide +kernel
theorem dX0_isFreeRun_28 : decode cX0_isFreeRun 28 = .ok (.iconst 0, 1) := by decide +kernel
theorem dX0_isFreeRun_29 : decode cX0_isFreeRun 29 = .ok (.istore 4, 2) := by decide +kernel
theorem dX0_isFreeRun_31 : decode cX0_isFreeRun 31 = .ok (.iload 4, 2) := by decide +kernel
theorem dX0_isFreeRun_33 : decode cX0_isFreeRun 33 = .ok (.iload_n 3, 1) := by decide +kernel
theorem dX0_isFreeRun_34 : decode cX0_isFreeRun 34 = .ok (.if_icmp .ge 22, 3) := by decide +kernel
theorem dX0_isFreeRun_37 : decode cX0_isFreeRun 37 = .ok (.aload_n 0, 1) := by decide +kernel
theorem dX0_isFreeRun_38 : decode cX0_isFreeRun 38 = .ok (.iload_n 1, 1) := by decide +kernel
theorem dX0_isFreeRun_39 : decode cX0_isFreeRun 39 = .ok (.iload 4, 2) := by decide +kernel
theorem dX0_isFreeRun_41 : decode cX0_isFreeRun 41 = .ok (.iadd, 1) := by decide +kernel
theorem dX0_isFreeRun_42 : decode cX0_isFreeRun 42 = .ok (.invokevirtual 38, 3) := by decide +kernel
theorem dX0_isFreeRun_45 : decode cX0_isFreeRun 45 = .ok (.ifCond .eq 5, 3) := by decide +kernel
theorem dX0_isFreeRun_48 : decode cX0_isFreeRun 48 = .ok (.iconst 0, 1) := by decide +kernel
theorem dX0_isFreeRun_49 : decode cX0_isFreeRun 49 = .ok (.ireturn, 1) := by decide +kernel
theorem dX0_isFreeRun_50 : decode cX0_isFreeRun 50 = .ok (.iinc 4 1, 3) := by decide +kernel
theorem dX0_isFreeRun_53 : decode cX0_isFreeRun 53 = .ok (.goto (-22), 3) := by decide +kernel
theorem dX0_isFreeRun_56 : decode cX0_isFreeRun 56 = .ok (.iconst 1, 1) := by decide +kernel
theorem dX0_isFreeRun_57 : decode cX0_isFreeRun 57 = .ok (.ireturn, 1) := by decide +kernel
set_option maxRecDepth 20000 in
theorem ggX0_isFreeExtent_X0_isFreeRun : GoodIn wsX0_isFreeExtent wsX0_isFreeRun := goodIn_r _ [5, 6, 7, 8, 9, 10, 11, 4, 12, 13, 17, 18, 19, 20] (by decide +kernel) (by decide +kernel)
set_option maxRecDepth 20000 in
theorem gX0_isFreeExtent_X0_isFreeRun : GoodIn wsX0_isFreeExtent (wsV RX0 87 RX0 yX0_isFreeRun wsX0_isFreeRun) := goodIn_app (goodIn_of _ (by decide +kernel)) ggX0_isFreeExtent_X0_isFreeRun
set_option maxRecDepth 20000 in
theorem ggX0_isFreeExtent_X0_alignedTo : GoodIn wsX0_isFreeExtent wsX0_alignedTo := goodIn_r _ [16, 6, 7, 8] (by decide +kernel) (by decide +kernel)
set_option maxRecDepth 20000 in
theorem gX0_isFreeExtent_X0_alignedTo : GoodIn wsX0_isFreeExtent (va_wsS RX0 44 yX0_alignedTo wsX0_alignedTo) := goodIn_app (goodIn_of _ (by decide +kernel)) ggX0_isFreeExtent_X0_alignedTo
theorem dX0_isFreeExtent_0 : decode cX0_isFreeExtent 0 = .ok (.aload_n 0, 1) := by decide +kernel
theorem dX0_isFreeExtent_1 : decode cX0_isFreeExtent 1 = .ok (.iload_n 1, 1) := by decide +kernel
theorem dX0_isFreeExtent_2 : decode cX0_isFreeExtent 2 = .ok (.iload_n 2, 1) := by decide +kernel
theorem dX0_isFreeExtent_3 : decode cX0_isFreeExtent 3 = .ok (.invokevirtual 87, 3) := by decide +kernel
theorem dX0_isFreeExtent_6 : decode cX0_isFreeExtent 6 = .ok (.ifCond .eq 24, 3) := by decide +kernel
theorem dX0_isFreeExtent_9 : decode cX0_isFreeExtent 9 = .ok (.aload_n 0, 1) := by decide +kernel
theorem dX0_isFreeExtent_10 : decode cX0_isFreeExtent 10 = .ok (.iload_n 1, 1) := by decide +kernel
theorem dX0_isFreeExtent_11 : decode cX0_isFreeExtent 11 = .ok (.iload_n 2, 1) := by decide +kernel
theorem dX0_isFreeExtent_12 : decode cX0_isFreeExtent 12 = .ok (.iconst 1, 1) := by decide +kernel
theorem dX0_isFreeExtent_13 : decode cX0_isFreeExtent 13 = .ok (.iadd, 1) := by decide +kernel
theorem dX0_isFreeExtent_14 : decode cX0_isFreeExtent 14 = .ok (.invokestatic 44, 3) := by decide +kernel
theorem dX0_isFreeExtent_17 : decode cX0_isFreeExtent 17 = .ok (.iload_n 2, 1) := by decide +kernel
theorem dX0_isFreeExtent_18 : decode cX0_isFreeExtent 18 = .ok (.iconst 1, 1) := by decide +kernel
theorem dX0_isFreeExtent_19 : decode cX0_isFreeExtent 19 = .ok (.iadd, 1) := by decide +kernel
theorem dX0_isFreeExtent_20 : decode cX0_isFreeExtent 20 = .ok (.invokevirtual 87, 3) := by decide +kernel
theorem dX0_isFreeExtent_23 : decode cX0_isFreeExtent 23 = .ok (.ifCond .ne 7, 3) := by decide +kernel
theorem dX0_isFreeExtent_26 : decode cX0_isFreeExtent 26 = .ok (.iconst 1, 1) := by decide +kernel
theorem dX0_isFreeExtent_27 : decode cX0_isFreeExtent 27 = .ok (.goto 4, 3) := by decide +kernel
theorem dX0_isFreeExtent_30 : decode cX0_isFreeExtent 30 = .ok (.iconst 0, 1) := by decide +kernel
theorem dX0_isFreeExtent_31 : decode cX0_isFreeExtent 31 = .ok (.ireturn, 1) := by decide +kernel
set_option maxRecDepth 20000 in
theorem ggX0_freeOrderAt_X0_alignedTo : GoodIn wsX0_freeOrderAt wsX0_alignedTo := goodIn_r _ [4, 5, 6, 7] (by decide +kernel) (by decide +kernel)
set_option maxRecDepth 20000 in
theorem gX0_freeOrderAt_X0_alignedTo : GoodIn wsX0_freeOrderAt (va_wsS RX0 44 yX0_alignedTo wsX0_alignedTo) := goodIn_app (goodIn_of _ (by decide +kernel)) ggX0_freeOrderAt_X0_alignedTo
set_option maxRecDepth 20000 in
theorem ggX0_freeOrderAt_X0_isFreeExtent : GoodIn wsX0_freeOrderAt wsX0_isFreeExtent := goodIn_r _ [11, 12, 13, 14, 3, 15, 5, 6, 7, 16, 17, 18, 19, 20, 1, 2, 4, 21, 22, 23, 24] (by decide +kernel) (by decide +kernel)
set_option maxRecDepth 20000 in
theorem gX0_freeOrderAt_X0_isFreeExtent : GoodIn wsX0_freeOrderAt (wsV RX0 113 RX0 yX0_isFreeExtent wsX0_isFreeExtent) := goodIn_app (goodIn_of _ (by decide +kernel)) ggX0_freeOrderAt_X0_isFreeExtent
theorem dX0_freeOrderAt_0 : decode cX0_freeOrderAt 0 = .ok (.iconst 0, 1) := by decide +kernel
theorem dX0_freeOrderAt_1 : decode cX0_freeOrderAt 1 = .ok (.istore_n 2, 1) := by decide +kernel
theorem dX0_freeOrderAt_2 : decode cX0_freeOrderAt 2 = .ok (.iload_n 2, 1) := by decide +kernel
theorem dX0_freeOrderAt_3 : decode cX0_freeOrderAt 3 = .ok (.bipush 8, 2) := by decide +kernel
theorem dX0_freeOrderAt_5 : decode cX0_freeOrderAt 5 = .ok (.if_icmp .gt 24, 3) := by decide +kernel
theorem dX0_freeOrderAt_8 : decode cX0_freeOrderAt 8 = .ok (.aload_n 0, 1) := by decide +kernel
theorem dX0_freeOrderAt_9 : decode cX0_freeOrderAt 9 = .ok (.iload_n 1, 1) := by decide +kernel
theorem dX0_freeOrderAt_10 : decode cX0_freeOrderAt 10 = .ok (.iload_n 2, 1) := by decide +kernel
theorem dX0_freeOrderAt_11 : decode cX0_freeOrderAt 11 = .ok (.invokestatic 44, 3) := by decide +kernel
theorem dX0_freeOrderAt_14 : decode cX0_freeOrderAt 14 = .ok (.iload_n 2, 1) := by decide +kernel
theorem dX0_freeOrderAt_15 : decode cX0_freeOrderAt 15 = .ok (.invokevirtual 113, 3) := by decide +kernel
theorem dX0_freeOrderAt_18 : decode cX0_freeOrderAt 18 = .ok (.ifCond .eq 5, 3) := by decide +kernel
theorem dX0_freeOrderAt_21 : decode cX0_freeOrderAt 21 = .ok (.iload_n 2, 1) := by decide +kernel
theorem dX0_freeOrderAt_22 : decode cX0_freeOrderAt 22 = .ok (.ireturn, 1) := by decide +kernel
theorem dX0_freeOrderAt_23 : decode cX0_freeOrderAt 23 = .ok (.iinc 2 1, 3) := by decide +kernel
theorem dX0_freeOrderAt_26 : decode cX0_freeOrderAt 26 = .ok (.goto (-24), 3) := by decide +kernel
theorem dX0_freeOrderAt_29 : decode cX0_freeOrderAt 29 = .ok (.iconst (-1), 1) := by decide +kernel
theorem dX0_freeOrderAt_30 : decode cX0_freeOrderAt 30 = .ok (.ireturn, 1) := by decide +kernel
end
section
theorem dX1_init_0 : decode cX1_init 0 = .ok (.aload_n 0, 1) := by decide +kernel
theorem dX1_init_1 : decode cX1_init 1 = .ok (.invokespecial 3, 3) := by decide +kernel
theorem dX1_init_4 : decode cX1_init 4 = .ok (.aload_n 0, 1) := by decide +kernel
theorem dX1_init_5 : decode cX1_init 5 = .ok (.sipush 4096, 3) := by decide +kernel
theorem dX1_init_8 : decode cX1_init 8 = .ok (.newarray .int, 2) := by decide +kernel
theorem dX1_init_10 : decode cX1_init 10 = .ok (.putfield 9, 3) := by decide +kernel
theorem dX1_init_13 : decode cX1_init 13 = .ok (.aload_n 0, 1) := by decide +kernel
theorem dX1_init_14 : decode cX1_init 14 = .ok (.sipush 4096, 3) := by decide +kernel
theorem dX1_init_17 : decode cX1_init 17 = .ok (.newarray .int, 2) := by decide +kernel
theorem dX1_init_19 : decode cX1_init 19 = .ok (.putfield 15, 3) := by decide +kernel
theorem dX1_init_22 : decode cX1_init 22 = .ok (.aload_n 0, 1) := by decide +kernel
theorem dX1_init_23 : decode cX1_init 23 = .ok (.sipush 512, 3) := by decide +kernel
theorem dX1_init_26 : decode cX1_init 26 = .ok (.newarray .int, 2) := by decide +kernel
theorem dX1_init_28 : decode cX1_init 28 = .ok (.putfield 18, 3) := by decide +kernel
theorem dX1_init_31 : decode cX1_init 31 = .ok (.aload_n 0, 1) := by decide +kernel
theorem dX1_init_32 : decode cX1_init 32 = .ok (.sipush 512, 3) := by decide +kernel
theorem dX1_init_35 : decode cX1_init 35 = .ok (.newarray .boolean, 2) := by decide +kernel
theorem dX1_init_37 : decode cX1_init 37 = .ok (.putfield 21, 3) := by decide +kernel
theorem dX1_init_40 : decode cX1_init 40 = .ok (.aload_n 0, 1) := by decide +kernel
theorem dX1_init_41 : decode cX1_init 41 = .ok (.iconst 0, 1) := by decide +kernel
theorem dX1_init_42 : decode cX1_init 42 = .ok (.putfield 25, 3) := by decide +kernel
theorem dX1_init_45 : decode cX1_init 45 = .ok (.return_, 1) := by decide +kernel
set_option maxRecDepth 20000 in
theorem ggX1_at_X2_isWord : GoodIn wsX1_at wsX2_isWord := goodIn_r _ [4] (by decide +kernel) (by decide +kernel)
set_option maxRecDepth 20000 in
theorem gX1_at_X2_isWord_n29 : GoodIn wsX1_at (wsX2_isWord) := ggX1_at_X2_isWord
theorem dX1_at_0 : decode cX1_at 0 = .ok (.iload_n 1, 1) := by decide +kernel
theorem dX1_at_1 : decode cX1_at 1 = .ok (.invokestatic 29, 3) := by decide +kernel
theorem dX1_at_4 : decode cX1_at 4 = .ok (.ifCond .eq 12, 3) := by decide +kernel
theorem dX1_at_7 : decode cX1_at 7 = .ok (.aload_n 0, 1) := by decide +kernel
theorem dX1_at_8 : decode cX1_at 8 = .ok (.getfield 9, 3) := by decide +kernel
theorem dX1_at_11 : decode cX1_at 11 = .ok (.iload_n 1, 1) := by decide +kernel
theorem dX1_at_12 : decode cX1_at 12 = .ok (.iaload, 1) := by decide +kernel
theorem dX1_at_13 : decode cX1_at 13 = .ok (.goto 4, 3) := by decide +kernel
theorem dX1_at_16 : decode cX1_at 16 = .ok (.iconst 0, 1) := by decide +kernel
theorem dX1_at_17 : decode cX1_at 17 = .ok (.ireturn, 1) := by decide +kernel
set_option maxRecDepth 20000 in
theorem ggX1_keptAt_X2_isWord : GoodIn wsX1_keptAt wsX2_isWord := goodIn_r _ [4] (by decide +kernel) (by decide +kernel)
set_option maxRecDepth 20000 in
theorem gX1_keptAt_X2_isWord_n29 : GoodIn wsX1_keptAt (wsX2_isWord) := ggX1_keptAt_X2_isWord
theorem dX1_keptAt_0 : decode cX1_keptAt 0 = .ok (.iload_n 1, 1) := by decide +kernel
theorem dX1_keptAt_1 : decode cX1_keptAt 1 = .ok (.invokestatic 29, 3) := by decide +kernel
theorem dX1_keptAt_4 : decode cX1_keptAt 4 = .ok (.ifCond .eq 12, 3) := by decide +kernel
theorem dX1_keptAt_7 : decode cX1_keptAt 7 = .ok (.aload_n 0, 1) := by decide +kernel
theorem dX1_keptAt_8 : decode cX1_keptAt 8 = .ok (.getfield 15, 3) := by decide +kernel
theorem dX1_keptAt_11 : decode cX1_keptAt 11 = .ok (.iload_n 1, 1) := by decide +kernel
theorem dX1_keptAt_12 : decode cX1_keptAt 12 = .ok (.iaload, 1) := by decide +kernel
theorem dX1_keptAt_13 : decode cX1_keptAt 13 = .ok (.goto 4, 3) := by decide +kernel
theorem dX1_keptAt_16 : decode cX1_keptAt 16 = .ok (.iconst 0, 1) := by decide +kernel
theorem dX1_keptAt_17 : decode cX1_keptAt 17 = .ok (.ireturn, 1) := by decide +kernel
theorem dX1_waiting_0 : decode cX1_waiting 0 = .ok (.aload_n 0, 1) := by decide +kernel
theorem dX1_waiting_1 : decode cX1_waiting 1 = .ok (.getfield 25, 3) := by decide +kernel
theorem dX1_waiting_4 : decode cX1_waiting 4 = .ok (.ireturn, 1) := by decide +kernel
theorem dX1_lineAt_0 : decode cX1_lineAt 0 = .ok (.iload_n 1, 1) := by decide +kernel
theorem dX1_lineAt_1 : decode cX1_lineAt 1 = .ok (.ifCond .lt 29, 3) := by decide +kernel
theorem dX1_lineAt_4 : decode cX1_lineAt 4 = .ok (.iload_n 1, 1) := by decide +kernel
theorem dX1_lineAt_5 : decode cX1_lineAt 5 = .ok (.aload_n 0, 1) := by decide +kernel
theorem dX1_lineAt_6 : decode cX1_lineAt 6 = .ok (.getfield 25, 3) := by decide +kernel
theorem dX1_lineAt_9 : decode cX1_lineAt 9 = .ok (.if_icmp .ge 21, 3) := by decide +kernel
theorem dX1_lineAt_12 : decode cX1_lineAt 12 = .ok (.iload_n 1, 1) := by decide +kernel
theorem dX1_lineAt_13 : decode cX1_lineAt 13 = .ok (.aload_n 0, 1) := by decide +kernel
theorem dX1_lineAt_14 : decode cX1_lineAt 14 = .ok (.getfield 18, 3) := by decide +kernel
theorem dX1_lineAt_17 : decode cX1_lineAt 17 = .ok (.arraylength, 1) := by decide +kernel
theorem dX1_lineAt_18 : decode cX1_lineAt 18 = .ok (.if_icmp .ge 12, 3) := by decide +kernel
theorem dX1_lineAt_21 : decode cX1_lineAt 21 = .ok (.aload_n 0, 1) := by decide +kernel
theorem dX1_lineAt_22 : decode cX1_lineAt 22 = .ok (.getfield 18, 3) := by decide +kernel
theorem dX1_lineAt_25 : decode cX1_lineAt 25 = .ok (.iload_n 1, 1) := by decide +kernel
theorem dX1_lineAt_26 : decode cX1_lineAt 26 = .ok (.iaload, 1) := by decide +kernel
theorem dX1_lineAt_27 : decode cX1_lineAt 27 = .ok (.goto 4, 3) := by decide +kernel
theorem dX1_lineAt_30 : decode cX1_lineAt 30 = .ok (.iconst (-1), 1) := by decide +kernel
theorem dX1_lineAt_31 : decode cX1_lineAt 31 = .ok (.ireturn, 1) := by decide +kernel
set_option maxRecDepth 20000 in
theorem ggX1_write_X2_isWord : GoodIn wsX1_write wsX2_isWord := goodIn_r _ [7] (by decide +kernel) (by decide +kernel)
set_option maxRecDepth 20000 in
theorem gX1_write_X2_isWord_n29 : GoodIn wsX1_write (wsX2_isWord) := ggX1_write_X2_isWord
theorem dX1_write_0 : decode cX1_write 0 = .ok (.iload_n 1, 1) := by decide +kernel
theorem dX1_write_1 : decode cX1_write 1 = .ok (.invokestatic 29, 3) := by decide +kernel
theorem dX1_write_4 : decode cX1_write 4 = .ok (.ifCond .ne 4, 3) := by decide +kernel
theorem dX1_write_7 : decode cX1_write 7 = .ok (.return_, 1) := by decide +kernel
theorem dX1_write_8 : decode cX1_write 8 = .ok (.aload_n 0, 1) := by decide +kernel
theorem dX1_write_9 : decode cX1_write 9 = .ok (.getfield 9, 3) := by decide +kernel
theorem dX1_write_12 : decode cX1_write 12 = .ok (.iload_n 1, 1) := by decide +kernel
theorem dX1_write_13 : decode cX1_write 13 = .ok (.iload_n 2, 1) := by decide +kernel
theorem dX1_write_14 : decode cX1_write 14 = .ok (.iastore, 1) := by decide +kernel
theorem dX1_write_15 : decode cX1_write 15 = .ok (.iload_n 1, 1) := by decide +kernel
theorem dX1_write_16 : decode cX1_write 16 = .ok (.bipush 8, 2) := by decide +kernel
theorem dX1_write_18 : decode cX1_write 18 = .ok (.idiv, 1) := by decide +kernel
theorem dX1_write_19 : decode cX1_write 19 = .ok (.istore_n 3, 1) := by decide +kernel
theorem dX1_write_20 : decode cX1_write 20 = .ok (.aload_n 0, 1) := by decide +kernel
theorem dX1_write_21 : decode cX1_write 21 = .ok (.getfield 21, 3) := by decide +kernel
theorem dX1_write_24 : decode cX1_write 24 = .ok (.iload_n 3, 1) := by decide +kernel
theorem dX1_write_25 : decode cX1_write 25 = .ok (.baload, 1) := by decide +kernel
theorem dX1_write_26 : decode cX1_write 26 = .ok (.ifCond .ne 42, 3) := by decide +kernel
theorem dX1_write_29 : decode cX1_write 29 = .ok (.aload_n 0, 1) := by decide +kernel
theorem dX1_write_30 : decode cX1_write 30 = .ok (.getfield 25, 3) := by decide +kernel
theorem dX1_write_33 : decode cX1_write 33 = .ok (.aload_n 0, 1) := by decide +kernel
theorem dX1_write_34 : decode cX1_write 34 = .ok (.getfield 18, 3) := by decide +kernel
theorem dX1_write_37 : decode cX1_write 37 = .ok (.arraylength, 1) := by decide +kernel
theorem dX1_write_38 : decode cX1_write 38 = .ok (.if_icmp .ge 30, 3) := by decide +kernel
theorem dX1_write_41 : decode cX1_write 41 = .ok (.aload_n 0, 1) := by decide +kernel
theorem dX1_write_42 : decode cX1_write 42 = .ok (.getfield 21, 3) := by decide +kernel
theorem dX1_write_45 : decode cX1_write 45 = .ok (.iload_n 3, 1) := by decide +kernel
theorem dX1_write_46 : decode cX1_write 46 = .ok (.iconst 1, 1) := by decide +kernel
theorem dX1_write_47 : decode cX1_write 47 = .ok (.bastore, 1) := by decide +kernel
theorem dX1_write_48 : decode cX1_write 48 = .ok (.aload_n 0, 1) := by decide +kernel
theorem dX1_write_49 : decode cX1_write 49 = .ok (.getfield 18, 3) := by decide +kernel
theorem dX1_write_52 : decode cX1_write 52 = .ok (.aload_n 0, 1) := by decide +kernel
theorem dX1_write_53 : decode cX1_write 53 = .ok (.getfield 25, 3) := by decide +kernel
theorem dX1_write_56 : decode cX1_write 56 = .ok (.iload_n 3, 1) := by decide +kernel
theorem dX1_write_57 : decode cX1_write 57 = .ok (.iastore, 1) := by decide +kernel
theorem dX1_write_58 : decode cX1_write 58 = .ok (.aload_n 0, 1) := by decide +kernel
theorem dX1_write_59 : decode cX1_write 59 = .ok (.dup, 1) := by decide +kernel
theorem dX1_write_60 : decode cX1_write 60 = .ok (.getfield 25, 3) := by decide +kernel
theorem dX1_write_63 : decode cX1_write 63 = .ok (.iconst 1, 1) := by decide +kernel
theorem dX1_write_64 : decode cX1_write 64 = .ok (.iadd, 1) := by decide +kernel
theorem dX1_write_65 : decode cX1_write 65 = .ok (.putfield 25, 3) := by decide +kernel
theorem dX1_write_68 : decode cX1_write 68 = .ok (.return_, 1) := by decide +kernel
set_option maxRecDepth 20000 in
theorem ggX1_keepAll_X1_keepSome : GoodIn wsX1_keepAll wsX1_keepSome := goodIn_r _ [6, 1, 7, 8, 9, 10, 11, 5, 12, 13, 14, 15, 16, 17, 18, 19, 20, 21, 22, 23] (by decide +kernel) (by decide +kernel)
set_option maxRecDepth 20000 in
theorem gX1_keepAll_X1_keepSome : GoodIn wsX1_keepAll (wsV RX1 33 RX1 yX1_keepSome wsX1_keepSome) := goodIn_app (goodIn_of _ (by decide +kernel)) ggX1_keepAll_X1_keepSome
theorem dX1_keepAll_0 : decode cX1_keepAll 0 = .ok (.aload_n 0, 1) := by decide +kernel
theorem dX1_keepAll_1 : decode cX1_keepAll 1 = .ok (.getfield 25, 3) := by decide +kernel
theorem dX1_keepAll_4 : decode cX1_keepAll 4 = .ok (.istore_n 1, 1) := by decide +kernel
theorem dX1_keepAll_5 : decode cX1_keepAll 5 = .ok (.aload_n 0, 1) := by decide +kernel
theorem dX1_keepAll_6 : decode cX1_keepAll 6 = .ok (.iconst (-1), 1) := by decide +kernel
theorem dX1_keepAll_7 : decode cX1_keepAll 7 = .ok (.invokevirtual 33, 3) := by decide +kernel
theorem dX1_keepAll_10 : decode cX1_keepAll 10 = .ok (.iload_n 1, 1) := by decide +kernel
theorem dX1_keepAll_11 : decode cX1_keepAll 11 = .ok (.ireturn, 1) := by decide +kernel
set_option maxRecDepth 20000 in
theorem ggX1_keepSome_X1_lineAt : GoodIn wsX1_keepSome wsX1_lineAt := goodIn_r _ [8, 1, 9, 15, 16, 17, 18, 19] (by decide +kernel) (by decide +kernel)
set_option maxRecDepth 20000 in
theorem gX1_keepSome_X1_lineAt : GoodIn wsX1_keepSome (wsV RX1 37 RX1 yX1_lineAt wsX1_lineAt) := goodIn_app (goodIn_of _ (by decide +kernel)) ggX1_keepSome_X1_lineAt
set_option maxRecDepth 20000 in
theorem ggX1_keepSome_X1_settleLine : GoodIn wsX1_keepSome wsX1_settleLine := goodIn_r _ [13, 14, 15, 16, 17, 18, 19] (by decide +kernel) (by decide +kernel)
set_option maxRecDepth 20000 in
theorem gX1_keepSome_X1_settleLine : GoodIn wsX1_keepSome (wsV RX1 41 RX1 yX1_settleLine wsX1_settleLine) := goodIn_app (goodIn_of _ (by decide +kernel)) ggX1_keepSome_X1_settleLine
theorem dX1_keepSome_0 : decode cX1_keepSome 0 = .ok (.iconst 0, 1) := by decide +kernel
theorem dX1_keepSome_1 : decode cX1_keepSome 1 = .ok (.istore_n 2, 1) := by decide +kernel
theorem dX1_keepSome_2 : decode cX1_keepSome 2 = .ok (.iload_n 2, 1) := by decide +kernel
theorem dX1_keepSome_3 : decode cX1_keepSome 3 = .ok (.aload_n 0, 1) := by decide +kernel
theorem dX1_keepSome_4 : decode cX1_keepSome 4 = .ok (.getfield 25, 3) := by decide +kernel
theorem dX1_keepSome_7 : decode cX1_keepSome 7 = .ok (.if_icmp .ge 66, 3) := by decide +kernel
theorem dX1_keepSome_10 : decode cX1_keepSome 10 = .ok (.iload_n 1, 1) := by decide +kernel
theorem dX1_keepSome_11 : decode cX1_keepSome 11 = .ok (.iload_n 2, 1) := by decide +kernel
theorem dX1_keepSome_12 : decode cX1_keepSome 12 = .ok (.bipush 32, 2) := by decide +kernel
theorem dX1_keepSome_14 : decode cX1_keepSome 14 = .ok (.irem, 1) := by decide +kernel
theorem dX1_keepSome_15 : decode cX1_keepSome 15 = .ok (.iushr, 1) := by decide +kernel
theorem dX1_keepSome_16 : decode cX1_keepSome 16 = .ok (.iconst 1, 1) := by decide +kernel
theorem dX1_keepSome_17 : decode cX1_keepSome 17 = .ok (.iand, 1) := by decide +kernel
theorem dX1_keepSome_18 : decode cX1_keepSome 18 = .ok (.iconst 1, 1) := by decide +kernel
theorem dX1_keepSome_19 : decode cX1_keepSome 19 = .ok (.if_icmp .ne 7, 3) := by decide +kernel
theorem dX1_keepSome_22 : decode cX1_keepSome 22 = .ok (.iconst 1, 1) := by decide +kernel
theorem dX1_keepSome_23 : decode cX1_keepSome 23 = .ok (.goto 4, 3) := by decide +kernel
theorem dX1_keepSome_26 : decode cX1_keepSome 26 = .ok (.iconst 0, 1) := by decide +kernel
theorem dX1_keepSome_27 : decode cX1_keepSome 27 = .ok (.istore_n 3, 1) := by decide +kernel
theorem dX1_keepSome_28 : decode cX1_keepSome 28 = .ok (.aload_n 0, 1) := by decide +kernel
theorem dX1_keepSome_29 : decode cX1_keepSome 29 = .ok (.aload_n 0, 1) := by decide +kernel
theorem dX1_keepSome_30 : decode cX1_keepSome 30 = .ok (.iload_n 2, 1) := by decide +kernel
theorem dX1_keepSome_31 : decode cX1_keepSome 31 = .ok (.invokevirtual 37, 3) := by decide +kernel
theorem dX1_keepSome_34 : decode cX1_keepSome 34 = .ok (.iload_n 3, 1) := by decide +kernel
theorem dX1_keepSome_35 : decode cX1_keepSome 35 = .ok (.ifCond .eq 10, 3) := by decide +kernel
theorem dX1_keepSome_38 : decode cX1_keepSome 38 = .ok (.aload_n 0, 1) := by decide +kernel
theorem dX1_keepSome_39 : decode cX1_keepSome 39 = .ok (.getfield 9, 3) := by decide +kernel
theorem dX1_keepSome_42 : decode cX1_keepSome 42 = .ok (.goto 7, 3) := by decide +kernel
theorem dX1_keepSome_45 : decode cX1_keepSome 45 = .ok (.aload_n 0, 1) := by decide +kernel
theorem dX1_keepSome_46 : decode cX1_keepSome 46 = .ok (.getfield 15, 3) := by decide +kernel
theorem dX1_keepSome_49 : decode cX1_keepSome 49 = .ok (.iload_n 3, 1) := by decide +kernel
theorem dX1_keepSome_50 : decode cX1_keepSome 50 = .ok (.ifCond .eq 10, 3) := by decide +kernel
theorem dX1_keepSome_53 : decode cX1_keepSome 53 = .ok (.aload_n 0, 1) := by decide +kernel
theorem dX1_keepSome_54 : decode cX1_keepSome 54 = .ok (.getfield 15, 3) := by decide +kernel
theorem dX1_keepSome_57 : decode cX1_keepSome 57 = .ok (.goto 7, 3) := by decide +kernel
theorem dX1_keepSome_60 : decode cX1_keepSome 60 = .ok (.aload_n 0, 1) := by decide +kernel
theorem dX1_keepSome_61 : decode cX1_keepSome 61 = .ok (.getfield 9, 3) := by decide +kernel
theorem dX1_keepSome_64 : decode cX1_keepSome 64 = .ok (.invokevirtual 41, 3) := by decide +kernel
theorem dX1_keepSome_67 : decode cX1_keepSome 67 = .ok (.iinc 2 1, 3) := by decide +kernel
theorem dX1_keepSome_70 : decode cX1_keepSome 70 = .ok (.goto (-68), 3) := by decide +kernel
theorem dX1_keepSome_73 : decode cX1_keepSome 73 = .ok (.aload_n 0, 1) := by decide +kernel
theorem dX1_keepSome_74 : decode cX1_keepSome 74 = .ok (.iconst 0, 1) := by decide +kernel
theorem dX1_keepSome_75 : decode cX1_keepSome 75 = .ok (.putfield 25, 3) := by decide +kernel
theorem dX1_keepSome_78 : decode cX1_keepSome 78 = .ok (.return_, 1) := by decide +kernel
theorem dX1_settleLine_0 : decode cX1_settleLine 0 = .ok (.iload_n 1, 1) := by decide +kernel
theorem dX1_settleLine_1 : decode cX1_settleLine 1 = .ok (.ifCond .lt 10, 3) := by decide +kernel
theorem dX1_settleLine_4 : decode cX1_settleLine 4 = .ok (.iload_n 1, 1) := by decide +kernel
theorem dX1_settleLine_5 : decode cX1_settleLine 5 = .ok (.sipush 512, 3) := by decide +kernel
theorem dX1_settleLine_8 : decode cX1_settleLine 8 = .ok (.if_icmp .lt 4, 3) := by decide +kernel
theorem dX1_settleLine_11 : decode cX1_settleLine 11 = .ok (.return_, 1) := by decide +kernel
theorem dX1_settleLine_12 : decode cX1_settleLine 12 = .ok (.aload_n 0, 1) := by decide +kernel
theorem dX1_settleLine_13 : decode cX1_settleLine 13 = .ok (.getfield 21, 3) := by decide +kernel
theorem dX1_settleLine_16 : decode cX1_settleLine 16 = .ok (.iload_n 1, 1) := by decide +kernel
theorem dX1_settleLine_17 : decode cX1_settleLine 17 = .ok (.iconst 0, 1) := by decide +kernel
theorem dX1_settleLine_18 : decode cX1_settleLine 18 = .ok (.bastore, 1) := by decide +kernel
theorem dX1_settleLine_19 : decode cX1_settleLine 19 = .ok (.iload_n 1, 1) := by decide +kernel
theorem dX1_settleLine_20 : decode cX1_settleLine 20 = .ok (.bipush 8, 2) := by decide +kernel
theorem dX1_settleLine_22 : decode cX1_settleLine 22 = .ok (.imul, 1) := by decide +kernel
theorem dX1_settleLine_23 : decode cX1_settleLine 23 = .ok (.istore 4, 2) := by decide +kernel
theorem dX1_settleLine_25 : decode cX1_settleLine 25 = .ok (.iload 4, 2) := by decide +kernel
theorem dX1_settleLine_27 : decode cX1_settleLine 27 = .ok (.iload_n 1, 1) := by decide +kernel
theorem dX1_settleLine_28 : decode cX1_settleLine 28 = .ok (.iconst 1, 1) := by decide +kernel
theorem dX1_settleLine_29 : decode cX1_settleLine 29 = .ok (.iadd, 1) := by decide +kernel
theorem dX1_settleLine_30 : decode cX1_settleLine 30 = .ok (.bipush 8, 2) := by decide +kernel
theorem dX1_settleLine_32 : decode cX1_settleLine 32 = .ok (.imul, 1) := by decide +kernel
theorem dX1_settleLine_33 : decode cX1_settleLine 33 = .ok (.if_icmp .ge 17, 3) := by decide +kernel
theorem dX1_settleLine_36 : decode cX1_settleLine 36 = .ok (.aload_n 3, 1) := by decide +kernel
theorem dX1_settleLine_37 : decode cX1_settleLine 37 = .ok (.iload 4, 2) := by decide +kernel
theorem dX1_settleLine_39 : decode cX1_settleLine 39 = .ok (.aload_n 2, 1) := by decide +kernel
theorem dX1_settleLine_40 : decode cX1_settleLine 40 = .ok (.iload 4, 2) := by decide +kernel
theorem dX1_settleLine_42 : decode cX1_settleLine 42 = .ok (.iaload, 1) := by decide +kernel
theorem dX1_settleLine_43 : decode cX1_settleLine 43 = .ok (.iastore, 1) := by decide +kernel
theorem dX1_settleLine_44 : decode cX1_settleLine 44 = .ok (.iinc 4 1, 3) := by decide +kernel
theorem dX1_settleLine_47 : decode cX1_settleLine 47 = .ok (.goto (-22), 3) := by decide +kernel
theorem dX1_settleLine_50 : decode cX1_settleLine 50 = .ok (.return_, 1) := by decide +kernel
set_option maxRecDepth 20000 in
theorem ggX2_init_X1_init : GoodIn wsX2_init wsX1_init := goodIn_r _ [19, 20, 2, 3, 12, 21, 22, 23, 24, 25, 26, 35, 36, 37, 38, 39] (by decide +kernel) (by decide +kernel)
set_option maxRecDepth 20000 in
theorem gX2_init_X1_init_n9 : GoodIn wsX2_init (wsX1_init) := ggX2_init_X1_init
set_option maxRecDepth 20000 in
theorem ggX2_init_X0_init : GoodIn wsX2_init wsX0_init := goodIn_r _ [29, 30, 2, 3, 12, 31, 32, 33, 34, 47, 48, 49, 50] (by decide +kernel) (by decide +kernel)
set_option maxRecDepth 20000 in
theorem gX2_init_X0_init : GoodIn wsX2_init (wsX0_init) := ggX2_init_X0_init
theorem dX2_init_0 : decode cX2_init 0 = .ok (.aload_n 0, 1) := by decide +kernel
theorem dX2_init_1 : decode cX2_init 1 = .ok (.invokespecial 1, 3) := by decide +kernel
theorem dX2_init_4 : decode cX2_init 4 = .ok (.aload_n 0, 1) := by decide +kernel
theorem dX2_init_5 : decode cX2_init 5 = .ok (.new 7, 3) := by decide +kernel
theorem dX2_init_8 : decode cX2_init 8 = .ok (.dup, 1) := by decide +kernel
theorem dX2_init_9 : decode cX2_init 9 = .ok (.invokespecial 9, 3) := by decide +kernel
theorem dX2_init_12 : decode cX2_init 12 = .ok (.putfield 10, 3) := by decide +kernel
theorem dX2_init_15 : decode cX2_init 15 = .ok (.aload_n 0, 1) := by decide +kernel
theorem dX2_init_16 : decode cX2_init 16 = .ok (.new 16, 3) := by decide +kernel
theorem dX2_init_19 : decode cX2_init 19 = .ok (.dup, 1) := by decide +kernel
theorem dX2_init_20 : decode cX2_init 20 = .ok (.invokespecial 18, 3) := by decide +kernel
theorem dX2_init_23 : decode cX2_init 23 = .ok (.putfield 19, 3) := by decide +kernel
theorem dX2_init_26 : decode cX2_init 26 = .ok (.aload_n 0, 1) := by decide +kernel
theorem dX2_init_27 : decode cX2_init 27 = .ok (.sipush 2040, 3) := by decide +kernel
theorem dX2_init_30 : decode cX2_init 30 = .ok (.newarray .int, 2) := by decide +kernel
theorem dX2_init_32 : decode cX2_init 32 = .ok (.putfield 23, 3) := by decide +kernel
theorem dX2_init_35 : decode cX2_init 35 = .ok (.aload_n 0, 1) := by decide +kernel
theorem dX2_init_36 : decode cX2_init 36 = .ok (.iconst 0, 1) := by decide +kernel
theorem dX2_init_37 : decode cX2_init 37 = .ok (.putfield 27, 3) := by decide +kernel
theorem dX2_init_40 : decode cX2_init 40 = .ok (.aload_n 0, 1) := by decide +kernel
theorem dX2_init_41 : decode cX2_init 41 = .ok (.iconst 0, 1) := by decide +kernel
theorem dX2_init_42 : decode cX2_init 42 = .ok (.putfield 31, 3) := by decide +kernel
theorem dX2_init_45 : decode cX2_init 45 = .ok (.aload_n 0, 1) := by decide +kernel
theorem dX2_init_46 : decode cX2_init 46 = .ok (.iconst 0, 1) := by decide +kernel
theorem dX2_init_47 : decode cX2_init 47 = .ok (.putfield 34, 3) := by decide +kernel
theorem dX2_init_50 : decode cX2_init 50 = .ok (.aload_n 0, 1) := by decide +kernel
theorem dX2_init_51 : decode cX2_init 51 = .ok (.iconst 0, 1) := by decide +kernel
theorem dX2_init_52 : decode cX2_init 52 = .ok (.putfield 37, 3) := by decide +kernel
theorem dX2_init_55 : decode cX2_init 55 = .ok (.return_, 1) := by decide +kernel
set_option maxRecDepth 20000 in
theorem ggX2_alloc_X2_isShape : GoodIn wsX2_alloc wsX2_isShape := goodIn_r _ [6] (by decide +kernel) (by decide +kernel)
set_option maxRecDepth 20000 in
theorem gX2_alloc_X2_isShape : GoodIn wsX2_alloc (va_wsS RX2 40 yX2_isShape wsX2_isShape) := goodIn_app (goodIn_of _ (by decide +kernel)) ggX2_alloc_X2_isShape
set_option maxRecDepth 20000 in
theorem ggX2_alloc_X2_answer : GoodIn wsX2_alloc wsX2_answer := goodIn_r _ [10, 11, 113, 114, 115, 116, 117, 118, 119] (by decide +kernel) (by decide +kernel)
set_option maxRecDepth 20000 in
theorem gX2_alloc_X2_answer : GoodIn wsX2_alloc (wsV RX2 44 RX2 yX2_answer wsX2_answer) := goodIn_app (goodIn_of _ (by decide +kernel)) ggX2_alloc_X2_answer
set_option maxRecDepth 20000 in
theorem ggX2_alloc_X0_placeFor : GoodIn wsX2_alloc wsX0_placeFor := goodIn_r _ [16, 17, 5, 18, 19, 20, 21, 22, 15, 23, 24, 25, 26, 27, 28, 29, 30, 31, 32, 33, 34, 35, 36, 37, 38, 39, 40, 41, 42, 43, 44, 45, 46, 47, 48, 49, 50, 51, 52, 53, 54, 55, 56, 57, 58, 59, 60, 61, 62, 63, 64, 65, 66, 67, 68, 120, 121, 122, 123] (by decide +kernel) (by decide +kernel)
set_option maxRecDepth 20000 in
theorem gX2_alloc_X0_placeFor : GoodIn wsX2_alloc (wsV RX2 48 RX0 yX0_placeFor wsX0_placeFor) := goodIn_app (goodIn_of _ (by decide +kernel)) ggX2_alloc_X0_placeFor
set_option maxRecDepth 20000 in
theorem ggX2_alloc_X0_add : GoodIn wsX2_alloc wsX0_add := goodIn_r _ [72, 44, 73, 74, 15, 75, 17, 5, 18, 19, 76, 77, 78, 79, 28, 29, 30, 31, 45, 46, 47, 80, 81, 82, 83, 52, 53, 84, 85, 86, 87, 36, 37, 38, 39, 88, 89, 90, 120, 121, 122, 123] (by decide +kernel) (by decide +kernel)
set_option maxRecDepth 20000 in
theorem gX2_alloc_X0_add : GoodIn wsX2_alloc (wsV RX2 52 RX0 yX0_add wsX0_add) := goodIn_app (goodIn_of _ (by decide +kernel)) ggX2_alloc_X0_add
set_option maxRecDepth 20000 in
theorem ggX2_alloc_X2_headOf : GoodIn wsX2_alloc wsX2_headOf := goodIn_r _ [93, 94, 95, 96, 97, 98] (by decide +kernel) (by decide +kernel)
set_option maxRecDepth 20000 in
theorem gX2_alloc_X2_headOf : GoodIn wsX2_alloc (va_wsS RX2 56 yX2_headOf wsX2_headOf) := goodIn_app (goodIn_of _ (by decide +kernel)) ggX2_alloc_X2_headOf
set_option maxRecDepth 20000 in
theorem ggX2_alloc_X1_write : GoodIn wsX2_alloc wsX1_write := goodIn_r _ [103, 104, 105, 106, 107, 108, 5, 109, 124, 125, 126, 127, 128] (by decide +kernel) (by decide +kernel)
set_option maxRecDepth 20000 in
theorem gX2_alloc_X1_write : GoodIn wsX2_alloc (wsV RX2 60 RX1 yX1_write wsX1_write) := goodIn_app (goodIn_of _ (by decide +kernel)) ggX2_alloc_X1_write
set_option maxRecDepth 20000 in
theorem ggX2_alloc_X2_wordOf : GoodIn wsX2_alloc wsX2_wordOf := goodIn_r _ [112] (by decide +kernel) (by decide +kernel)
set_option maxRecDepth 20000 in
theorem gX2_alloc_X2_wordOf : GoodIn wsX2_alloc (va_wsS RX2 63 yX2_wordOf wsX2_wordOf) := goodIn_app (goodIn_of _ (by decide +kernel)) ggX2_alloc_X2_wordOf
theorem dX2_alloc_0 : decode cX2_alloc 0 = .ok (.iload_n 1, 1) := by decide +kernel
theorem dX2_alloc_1 : decode cX2_alloc 1 = .ok (.iload_n 2, 1) := by decide +kernel
theorem dX2_alloc_2 : decode cX2_alloc 2 = .ok (.invokestatic 40, 3) := by decide +kernel
theorem dX2_alloc_5 : decode cX2_alloc 5 = .ok (.ifCond .ne 10, 3) := by decide +kernel
theorem dX2_alloc_8 : decode cX2_alloc 8 = .ok (.aload_n 0, 1) := by decide +kernel
theorem dX2_alloc_9 : decode cX2_alloc 9 = .ok (.iconst 3, 1) := by decide +kernel
theorem dX2_alloc_10 : decode cX2_alloc 10 = .ok (.iconst (-1), 1) := by decide +kernel
theorem dX2_alloc_11 : decode cX2_alloc 11 = .ok (.invokevirtual 44, 3) := by decide +kernel
theorem dX2_alloc_14 : decode cX2_alloc 14 = .ok (.ireturn, 1) := by decide +kernel
theorem dX2_alloc_15 : decode cX2_alloc 15 = .ok (.aload_n 0, 1) := by decide +kernel
theorem dX2_alloc_16 : decode cX2_alloc 16 = .ok (.getfield 19, 3) := by decide +kernel
theorem dX2_alloc_19 : decode cX2_alloc 19 = .ok (.iload_n 1, 1) := by decide +kernel
theorem dX2_alloc_20 : decode cX2_alloc 20 = .ok (.invokevirtual 48, 3) := by decide +kernel
theorem dX2_alloc_23 : decode cX2_alloc 23 = .ok (.istore_n 3, 1) := by decide +kernel
theorem dX2_alloc_24 : decode cX2_alloc 24 = .ok (.iload_n 3, 1) := by decide +kernel
theorem dX2_alloc_25 : decode cX2_alloc 25 = .ok (.iconst (-1), 1) := by decide +kernel
theorem dX2_alloc_26 : decode cX2_alloc 26 = .ok (.if_icmp .ne 10, 3) := by decide +kernel
theorem dX2_alloc_29 : decode cX2_alloc 29 = .ok (.aload_n 0, 1) := by decide +kernel
theorem dX2_alloc_30 : decode cX2_alloc 30 = .ok (.iconst 1, 1) := by decide +kernel
theorem dX2_alloc_31 : decode cX2_alloc 31 = .ok (.iconst (-1), 1) := by decide +kernel
theorem dX2_alloc_32 : decode cX2_alloc 32 = .ok (.invokevirtual 44, 3) := by decide +kernel
theorem dX2_alloc_35 : decode cX2_alloc 35 = .ok (.ireturn, 1) := by decide +kernel
theorem dX2_alloc_36 : decode cX2_alloc 36 = .ok (.aload_n 0, 1) := by decide +kernel
theorem dX2_alloc_37 : decode cX2_alloc 37 = .ok (.getfield 19, 3) := by decide +kernel
theorem dX2_alloc_40 : decode cX2_alloc 40 = .ok (.iload_n 3, 1) := by decide +kernel
theorem dX2_alloc_41 : decode cX2_alloc 41 = .ok (.iload_n 1, 1) := by decide +kernel
theorem dX2_alloc_42 : decode cX2_alloc 42 = .ok (.invokevirtual 52, 3) := by decide +kernel
theorem dX2_alloc_45 : decode cX2_alloc 45 = .ok (.aload_n 0, 1) := by decide +kernel
theorem dX2_alloc_46 : decode cX2_alloc 46 = .ok (.getfield 10, 3) := by decide +kernel
theorem dX2_alloc_49 : decode cX2_alloc 49 = .ok (.iload_n 3, 1) := by decide +kernel
theorem dX2_alloc_50 : decode cX2_alloc 50 = .ok (.iload_n 3, 1) := by decide +kernel
theorem dX2_alloc_51 : decode cX2_alloc 51 = .ok (.iload_n 1, 1) := by decide +kernel
theorem dX2_alloc_52 : decode cX2_alloc 52 = .ok (.iload_n 2, 1) := by decide +kernel
theorem dX2_alloc_53 : decode cX2_alloc 53 = .ok (.invokestatic 56, 3) := by decide +kernel
theorem dX2_alloc_56 : decode cX2_alloc 56 = .ok (.invokevirtual 60, 3) := by decide +kernel
theorem dX2_alloc_59 : decode cX2_alloc 59 = .ok (.iconst 0, 1) := by decide +kernel
theorem dX2_alloc_60 : decode cX2_alloc 60 = .ok (.istore 4, 2) := by decide +kernel
theorem dX2_alloc_62 : decode cX2_alloc 62 = .ok (.iload 4, 2) := by decide +kernel
theorem dX2_alloc_64 : decode cX2_alloc 64 = .ok (.iload_n 1, 1) := by decide +kernel
theorem dX2_alloc_65 : decode cX2_alloc 65 = .ok (.if_icmp .ge 23, 3) := by decide +kernel
theorem dX2_alloc_68 : decode cX2_alloc 68 = .ok (.aload_n 0, 1) := by decide +kernel
theorem dX2_alloc_69 : decode cX2_alloc 69 = .ok (.getfield 10, 3) := by decide +kernel
theorem dX2_alloc_72 : decode cX2_alloc 72 = .ok (.iload_n 3, 1) := by decide +kernel
theorem dX2_alloc_73 : decode cX2_alloc 73 = .ok (.iload 4, 2) := by decide +kernel
theorem dX2_alloc_75 : decode cX2_alloc 75 = .ok (.invokestatic 63, 3) := by decide +kernel
theorem dX2_alloc_78 : decode cX2_alloc 78 = .ok (.iconst 0, 1) := by decide +kernel
theorem dX2_alloc_79 : decode cX2_alloc 79 = .ok (.invokevirtual 60, 3) := by decide +kernel
theorem dX2_alloc_82 : decode cX2_alloc 82 = .ok (.iinc 4 1, 3) := by decide +kernel
theorem dX2_alloc_85 : decode cX2_alloc 85 = .ok (.goto (-23), 3) := by decide +kernel
theorem dX2_alloc_88 : decode cX2_alloc 88 = .ok (.aload_n 0, 1) := by decide +kernel
theorem dX2_alloc_89 : decode cX2_alloc 89 = .ok (.iconst 0, 1) := by decide +kernel
theorem dX2_alloc_90 : decode cX2_alloc 90 = .ok (.iload_n 3, 1) := by decide +kernel
theorem dX2_alloc_91 : decode cX2_alloc 91 = .ok (.invokevirtual 44, 3) := by decide +kernel
theorem dX2_alloc_94 : decode cX2_alloc 94 = .ok (.ireturn, 1) := by decide +kernel
set_option maxRecDepth 20000 in
theorem ggX2_free_X0_isLive : GoodIn wsX2_free wsX0_isLive := goodIn_r _ [6, 7, 8, 5, 9, 10, 11, 12, 13, 14, 15, 16, 17, 18, 19, 20, 21, 22, 23, 24, 25, 26, 27, 117, 118, 119, 120] (by decide +kernel) (by decide +kernel)
set_option maxRecDepth 20000 in
theorem gX2_free_X0_isLive : GoodIn wsX2_free (wsV RX2 66 RX0 yX0_isLive wsX0_isLive) := goodIn_app (goodIn_of _ (by decide +kernel)) ggX2_free_X0_isLive
set_option maxRecDepth 20000 in
theorem ggX2_free_X2_answer : GoodIn wsX2_free wsX2_answer := goodIn_r _ [32, 33, 110, 111, 112, 113, 114, 115, 116] (by decide +kernel) (by decide +kernel)
set_option maxRecDepth 20000 in
theorem gX2_free_X2_answer : GoodIn wsX2_free (wsV RX2 44 RX2 yX2_answer wsX2_answer) := goodIn_app (goodIn_of _ (by decide +kernel)) ggX2_free_X2_answer
set_option maxRecDepth 20000 in
theorem ggX2_free_X2_leadsTo : GoodIn wsX2_free wsX2_leadsTo := goodIn_r _ [37, 38, 39, 40, 31, 41, 42, 43, 44, 45, 46, 47, 48, 49, 50, 51, 52, 53, 54, 1, 55, 56, 57, 58, 5, 59, 14, 15, 16, 17, 18, 19, 60, 61, 62, 63, 23, 24, 25, 26, 27, 64, 65, 66, 67, 68, 69, 70, 71, 72, 73, 74, 75, 76, 77, 110, 111, 112, 113, 114, 115, 116, 121, 122, 123, 124, 125, 117, 118, 119, 120] (by decide +kernel) (by decide +kernel)
set_option maxRecDepth 20000 in
theorem gX2_free_X2_leadsTo : GoodIn wsX2_free (wsV RX2 70 RX2 yX2_leadsTo wsX2_leadsTo) := goodIn_app (goodIn_of _ (by decide +kernel)) ggX2_free_X2_leadsTo
set_option maxRecDepth 20000 in
theorem ggX2_free_X2_lengthOf : GoodIn wsX2_free wsX2_lengthOf := goodIn_r _ [81, 82, 83, 84, 31, 85, 42, 43, 44, 45, 46, 47, 48, 49, 50, 86, 87, 88, 110, 111, 112, 113, 114, 115, 116, 121, 122, 123, 124, 125] (by decide +kernel) (by decide +kernel)
set_option maxRecDepth 20000 in
theorem gX2_free_X2_lengthOf : GoodIn wsX2_free (wsV RX2 73 RX2 yX2_lengthOf wsX2_lengthOf) := goodIn_app (goodIn_of _ (by decide +kernel)) ggX2_free_X2_lengthOf
set_option maxRecDepth 20000 in
theorem ggX2_free_X2_release : GoodIn wsX2_free wsX2_release := goodIn_r _ [92, 1, 42, 93, 94, 95, 5, 96, 27, 18, 19, 7, 8, 9, 10, 11, 12, 13, 14, 15, 16, 17, 20, 21, 22, 97, 31, 98, 23, 24, 25, 26, 99, 100, 101, 102, 103, 104, 105, 46, 106, 48, 107, 108, 109, 49, 50, 110, 111, 112, 113, 114, 115, 116, 117, 118, 119, 120, 121, 122, 123, 124, 125] (by decide +kernel) (by decide +kernel)
set_option maxRecDepth 20000 in
theorem gX2_free_X2_release : GoodIn wsX2_free (wsV RX2 76 RX2 yX2_release wsX2_release) := goodIn_app (goodIn_of _ (by decide +kernel)) ggX2_free_X2_release
theorem dX2_free_0 : decode cX2_free 0 = .ok (.aload_n 0, 1) := by decide +kernel
theorem dX2_free_1 : decode cX2_free 1 = .ok (.getfield 19, 3) := by decide +kernel
theorem dX2_free_4 : decode cX2_free 4 = .ok (.iload_n 1, 1) := by decide +kernel
theorem dX2_free_5 : decode cX2_free 5 = .ok (.invokevirtual 66, 3) := by decide +kernel
theorem dX2_free_8 : decode cX2_free 8 = .ok (.ifCond .ne 10, 3) := by decide +kernel
theorem dX2_free_11 : decode cX2_free 11 = .ok (.aload_n 0, 1) := by decide +kernel
theorem dX2_free_12 : decode cX2_free 12 = .ok (.iconst 2, 1) := by decide +kernel
theorem dX2_free_13 : decode cX2_free 13 = .ok (.iconst (-1), 1) := by decide +kernel
theorem dX2_free_14 : decode cX2_free 14 = .ok (.invokevirtual 44, 3) := by decide +kernel
theorem dX2_free_17 : decode cX2_free 17 = .ok (.ireturn, 1) := by decide +kernel
theorem dX2_free_18 : decode cX2_free 18 = .ok (.aload_n 0, 1) := by decide +kernel
theorem dX2_free_19 : decode cX2_free 19 = .ok (.iload_n 1, 1) := by decide +kernel
theorem dX2_free_20 : decode cX2_free 20 = .ok (.invokevirtual 70, 3) := by decide +kernel
theorem dX2_free_23 : decode cX2_free 23 = .ok (.ifCond .le 10, 3) := by decide +kernel
theorem dX2_free_26 : decode cX2_free 26 = .ok (.aload_n 0, 1) := by decide +kernel
theorem dX2_free_27 : decode cX2_free 27 = .ok (.iconst 4, 1) := by decide +kernel
theorem dX2_free_28 : decode cX2_free 28 = .ok (.iconst (-1), 1) := by decide +kernel
theorem dX2_free_29 : decode cX2_free 29 = .ok (.invokevirtual 44, 3) := by decide +kernel
theorem dX2_free_32 : decode cX2_free 32 = .ok (.ireturn, 1) := by decide +kernel
theorem dX2_free_33 : decode cX2_free 33 = .ok (.aload_n 0, 1) := by decide +kernel
theorem dX2_free_34 : decode cX2_free 34 = .ok (.iload_n 1, 1) := by decide +kernel
theorem dX2_free_35 : decode cX2_free 35 = .ok (.invokevirtual 73, 3) := by decide +kernel
theorem dX2_free_38 : decode cX2_free 38 = .ok (.istore_n 2, 1) := by decide +kernel
theorem dX2_free_39 : decode cX2_free 39 = .ok (.aload_n 0, 1) := by decide +kernel
theorem dX2_free_40 : decode cX2_free 40 = .ok (.iload_n 1, 1) := by decide +kernel
theorem dX2_free_41 : decode cX2_free 41 = .ok (.invokevirtual 76, 3) := by decide +kernel
theorem dX2_free_44 : decode cX2_free 44 = .ok (.aload_n 0, 1) := by decide +kernel
theorem dX2_free_45 : decode cX2_free 45 = .ok (.iconst 0, 1) := by decide +kernel
theorem dX2_free_46 : decode cX2_free 46 = .ok (.iload_n 2, 1) := by decide +kernel
theorem dX2_free_47 : decode cX2_free 47 = .ok (.invokevirtual 44, 3) := by decide +kernel
theorem dX2_free_50 : decode cX2_free 50 = .ok (.ireturn, 1) := by decide +kernel
set_option maxRecDepth 20000 in
theorem ggX2_put_X2_hasWord : GoodIn wsX2_put wsX2_hasWord := goodIn_r _ [6, 7, 8, 9, 10, 11, 12, 13, 14, 15, 16, 17, 18, 19, 20, 21, 22, 23, 24, 25, 26, 27, 28, 29, 30, 31, 32, 33, 34, 35, 36, 5, 37, 1, 38, 39, 40, 41, 42, 43, 44, 45, 46, 47, 48, 71, 72, 73, 74, 75, 76, 77, 78, 79, 80, 81, 82, 83, 84, 85, 86] (by decide +kernel) (by decide +kernel)
set_option maxRecDepth 20000 in
theorem gX2_put_X2_hasWord : GoodIn wsX2_put (wsV RX2 80 RX2 yX2_hasWord wsX2_hasWord) := goodIn_app (goodIn_of _ (by decide +kernel)) ggX2_put_X2_hasWord
set_option maxRecDepth 20000 in
theorem ggX2_put_X2_refsOf : GoodIn wsX2_put wsX2_refsOf := goodIn_r _ [52, 1, 38, 39, 40, 41, 42, 43, 44, 5, 45, 53, 54, 55, 71, 72, 73, 74, 75, 76, 77, 82, 83, 84, 85, 86] (by decide +kernel) (by decide +kernel)
set_option maxRecDepth 20000 in
theorem gX2_put_X2_refsOf : GoodIn wsX2_put (wsV RX2 83 RX2 yX2_refsOf wsX2_refsOf) := goodIn_app (goodIn_of _ (by decide +kernel)) ggX2_put_X2_refsOf
set_option maxRecDepth 20000 in
theorem ggX2_put_X2_settle : GoodIn wsX2_put wsX2_settle := goodIn_r _ [59, 60, 71, 72, 73, 74, 75, 76, 77] (by decide +kernel) (by decide +kernel)
set_option maxRecDepth 20000 in
theorem gX2_put_X2_settle : GoodIn wsX2_put (wsV RX2 86 RX2 yX2_settle wsX2_settle) := goodIn_app (goodIn_of _ (by decide +kernel)) ggX2_put_X2_settle
set_option maxRecDepth 20000 in
theorem ggX2_put_X2_wordOf : GoodIn wsX2_put wsX2_wordOf := goodIn_r _ [63] (by decide +kernel) (by decide +kernel)
set_option maxRecDepth 20000 in
theorem gX2_put_X2_wordOf : GoodIn wsX2_put (va_wsS RX2 63 yX2_wordOf wsX2_wordOf) := goodIn_app (goodIn_of _ (by decide +kernel)) ggX2_put_X2_wordOf
set_option maxRecDepth 20000 in
theorem ggX2_put_X1_write : GoodIn wsX2_put wsX1_write := goodIn_r _ [67, 43, 68, 69, 70, 44, 5, 45, 82, 83, 84, 85, 86] (by decide +kernel) (by decide +kernel)
set_option maxRecDepth 20000 in
theorem gX2_put_X1_write : GoodIn wsX2_put (wsV RX2 60 RX1 yX1_write wsX1_write) := goodIn_app (goodIn_of _ (by decide +kernel)) ggX2_put_X1_write
theorem dX2_put_0 : decode cX2_put 0 = .ok (.aload_n 0, 1) := by decide +kernel
theorem dX2_put_1 : decode cX2_put 1 = .ok (.iload_n 1, 1) := by decide +kernel
theorem dX2_put_2 : decode cX2_put 2 = .ok (.iload_n 2, 1) := by decide +kernel
theorem dX2_put_3 : decode cX2_put 3 = .ok (.invokevirtual 80, 3) := by decide +kernel
theorem dX2_put_6 : decode cX2_put 6 = .ok (.ifCond .eq 12, 3) := by decide +kernel
theorem dX2_put_9 : decode cX2_put 9 = .ok (.iload_n 2, 1) := by decide +kernel
theorem dX2_put_10 : decode cX2_put 10 = .ok (.aload_n 0, 1) := by decide +kernel
theorem dX2_put_11 : decode cX2_put 11 = .ok (.iload_n 1, 1) := by decide +kernel
theorem dX2_put_12 : decode cX2_put 12 = .ok (.invokevirtual 83, 3) := by decide +kernel
theorem dX2_put_15 : decode cX2_put 15 = .ok (.if_icmp .ge 9, 3) := by decide +kernel
theorem dX2_put_18 : decode cX2_put 18 = .ok (.aload_n 0, 1) := by decide +kernel
theorem dX2_put_19 : decode cX2_put 19 = .ok (.iconst 2, 1) := by decide +kernel
theorem dX2_put_20 : decode cX2_put 20 = .ok (.invokevirtual 86, 3) := by decide +kernel
theorem dX2_put_23 : decode cX2_put 23 = .ok (.ireturn, 1) := by decide +kernel
theorem dX2_put_24 : decode cX2_put 24 = .ok (.aload_n 0, 1) := by decide +kernel
theorem dX2_put_25 : decode cX2_put 25 = .ok (.getfield 10, 3) := by decide +kernel
theorem dX2_put_28 : decode cX2_put 28 = .ok (.iload_n 1, 1) := by decide +kernel
theorem dX2_put_29 : decode cX2_put 29 = .ok (.iload_n 2, 1) := by decide +kernel
theorem dX2_put_30 : decode cX2_put 30 = .ok (.invokestatic 63, 3) := by decide +kernel
theorem dX2_put_33 : decode cX2_put 33 = .ok (.iload_n 3, 1) := by decide +kernel
theorem dX2_put_34 : decode cX2_put 34 = .ok (.invokevirtual 60, 3) := by decide +kernel
theorem dX2_put_37 : decode cX2_put 37 = .ok (.aload_n 0, 1) := by decide +kernel
theorem dX2_put_38 : decode cX2_put 38 = .ok (.iconst 0, 1) := by decide +kernel
theorem dX2_put_39 : decode cX2_put 39 = .ok (.invokevirtual 86, 3) := by decide +kernel
theorem dX2_put_42 : decode cX2_put 42 = .ok (.ireturn, 1) := by decide +kernel
set_option maxRecDepth 20000 in
theorem ggX2_refer_X2_hasWord : GoodIn wsX2_refer wsX2_hasWord := goodIn_r _ [6, 7, 8, 9, 10, 11, 12, 13, 14, 15, 16, 17, 18, 19, 20, 21, 22, 23, 24, 25, 26, 27, 28, 29, 30, 31, 32, 33, 34, 35, 36, 5, 37, 1, 38, 39, 40, 41, 42, 43, 44, 45, 46, 47, 48, 75, 76, 77, 78, 79, 80, 81, 82, 83, 84, 85, 86, 87, 88, 89, 90] (by decide +kernel) (by decide +kernel)
set_option maxRecDepth 20000 in
theorem gX2_refer_X2_hasWord : GoodIn wsX2_refer (wsV RX2 80 RX2 yX2_hasWord wsX2_hasWord) := goodIn_app (goodIn_of _ (by decide +kernel)) ggX2_refer_X2_hasWord
set_option maxRecDepth 20000 in
theorem ggX2_refer_X2_refsOf : GoodIn wsX2_refer wsX2_refsOf := goodIn_r _ [52, 1, 38, 39, 40, 41, 42, 43, 44, 5, 45, 53, 54, 55, 75, 76, 77, 78, 79, 80, 81, 86, 87, 88, 89, 90] (by decide +kernel) (by decide +kernel)
set_option maxRecDepth 20000 in
theorem gX2_refer_X2_refsOf : GoodIn wsX2_refer (wsV RX2 83 RX2 yX2_refsOf wsX2_refsOf) := goodIn_app (goodIn_of _ (by decide +kernel)) ggX2_refer_X2_refsOf
set_option maxRecDepth 20000 in
theorem ggX2_refer_X2_isTarget : GoodIn wsX2_refer wsX2_isTarget := goodIn_r _ [59, 7, 8, 9, 10, 11, 12, 13, 14, 15, 16, 17, 18, 19, 20, 21, 22, 23, 24, 25, 26, 27, 28, 29, 30, 31, 32, 33, 75, 76, 77, 78, 79, 80, 81, 82, 83, 84, 85] (by decide +kernel) (by decide +kernel)
set_option maxRecDepth 20000 in
theorem gX2_refer_X2_isTarget : GoodIn wsX2_refer (wsV RX2 89 RX2 yX2_isTarget wsX2_isTarget) := goodIn_app (goodIn_of _ (by decide +kernel)) ggX2_refer_X2_isTarget
set_option maxRecDepth 20000 in
theorem ggX2_refer_X2_settle : GoodIn wsX2_refer wsX2_settle := goodIn_r _ [63, 64, 75, 76, 77, 78, 79, 80, 81] (by decide +kernel) (by decide +kernel)
set_option maxRecDepth 20000 in
theorem gX2_refer_X2_settle : GoodIn wsX2_refer (wsV RX2 86 RX2 yX2_settle wsX2_settle) := goodIn_app (goodIn_of _ (by decide +kernel)) ggX2_refer_X2_settle
set_option maxRecDepth 20000 in
theorem ggX2_refer_X2_wordOf : GoodIn wsX2_refer wsX2_wordOf := goodIn_r _ [67] (by decide +kernel) (by decide +kernel)
set_option maxRecDepth 20000 in
theorem gX2_refer_X2_wordOf : GoodIn wsX2_refer (va_wsS RX2 63 yX2_wordOf wsX2_wordOf) := goodIn_app (goodIn_of _ (by decide +kernel)) ggX2_refer_X2_wordOf
set_option maxRecDepth 20000 in
theorem ggX2_refer_X1_write : GoodIn wsX2_refer wsX1_write := goodIn_r _ [71, 43, 72, 73, 74, 44, 5, 45, 86, 87, 88, 89, 90] (by decide +kernel) (by decide +kernel)
set_option maxRecDepth 20000 in
theorem gX2_refer_X1_write : GoodIn wsX2_refer (wsV RX2 60 RX1 yX1_write wsX1_write) := goodIn_app (goodIn_of _ (by decide +kernel)) ggX2_refer_X1_write
theorem dX2_refer_0 : decode cX2_refer 0 = .ok (.aload_n 0, 1) := by decide +kernel
theorem dX2_refer_1 : decode cX2_refer 1 = .ok (.iload_n 1, 1) := by decide +kernel
theorem dX2_refer_2 : decode cX2_refer 2 = .ok (.iload_n 2, 1) := by decide +kernel
theorem dX2_refer_3 : decode cX2_refer 3 = .ok (.invokevirtual 80, 3) := by decide +kernel
theorem dX2_refer_6 : decode cX2_refer 6 = .ok (.ifCond .eq 20, 3) := by decide +kernel
theorem dX2_refer_9 : decode cX2_refer 9 = .ok (.iload_n 2, 1) := by decide +kernel
theorem dX2_refer_10 : decode cX2_refer 10 = .ok (.aload_n 0, 1) := by decide +kernel
theorem dX2_refer_11 : decode cX2_refer 11 = .ok (.iload_n 1, 1) := by decide +kernel
theorem dX2_refer_12 : decode cX2_refer 12 = .ok (.invokevirtual 83, 3) := by decide +kernel
theorem dX2_refer_15 : decode cX2_refer 15 = .ok (.if_icmp .ge 11, 3) := by decide +kernel
theorem dX2_refer_18 : decode cX2_refer 18 = .ok (.aload_n 0, 1) := by decide +kernel
theorem dX2_refer_19 : decode cX2_refer 19 = .ok (.iload_n 3, 1) := by decide +kernel
theorem dX2_refer_20 : decode cX2_refer 20 = .ok (.invokevirtual 89, 3) := by decide +kernel
theorem dX2_refer_23 : decode cX2_refer 23 = .ok (.ifCond .ne 9, 3) := by decide +kernel
theorem dX2_refer_26 : decode cX2_refer 26 = .ok (.aload_n 0, 1) := by decide +kernel
theorem dX2_refer_27 : decode cX2_refer 27 = .ok (.iconst 2, 1) := by decide +kernel
theorem dX2_refer_28 : decode cX2_refer 28 = .ok (.invokevirtual 86, 3) := by decide +kernel
theorem dX2_refer_31 : decode cX2_refer 31 = .ok (.ireturn, 1) := by decide +kernel
theorem dX2_refer_32 : decode cX2_refer 32 = .ok (.aload_n 0, 1) := by decide +kernel
theorem dX2_refer_33 : decode cX2_refer 33 = .ok (.getfield 10, 3) := by decide +kernel
theorem dX2_refer_36 : decode cX2_refer 36 = .ok (.iload_n 1, 1) := by decide +kernel
theorem dX2_refer_37 : decode cX2_refer 37 = .ok (.iload_n 2, 1) := by decide +kernel
theorem dX2_refer_38 : decode cX2_refer 38 = .ok (.invokestatic 63, 3) := by decide +kernel
theorem dX2_refer_41 : decode cX2_refer 41 = .ok (.iload_n 3, 1) := by decide +kernel
theorem dX2_refer_42 : decode cX2_refer 42 = .ok (.invokevirtual 60, 3) := by decide +kernel
theorem dX2_refer_45 : decode cX2_refer 45 = .ok (.aload_n 0, 1) := by decide +kernel
theorem dX2_refer_46 : decode cX2_refer 46 = .ok (.iconst 0, 1) := by decide +kernel
theorem dX2_refer_47 : decode cX2_refer 47 = .ok (.invokevirtual 86, 3) := by decide +kernel
theorem dX2_refer_50 : decode cX2_refer 50 = .ok (.ireturn, 1) := by decide +kernel
set_option maxRecDepth 20000 in
theorem ggX2_get_X2_hasWord : GoodIn wsX2_get wsX2_hasWord := goodIn_r _ [6, 7, 8, 9, 10, 11, 12, 13, 14, 15, 16, 17, 18, 19, 20, 21, 22, 23, 24, 25, 26, 27, 28, 29, 30, 31, 32, 33, 34, 35, 36, 5, 37, 1, 38, 39, 40, 41, 42, 43, 44, 45, 46, 47, 48, 52, 53, 54, 55, 56, 57, 58, 59, 60, 61, 62, 63, 64, 65, 66, 67] (by decide +kernel) (by decide +kernel)
set_option maxRecDepth 20000 in
theorem gX2_get_X2_hasWord : GoodIn wsX2_get (wsV RX2 80 RX2 yX2_hasWord wsX2_hasWord) := goodIn_app (goodIn_of _ (by decide +kernel)) ggX2_get_X2_hasWord
set_option maxRecDepth 20000 in
theorem ggX2_get_X2_wordOf : GoodIn wsX2_get wsX2_wordOf := goodIn_r _ [51] (by decide +kernel) (by decide +kernel)
set_option maxRecDepth 20000 in
theorem gX2_get_X2_wordOf : GoodIn wsX2_get (va_wsS RX2 63 yX2_wordOf wsX2_wordOf) := goodIn_app (goodIn_of _ (by decide +kernel)) ggX2_get_X2_wordOf
set_option maxRecDepth 20000 in
theorem ggX2_get_X1_at : GoodIn wsX2_get wsX1_at := goodIn_r _ [42, 43, 44, 5, 45, 63, 64, 65, 66, 67] (by decide +kernel) (by decide +kernel)
set_option maxRecDepth 20000 in
theorem gX2_get_X1_at : GoodIn wsX2_get (wsV RX2 92 RX1 yX1_at wsX1_at) := goodIn_app (goodIn_of _ (by decide +kernel)) ggX2_get_X1_at
theorem dX2_get_0 : decode cX2_get 0 = .ok (.aload_n 0, 1) := by decide +kernel
theorem dX2_get_1 : decode cX2_get 1 = .ok (.iload_n 1, 1) := by decide +kernel
theorem dX2_get_2 : decode cX2_get 2 = .ok (.iload_n 2, 1) := by decide +kernel
theorem dX2_get_3 : decode cX2_get 3 = .ok (.invokevirtual 80, 3) := by decide +kernel
theorem dX2_get_6 : decode cX2_get 6 = .ok (.ifCond .eq 18, 3) := by decide +kernel
theorem dX2_get_9 : decode cX2_get 9 = .ok (.aload_n 0, 1) := by decide +kernel
theorem dX2_get_10 : decode cX2_get 10 = .ok (.getfield 10, 3) := by decide +kernel
theorem dX2_get_13 : decode cX2_get 13 = .ok (.iload_n 1, 1) := by decide +kernel
theorem dX2_get_14 : decode cX2_get 14 = .ok (.iload_n 2, 1) := by decide +kernel
theorem dX2_get_15 : decode cX2_get 15 = .ok (.invokestatic 63, 3) := by decide +kernel
theorem dX2_get_18 : decode cX2_get 18 = .ok (.invokevirtual 92, 3) := by decide +kernel
theorem dX2_get_21 : decode cX2_get 21 = .ok (.goto 4, 3) := by decide +kernel
theorem dX2_get_24 : decode cX2_get 24 = .ok (.iconst 0, 1) := by decide +kernel
theorem dX2_get_25 : decode cX2_get 25 = .ok (.ireturn, 1) := by decide +kernel
set_option maxRecDepth 20000 in
theorem ggX2_root_X2_isRoot : GoodIn wsX2_root wsX2_isRoot := goodIn_r _ [5] (by decide +kernel) (by decide +kernel)
set_option maxRecDepth 20000 in
theorem gX2_root_X2_isRoot : GoodIn wsX2_root (va_wsS RX2 95 yX2_isRoot wsX2_isRoot) := goodIn_app (goodIn_of _ (by decide +kernel)) ggX2_root_X2_isRoot
set_option maxRecDepth 20000 in
theorem ggX2_root_X2_isTarget : GoodIn wsX2_root wsX2_isTarget := goodIn_r _ [9, 10, 11, 12, 13, 14, 15, 16, 17, 18, 19, 20, 21, 22, 23, 24, 25, 26, 27, 28, 29, 30, 31, 32, 33, 34, 35, 36, 53, 54, 55, 56, 57, 58, 59, 60, 61, 62, 63] (by decide +kernel) (by decide +kernel)
set_option maxRecDepth 20000 in
theorem gX2_root_X2_isTarget : GoodIn wsX2_root (wsV RX2 89 RX2 yX2_isTarget wsX2_isTarget) := goodIn_app (goodIn_of _ (by decide +kernel)) ggX2_root_X2_isTarget
set_option maxRecDepth 20000 in
theorem ggX2_root_X2_settle : GoodIn wsX2_root wsX2_settle := goodIn_r _ [40, 41, 53, 54, 55, 56, 57, 58, 59] (by decide +kernel) (by decide +kernel)
set_option maxRecDepth 20000 in
theorem gX2_root_X2_settle : GoodIn wsX2_root (wsV RX2 86 RX2 yX2_settle wsX2_settle) := goodIn_app (goodIn_of _ (by decide +kernel)) ggX2_root_X2_settle
set_option maxRecDepth 20000 in
theorem ggX2_root_X1_write : GoodIn wsX2_root wsX1_write := goodIn_r _ [46, 47, 48, 49, 50, 51, 4, 52, 64, 65, 66, 67, 68] (by decide +kernel) (by decide +kernel)
set_option maxRecDepth 20000 in
theorem gX2_root_X1_write : GoodIn wsX2_root (wsV RX2 60 RX1 yX1_write wsX1_write) := goodIn_app (goodIn_of _ (by decide +kernel)) ggX2_root_X1_write
theorem dX2_root_0 : decode cX2_root 0 = .ok (.iload_n 1, 1) := by decide +kernel
theorem dX2_root_1 : decode cX2_root 1 = .ok (.invokestatic 95, 3) := by decide +kernel
theorem dX2_root_4 : decode cX2_root 4 = .ok (.ifCond .eq 11, 3) := by decide +kernel
theorem dX2_root_7 : decode cX2_root 7 = .ok (.aload_n 0, 1) := by decide +kernel
theorem dX2_root_8 : decode cX2_root 8 = .ok (.iload_n 2, 1) := by decide +kernel
theorem dX2_root_9 : decode cX2_root 9 = .ok (.invokevirtual 89, 3) := by decide +kernel
theorem dX2_root_12 : decode cX2_root 12 = .ok (.ifCond .ne 9, 3) := by decide +kernel
theorem dX2_root_15 : decode cX2_root 15 = .ok (.aload_n 0, 1) := by decide +kernel
theorem dX2_root_16 : decode cX2_root 16 = .ok (.iconst 2, 1) := by decide +kernel
theorem dX2_root_17 : decode cX2_root 17 = .ok (.invokevirtual 86, 3) := by decide +kernel
theorem dX2_root_20 : decode cX2_root 20 = .ok (.ireturn, 1) := by decide +kernel
theorem dX2_root_21 : decode cX2_root 21 = .ok (.aload_n 0, 1) := by decide +kernel
theorem dX2_root_22 : decode cX2_root 22 = .ok (.getfield 10, 3) := by decide +kernel
theorem dX2_root_25 : decode cX2_root 25 = .ok (.iconst 1, 1) := by decide +kernel
theorem dX2_root_26 : decode cX2_root 26 = .ok (.iload_n 1, 1) := by decide +kernel
theorem dX2_root_27 : decode cX2_root 27 = .ok (.iadd, 1) := by decide +kernel
theorem dX2_root_28 : decode cX2_root 28 = .ok (.iload_n 2, 1) := by decide +kernel
theorem dX2_root_29 : decode cX2_root 29 = .ok (.invokevirtual 60, 3) := by decide +kernel
theorem dX2_root_32 : decode cX2_root 32 = .ok (.aload_n 0, 1) := by decide +kernel
theorem dX2_root_33 : decode cX2_root 33 = .ok (.iconst 0, 1) := by decide +kernel
theorem dX2_root_34 : decode cX2_root 34 = .ok (.invokevirtual 86, 3) := by decide +kernel
theorem dX2_root_37 : decode cX2_root 37 = .ok (.ireturn, 1) := by decide +kernel
set_option maxRecDepth 20000 in
theorem ggX2_rootOf_X2_isRoot : GoodIn wsX2_rootOf wsX2_isRoot := goodIn_r _ [5] (by decide +kernel) (by decide +kernel)
set_option maxRecDepth 20000 in
theorem gX2_rootOf_X2_isRoot : GoodIn wsX2_rootOf (va_wsS RX2 95 yX2_isRoot wsX2_isRoot) := goodIn_app (goodIn_of _ (by decide +kernel)) ggX2_rootOf_X2_isRoot
set_option maxRecDepth 20000 in
theorem ggX2_rootOf_X1_at : GoodIn wsX2_rootOf wsX1_at := goodIn_r _ [10, 11, 12, 4, 13, 21, 22, 23, 24, 25] (by decide +kernel) (by decide +kernel)
set_option maxRecDepth 20000 in
theorem gX2_rootOf_X1_at : GoodIn wsX2_rootOf (wsV RX2 92 RX1 yX1_at wsX1_at) := goodIn_app (goodIn_of _ (by decide +kernel)) ggX2_rootOf_X1_at
theorem dX2_rootOf_0 : decode cX2_rootOf 0 = .ok (.iload_n 1, 1) := by decide +kernel
theorem dX2_rootOf_1 : decode cX2_rootOf 1 = .ok (.invokestatic 95, 3) := by decide +kernel
theorem dX2_rootOf_4 : decode cX2_rootOf 4 = .ok (.ifCond .eq 16, 3) := by decide +kernel
theorem dX2_rootOf_7 : decode cX2_rootOf 7 = .ok (.aload_n 0, 1) := by decide +kernel
theorem dX2_rootOf_8 : decode cX2_rootOf 8 = .ok (.getfield 10, 3) := by decide +kernel
theorem dX2_rootOf_11 : decode cX2_rootOf 11 = .ok (.iconst 1, 1) := by decide +kernel
theorem dX2_rootOf_12 : decode cX2_rootOf 12 = .ok (.iload_n 1, 1) := by decide +kernel
theorem dX2_rootOf_13 : decode cX2_rootOf 13 = .ok (.iadd, 1) := by decide +kernel
theorem dX2_rootOf_14 : decode cX2_rootOf 14 = .ok (.invokevirtual 92, 3) := by decide +kernel
theorem dX2_rootOf_17 : decode cX2_rootOf 17 = .ok (.goto 4, 3) := by decide +kernel
theorem dX2_rootOf_20 : decode cX2_rootOf 20 = .ok (.iconst (-1), 1) := by decide +kernel
theorem dX2_rootOf_21 : decode cX2_rootOf 21 = .ok (.ireturn, 1) := by decide +kernel
set_option maxRecDepth 20000 in
theorem ggX2_fence_X1_keepAll : GoodIn wsX2_fence wsX1_keepAll := goodIn_r _ [6, 7, 8, 9, 10, 5, 11, 12, 13, 14, 15, 16, 17, 18, 19, 20, 21, 22, 23, 31, 32, 33, 34, 35] (by decide +kernel) (by decide +kernel)
set_option maxRecDepth 20000 in
theorem gX2_fence_X1_keepAll : GoodIn wsX2_fence (wsV RX2 98 RX1 yX1_keepAll wsX1_keepAll) := goodIn_app (goodIn_of _ (by decide +kernel)) ggX2_fence_X1_keepAll
theorem dX2_fence_0 : decode cX2_fence 0 = .ok (.aload_n 0, 1) := by decide +kernel
theorem dX2_fence_1 : decode cX2_fence 1 = .ok (.getfield 10, 3) := by decide +kernel
theorem dX2_fence_4 : decode cX2_fence 4 = .ok (.invokevirtual 98, 3) := by decide +kernel
theorem dX2_fence_7 : decode cX2_fence 7 = .ok (.ireturn, 1) := by decide +kernel
set_option maxRecDepth 20000 in
theorem ggX2_crash_X1_keepSome : GoodIn wsX2_crash wsX1_keepSome := goodIn_r _ [8, 9, 10, 11, 12, 13, 14, 7, 15, 16, 17, 18, 19, 20, 21, 170, 171, 172, 173, 174] (by decide +kernel) (by decide +kernel)
set_option maxRecDepth 20000 in
theorem gX2_crash_X1_keepSome : GoodIn wsX2_crash (wsV RX2 102 RX1 yX1_keepSome wsX1_keepSome) := goodIn_app (goodIn_of _ (by decide +kernel)) ggX2_crash_X1_keepSome
set_option maxRecDepth 20000 in
theorem ggX2_crash_X2_recover : GoodIn wsX2_crash wsX2_recover := goodIn_r _ [26, 27, 3, 28, 29, 30, 31, 32, 33, 34, 35, 36, 37, 38, 39, 40, 41, 42, 43, 25, 44, 1, 45, 46, 47, 7, 48, 10, 49, 50, 51, 52, 53, 54, 55, 56, 57, 58, 59, 60, 61, 62, 63, 64, 65, 66, 67, 68, 69, 70, 71, 72, 73, 74, 75, 76, 77, 78, 79, 80, 81, 82, 83, 84, 85, 86, 87, 88, 89, 90, 91, 92, 93, 94, 95, 96, 97, 98, 99, 100, 101, 102, 103, 104, 105, 106, 107, 108, 109, 110, 111, 112, 113, 114, 115, 116, 117, 118, 119, 120, 121, 122, 123, 124, 125, 126, 127, 128, 129, 130, 131, 132, 133, 134, 135, 136, 137, 138, 139, 140, 141, 142, 143, 144, 145, 146, 147, 148, 149, 150, 151, 152, 153, 154, 155, 21, 9, 16, 156, 157, 158, 159, 160, 161, 162, 163, 164, 165, 166, 167, 168, 169, 175, 176, 177, 178, 170, 171, 172, 173, 174] (by decide +kernel) (by decide +kernel)
set_option maxRecDepth 20000 in
theorem gX2_crash_X2_recover : GoodIn wsX2_crash (wsV RX2 105 RX2 yX2_recover wsX2_recover) := goodIn_app (goodIn_of _ (by decide +kernel)) ggX2_crash_X2_recover
theorem dX2_crash_0 : decode cX2_crash 0 = .ok (.aload_n 0, 1) := by decide +kernel
theorem dX2_crash_1 : decode cX2_crash 1 = .ok (.getfield 10, 3) := by decide +kernel
theorem dX2_crash_4 : decode cX2_crash 4 = .ok (.iload_n 1, 1) := by decide +kernel
theorem dX2_crash_5 : decode cX2_crash 5 = .ok (.invokevirtual 102, 3) := by decide +kernel
theorem dX2_crash_8 : decode cX2_crash 8 = .ok (.aload_n 0, 1) := by decide +kernel
theorem dX2_crash_9 : decode cX2_crash 9 = .ok (.dup, 1) := by decide +kernel
theorem dX2_crash_10 : decode cX2_crash 10 = .ok (.getfield 34, 3) := by decide +kernel
theorem dX2_crash_13 : decode cX2_crash 13 = .ok (.iconst 1, 1) := by decide +kernel
theorem dX2_crash_14 : decode cX2_crash 14 = .ok (.iadd, 1) := by decide +kernel
theorem dX2_crash_15 : decode cX2_crash 15 = .ok (.putfield 34, 3) := by decide +kernel
theorem dX2_crash_18 : decode cX2_crash 18 = .ok (.aload_n 0, 1) := by decide +kernel
theorem dX2_crash_19 : decode cX2_crash 19 = .ok (.invokevirtual 105, 3) := by decide +kernel
theorem dX2_crash_22 : decode cX2_crash 22 = .ok (.aload_n 0, 1) := by decide +kernel
theorem dX2_crash_23 : decode cX2_crash 23 = .ok (.getfield 27, 3) := by decide +kernel
theorem dX2_crash_26 : decode cX2_crash 26 = .ok (.ireturn, 1) := by decide +kernel
set_option maxRecDepth 20000 in
theorem ggX2_collect_X2_markReached : GoodIn wsX2_collect wsX2_markReached := goodIn_r _ [6, 1, 7, 8, 9, 10, 11, 12, 13, 14, 15, 16, 17, 18, 19, 20, 21, 5, 22, 23, 24, 25, 26, 27, 28, 29, 30, 31, 32, 33, 34, 35, 36, 37, 38, 39, 40, 41, 42, 43, 44, 45, 46, 47, 48, 49, 50, 51, 52, 53, 54, 55, 56, 57, 58, 59, 60, 61, 62, 63, 64, 65, 66, 67, 68, 69, 70, 71, 72, 73, 74, 75, 76, 77, 78, 79, 80, 81, 82, 83, 84, 117, 118, 119, 120, 121, 122, 123, 124, 125, 126, 127, 128, 129, 130, 131, 132] (by decide +kernel) (by decide +kernel)
set_option maxRecDepth 20000 in
theorem gX2_collect_X2_markReached : GoodIn wsX2_collect (wsV RX2 108 RX2 yX2_markReached wsX2_markReached) := goodIn_app (goodIn_of _ (by decide +kernel)) ggX2_collect_X2_markReached
set_option maxRecDepth 20000 in
theorem ggX2_collect_X2_listLive : GoodIn wsX2_collect wsX2_listLive := goodIn_r _ [88, 1, 8, 89, 90, 91, 12, 92, 49, 50, 51, 52, 53, 54, 93, 94, 95, 96, 58, 59, 60, 61, 62, 117, 118, 119, 120, 121, 122, 123, 124, 125, 126, 127] (by decide +kernel) (by decide +kernel)
set_option maxRecDepth 20000 in
theorem gX2_collect_X2_listLive : GoodIn wsX2_collect (wsV RX2 111 RX2 yX2_listLive wsX2_listLive) := goodIn_app (goodIn_of _ (by decide +kernel)) ggX2_collect_X2_listLive
set_option maxRecDepth 20000 in
theorem ggX2_collect_X2_rowAt : GoodIn wsX2_collect wsX2_rowAt := goodIn_r _ [74, 8, 117, 118, 119, 120, 121, 122, 123] (by decide +kernel) (by decide +kernel)
set_option maxRecDepth 20000 in
theorem gX2_collect_X2_rowAt : GoodIn wsX2_collect (wsV RX2 114 RX2 yX2_rowAt wsX2_rowAt) := goodIn_app (goodIn_of _ (by decide +kernel)) ggX2_collect_X2_rowAt
set_option maxRecDepth 20000 in
theorem ggX2_collect_X0_isMarked : GoodIn wsX2_collect wsX0_isMarked := goodIn_r _ [66, 14, 36, 37, 12, 38, 45, 46, 47, 48, 49, 50, 51, 52, 53, 54, 55, 56, 57, 39, 5, 40, 58, 59, 60, 61, 62, 124, 125, 126, 127] (by decide +kernel) (by decide +kernel)
set_option maxRecDepth 20000 in
theorem gX2_collect_X0_isMarked : GoodIn wsX2_collect (wsV RX2 117 RX0 yX0_isMarked wsX0_isMarked) := goodIn_app (goodIn_of _ (by decide +kernel)) ggX2_collect_X0_isMarked
set_option maxRecDepth 20000 in
theorem ggX2_collect_X2_release : GoodIn wsX2_collect wsX2_release := goodIn_r _ [101, 1, 23, 102, 103, 104, 12, 105, 62, 53, 54, 36, 37, 38, 45, 46, 47, 48, 49, 50, 51, 52, 55, 56, 57, 39, 5, 40, 58, 59, 60, 61, 106, 107, 108, 109, 110, 111, 112, 27, 113, 29, 114, 115, 116, 30, 31, 117, 118, 119, 120, 121, 122, 123, 124, 125, 126, 127, 128, 129, 130, 131, 132] (by decide +kernel) (by decide +kernel)
set_option maxRecDepth 20000 in
theorem gX2_collect_X2_release : GoodIn wsX2_collect (wsV RX2 76 RX2 yX2_release wsX2_release) := goodIn_app (goodIn_of _ (by decide +kernel)) ggX2_collect_X2_release
theorem dX2_collect_0 : decode cX2_collect 0 = .ok (.aload_n 0, 1) := by decide +kernel
theorem dX2_collect_1 : decode cX2_collect 1 = .ok (.invokevirtual 108, 3) := by decide +kernel
theorem dX2_collect_4 : decode cX2_collect 4 = .ok (.aload_n 0, 1) := by decide +kernel
theorem dX2_collect_5 : decode cX2_collect 5 = .ok (.invokevirtual 111, 3) := by decide +kernel
theorem dX2_collect_8 : decode cX2_collect 8 = .ok (.istore_n 1, 1) := by decide +kernel
theorem dX2_collect_9 : decode cX2_collect 9 = .ok (.iconst 0, 1) := by decide +kernel
theorem dX2_collect_10 : decode cX2_collect 10 = .ok (.istore_n 2, 1) := by decide +kernel
theorem dX2_collect_11 : decode cX2_collect 11 = .ok (.iconst 0, 1) := by decide +kernel
theorem dX2_collect_12 : decode cX2_collect 12 = .ok (.istore_n 3, 1) := by decide +kernel
theorem dX2_collect_13 : decode cX2_collect 13 = .ok (.iload_n 3, 1) := by decide +kernel
theorem dX2_collect_14 : decode cX2_collect 14 = .ok (.iload_n 1, 1) := by decide +kernel
theorem dX2_collect_15 : decode cX2_collect 15 = .ok (.if_icmp .ge 37, 3) := by decide +kernel
theorem dX2_collect_18 : decode cX2_collect 18 = .ok (.aload_n 0, 1) := by decide +kernel
theorem dX2_collect_19 : decode cX2_collect 19 = .ok (.iload_n 3, 1) := by decide +kernel
theorem dX2_collect_20 : decode cX2_collect 20 = .ok (.invokevirtual 114, 3) := by decide +kernel
theorem dX2_collect_23 : decode cX2_collect 23 = .ok (.istore 4, 2) := by decide +kernel
theorem dX2_collect_25 : decode cX2_collect 25 = .ok (.aload_n 0, 1) := by decide +kernel
theorem dX2_collect_26 : decode cX2_collect 26 = .ok (.getfield 19, 3) := by decide +kernel
theorem dX2_collect_29 : decode cX2_collect 29 = .ok (.iload 4, 2) := by decide +kernel
theorem dX2_collect_31 : decode cX2_collect 31 = .ok (.invokevirtual 117, 3) := by decide +kernel
theorem dX2_collect_34 : decode cX2_collect 34 = .ok (.ifCond .ne 12, 3) := by decide +kernel
theorem dX2_collect_37 : decode cX2_collect 37 = .ok (.aload_n 0, 1) := by decide +kernel
theorem dX2_collect_38 : decode cX2_collect 38 = .ok (.iload 4, 2) := by decide +kernel
theorem dX2_collect_40 : decode cX2_collect 40 = .ok (.invokevirtual 76, 3) := by decide +kernel
theorem dX2_collect_43 : decode cX2_collect 43 = .ok (.iinc 2 1, 3) := by decide +kernel
theorem dX2_collect_46 : decode cX2_collect 46 = .ok (.iinc 3 1, 3) := by decide +kernel
theorem dX2_collect_49 : decode cX2_collect 49 = .ok (.goto (-36), 3) := by decide +kernel
theorem dX2_collect_52 : decode cX2_collect 52 = .ok (.iload_n 2, 1) := by decide +kernel
theorem dX2_collect_53 : decode cX2_collect 53 = .ok (.ireturn, 1) := by decide +kernel
set_option maxRecDepth 20000 in
theorem ggX2_word_X1_keptAt : GoodIn wsX2_word wsX1_keptAt := goodIn_r _ [6, 7, 8, 9, 10, 23, 24, 25, 26, 27] (by decide +kernel) (by decide +kernel)
set_option maxRecDepth 20000 in
theorem gX2_word_X1_keptAt : GoodIn wsX2_word (wsV RX2 120 RX1 yX1_keptAt wsX1_keptAt) := goodIn_app (goodIn_of _ (by decide +kernel)) ggX2_word_X1_keptAt
set_option maxRecDepth 20000 in
theorem ggX2_word_X1_at : GoodIn wsX2_word wsX1_at := goodIn_r _ [14, 15, 8, 9, 10, 23, 24, 25, 26, 27] (by decide +kernel) (by decide +kernel)
set_option maxRecDepth 20000 in
theorem gX2_word_X1_at : GoodIn wsX2_word (wsV RX2 92 RX1 yX1_at wsX1_at) := goodIn_app (goodIn_of _ (by decide +kernel)) ggX2_word_X1_at
theorem dX2_word_0 : decode cX2_word 0 = .ok (.iload_n 2, 1) := by decide +kernel
theorem dX2_word_1 : decode cX2_word 1 = .ok (.ifCond .eq 14, 3) := by decide +kernel
theorem dX2_word_4 : decode cX2_word 4 = .ok (.aload_n 0, 1) := by decide +kernel
theorem dX2_word_5 : decode cX2_word 5 = .ok (.getfield 10, 3) := by decide +kernel
theorem dX2_word_8 : decode cX2_word 8 = .ok (.iload_n 1, 1) := by decide +kernel
theorem dX2_word_9 : decode cX2_word 9 = .ok (.invokevirtual 120, 3) := by decide +kernel
theorem dX2_word_12 : decode cX2_word 12 = .ok (.goto 11, 3) := by decide +kernel
theorem dX2_word_15 : decode cX2_word 15 = .ok (.aload_n 0, 1) := by decide +kernel
theorem dX2_word_16 : decode cX2_word 16 = .ok (.getfield 10, 3) := by decide +kernel
theorem dX2_word_19 : decode cX2_word 19 = .ok (.iload_n 1, 1) := by decide +kernel
theorem dX2_word_20 : decode cX2_word 20 = .ok (.invokevirtual 92, 3) := by decide +kernel
theorem dX2_word_23 : decode cX2_word 23 = .ok (.ireturn, 1) := by decide +kernel
set_option maxRecDepth 20000 in
theorem ggX2_scribble_X2_settle : GoodIn wsX2_scribble wsX2_settle := goodIn_r _ [6, 7, 69, 70, 71, 72, 73, 74, 75] (by decide +kernel) (by decide +kernel)
set_option maxRecDepth 20000 in
theorem gX2_scribble_X2_settle : GoodIn wsX2_scribble (wsV RX2 86 RX2 yX2_settle wsX2_settle) := goodIn_app (goodIn_of _ (by decide +kernel)) ggX2_scribble_X2_settle
set_option maxRecDepth 20000 in
theorem ggX2_scribble_X2_isOfBlock : GoodIn wsX2_scribble wsX2_isOfBlock := goodIn_r _ [11, 12, 13, 14, 15, 16, 17, 18, 19, 20, 21, 22, 23, 5, 24, 25, 26, 27, 28, 29, 30, 31, 32, 33, 34, 35, 36, 37, 38, 39, 40, 41, 42, 43, 44, 45, 46, 47, 48, 49, 50, 1, 51, 52, 53, 54, 55, 56, 57, 58, 59, 60, 61, 69, 70, 71, 72, 73, 74, 75, 76, 77, 78, 79, 80, 81, 82, 83, 84] (by decide +kernel) (by decide +kernel)
set_option maxRecDepth 20000 in
theorem gX2_scribble_X2_isOfBlock : GoodIn wsX2_scribble (wsV RX2 123 RX2 yX2_isOfBlock wsX2_isOfBlock) := goodIn_app (goodIn_of _ (by decide +kernel)) ggX2_scribble_X2_isOfBlock
set_option maxRecDepth 20000 in
theorem ggX2_scribble_X1_write : GoodIn wsX2_scribble wsX1_write := goodIn_r _ [65, 56, 66, 67, 68, 57, 5, 58, 80, 81, 82, 83, 84] (by decide +kernel) (by decide +kernel)
set_option maxRecDepth 20000 in
theorem gX2_scribble_X1_write : GoodIn wsX2_scribble (wsV RX2 60 RX1 yX1_write wsX1_write) := goodIn_app (goodIn_of _ (by decide +kernel)) ggX2_scribble_X1_write
theorem dX2_scribble_0 : decode cX2_scribble 0 = .ok (.iload_n 1, 1) := by decide +kernel
theorem dX2_scribble_1 : decode cX2_scribble 1 = .ok (.bipush 16, 2) := by decide +kernel
theorem dX2_scribble_3 : decode cX2_scribble 3 = .ok (.if_icmp .lt 10, 3) := by decide +kernel
theorem dX2_scribble_6 : decode cX2_scribble 6 = .ok (.iload_n 1, 1) := by decide +kernel
theorem dX2_scribble_7 : decode cX2_scribble 7 = .ok (.sipush 4096, 3) := by decide +kernel
theorem dX2_scribble_10 : decode cX2_scribble 10 = .ok (.if_icmp .lt 9, 3) := by decide +kernel
theorem dX2_scribble_13 : decode cX2_scribble 13 = .ok (.aload_n 0, 1) := by decide +kernel
theorem dX2_scribble_14 : decode cX2_scribble 14 = .ok (.iconst 3, 1) := by decide +kernel
theorem dX2_scribble_15 : decode cX2_scribble 15 = .ok (.invokevirtual 86, 3) := by decide +kernel
theorem dX2_scribble_18 : decode cX2_scribble 18 = .ok (.ireturn, 1) := by decide +kernel
theorem dX2_scribble_19 : decode cX2_scribble 19 = .ok (.aload_n 0, 1) := by decide +kernel
theorem dX2_scribble_20 : decode cX2_scribble 20 = .ok (.iload_n 1, 1) := by decide +kernel
theorem dX2_scribble_21 : decode cX2_scribble 21 = .ok (.invokevirtual 123, 3) := by decide +kernel
theorem dX2_scribble_24 : decode cX2_scribble 24 = .ok (.ifCond .eq 9, 3) := by decide +kernel
theorem dX2_scribble_27 : decode cX2_scribble 27 = .ok (.aload_n 0, 1) := by decide +kernel
theorem dX2_scribble_28 : decode cX2_scribble 28 = .ok (.iconst 2, 1) := by decide +kernel
theorem dX2_scribble_29 : decode cX2_scribble 29 = .ok (.invokevirtual 86, 3) := by decide +kernel
theorem dX2_scribble_32 : decode cX2_scribble 32 = .ok (.ireturn, 1) := by decide +kernel
theorem dX2_scribble_33 : decode cX2_scribble 33 = .ok (.aload_n 0, 1) := by decide +kernel
theorem dX2_scribble_34 : decode cX2_scribble 34 = .ok (.getfield 10, 3) := by decide +kernel
theorem dX2_scribble_37 : decode cX2_scribble 37 = .ok (.iload_n 1, 1) := by decide +kernel
theorem dX2_scribble_38 : decode cX2_scribble 38 = .ok (.iload_n 2, 1) := by decide +kernel
theorem dX2_scribble_39 : decode cX2_scribble 39 = .ok (.invokevirtual 60, 3) := by decide +kernel
theorem dX2_scribble_42 : decode cX2_scribble 42 = .ok (.aload_n 0, 1) := by decide +kernel
theorem dX2_scribble_43 : decode cX2_scribble 43 = .ok (.iconst 0, 1) := by decide +kernel
theorem dX2_scribble_44 : decode cX2_scribble 44 = .ok (.invokevirtual 86, 3) := by decide +kernel
theorem dX2_scribble_47 : decode cX2_scribble 47 = .ok (.ireturn, 1) := by decide +kernel
set_option maxRecDepth 20000 in
theorem ggX2_block_X0_isLive : GoodIn wsX2_block wsX0_isLive := goodIn_r _ [6, 7, 8, 5, 9, 10, 11, 12, 13, 14, 15, 16, 17, 18, 19, 20, 21, 22, 23, 24, 25, 26, 27, 94, 95, 96, 97] (by decide +kernel) (by decide +kernel)
set_option maxRecDepth 20000 in
theorem gX2_block_X0_isLive : GoodIn wsX2_block (wsV RX2 66 RX0 yX0_isLive wsX0_isLive) := goodIn_app (goodIn_of _ (by decide +kernel)) ggX2_block_X0_isLive
set_option maxRecDepth 20000 in
theorem ggX2_block_X2_sizeOf : GoodIn wsX2_block wsX2_sizeOf := goodIn_r _ [32, 33, 34, 35, 36, 37, 38, 39, 40, 31, 41, 42, 43, 44, 87, 88, 89, 90, 91, 92, 93, 98, 99, 100, 101, 102] (by decide +kernel) (by decide +kernel)
set_option maxRecDepth 20000 in
theorem gX2_block_X2_sizeOf : GoodIn wsX2_block (wsV RX2 126 RX2 yX2_sizeOf wsX2_sizeOf) := goodIn_app (goodIn_of _ (by decide +kernel)) ggX2_block_X2_sizeOf
set_option maxRecDepth 20000 in
theorem ggX2_block_X2_refsOf : GoodIn wsX2_block wsX2_refsOf := goodIn_r _ [48, 33, 34, 35, 36, 37, 38, 39, 40, 31, 41, 49, 50, 51, 87, 88, 89, 90, 91, 92, 93, 98, 99, 100, 101, 102] (by decide +kernel) (by decide +kernel)
set_option maxRecDepth 20000 in
theorem gX2_block_X2_refsOf : GoodIn wsX2_block (wsV RX2 83 RX2 yX2_refsOf wsX2_refsOf) := goodIn_app (goodIn_of _ (by decide +kernel)) ggX2_block_X2_refsOf
set_option maxRecDepth 20000 in
theorem ggX2_block_X2_classFor : GoodIn wsX2_block wsX2_classFor := goodIn_r _ [54, 55] (by decide +kernel) (by decide +kernel)
set_option maxRecDepth 20000 in
theorem gX2_block_X2_classFor : GoodIn wsX2_block (va_wsS RX2 129 yX2_classFor wsX2_classFor) := goodIn_app (goodIn_of _ (by decide +kernel)) ggX2_block_X2_classFor
set_option maxRecDepth 20000 in
theorem ggX2_block_X2_orderFor : GoodIn wsX2_block wsX2_orderFor := goodIn_r _ [58, 52, 53, 31, 54, 55] (by decide +kernel) (by decide +kernel)
set_option maxRecDepth 20000 in
theorem gX2_block_X2_orderFor : GoodIn wsX2_block (va_wsS RX2 132 yX2_orderFor wsX2_orderFor) := goodIn_app (goodIn_of _ (by decide +kernel)) ggX2_block_X2_orderFor
set_option maxRecDepth 20000 in
theorem ggX2_block_X2_leadsTo : GoodIn wsX2_block wsX2_leadsTo := goodIn_r _ [62, 63, 64, 65, 31, 66, 33, 34, 35, 36, 37, 38, 39, 40, 41, 67, 68, 69, 70, 1, 71, 72, 73, 74, 5, 75, 14, 15, 16, 17, 18, 19, 76, 77, 78, 79, 23, 24, 25, 26, 27, 80, 81, 82, 83, 84, 85, 86, 45, 46, 47, 48, 49, 50, 51, 87, 88, 89, 90, 91, 92, 93, 98, 99, 100, 101, 102, 94, 95, 96, 97] (by decide +kernel) (by decide +kernel)
set_option maxRecDepth 20000 in
theorem gX2_block_X2_leadsTo : GoodIn wsX2_block (wsV RX2 70 RX2 yX2_leadsTo wsX2_leadsTo) := goodIn_app (goodIn_of _ (by decide +kernel)) ggX2_block_X2_leadsTo
theorem dX2_block_0 : decode cX2_block 0 = .ok (.aload_n 0, 1) := by decide +kernel
theorem dX2_block_1 : decode cX2_block 1 = .ok (.getfield 19, 3) := by decide +kernel
theorem dX2_block_4 : decode cX2_block 4 = .ok (.iload_n 1, 1) := by decide +kernel
theorem dX2_block_5 : decode cX2_block 5 = .ok (.invokevirtual 66, 3) := by decide +kernel
theorem dX2_block_8 : decode cX2_block 8 = .ok (.ifCond .ne 5, 3) := by decide +kernel
theorem dX2_block_11 : decode cX2_block 11 = .ok (.iconst (-1), 1) := by decide +kernel
theorem dX2_block_12 : decode cX2_block 12 = .ok (.ireturn, 1) := by decide +kernel
theorem dX2_block_13 : decode cX2_block 13 = .ok (.iload_n 2, 1) := by decide +kernel
theorem dX2_block_14 : decode cX2_block 14 = .ok (.tableswitch 70 0 4 #[34, 40, 46, 55, 64], 34) := by decide +kernel
theorem dX2_block_48 : decode cX2_block 48 = .ok (.aload_n 0, 1) := by decide +kernel
theorem dX2_block_49 : decode cX2_block 49 = .ok (.iload_n 1, 1) := by decide +kernel
theorem dX2_block_50 : decode cX2_block 50 = .ok (.invokevirtual 126, 3) := by decide +kernel
theorem dX2_block_53 : decode cX2_block 53 = .ok (.ireturn, 1) := by decide +kernel
theorem dX2_block_54 : decode cX2_block 54 = .ok (.aload_n 0, 1) := by decide +kernel
theorem dX2_block_55 : decode cX2_block 55 = .ok (.iload_n 1, 1) := by decide +kernel
theorem dX2_block_56 : decode cX2_block 56 = .ok (.invokevirtual 83, 3) := by decide +kernel
theorem dX2_block_59 : decode cX2_block 59 = .ok (.ireturn, 1) := by decide +kernel
theorem dX2_block_60 : decode cX2_block 60 = .ok (.aload_n 0, 1) := by decide +kernel
theorem dX2_block_61 : decode cX2_block 61 = .ok (.iload_n 1, 1) := by decide +kernel
theorem dX2_block_62 : decode cX2_block 62 = .ok (.invokevirtual 126, 3) := by decide +kernel
theorem dX2_block_65 : decode cX2_block 65 = .ok (.invokestatic 129, 3) := by decide +kernel
theorem dX2_block_68 : decode cX2_block 68 = .ok (.ireturn, 1) := by decide +kernel
theorem dX2_block_69 : decode cX2_block 69 = .ok (.aload_n 0, 1) := by decide +kernel
theorem dX2_block_70 : decode cX2_block 70 = .ok (.iload_n 1, 1) := by decide +kernel
theorem dX2_block_71 : decode cX2_block 71 = .ok (.invokevirtual 126, 3) := by decide +kernel
theorem dX2_block_74 : decode cX2_block 74 = .ok (.invokestatic 132, 3) := by decide +kernel
theorem dX2_block_77 : decode cX2_block 77 = .ok (.ireturn, 1) := by decide +kernel
theorem dX2_block_78 : decode cX2_block 78 = .ok (.aload_n 0, 1) := by decide +kernel
theorem dX2_block_79 : decode cX2_block 79 = .ok (.iload_n 1, 1) := by decide +kernel
theorem dX2_block_80 : decode cX2_block 80 = .ok (.invokevirtual 70, 3) := by decide +kernel
theorem dX2_block_83 : decode cX2_block 83 = .ok (.ireturn, 1) := by decide +kernel
theorem dX2_block_84 : decode cX2_block 84 = .ok (.iconst (-1), 1) := by decide +kernel
theorem dX2_block_85 : decode cX2_block 85 = .ok (.ireturn, 1) := by decide +kernel
set_option maxRecDepth 20000 in
theorem ggX2_live_X2_listLive : GoodIn wsX2_live wsX2_listLive := goodIn_r _ [5, 6, 7, 8, 9, 10, 11, 12, 13, 14, 15, 16, 17, 18, 19, 20, 21, 22, 23, 24, 25, 26, 27, 32, 33, 34, 35, 36, 37, 38, 39, 40, 41, 42] (by decide +kernel) (by decide +kernel)
set_option maxRecDepth 20000 in
theorem gX2_live_X2_listLive : GoodIn wsX2_live (wsV RX2 111 RX2 yX2_listLive wsX2_listLive) := goodIn_app (goodIn_of _ (by decide +kernel)) ggX2_live_X2_listLive
set_option maxRecDepth 20000 in
theorem ggX2_live_X2_rowAt : GoodIn wsX2_live wsX2_rowAt := goodIn_r _ [31, 7, 32, 33, 34, 35, 36, 37, 38] (by decide +kernel) (by decide +kernel)
set_option maxRecDepth 20000 in
theorem gX2_live_X2_rowAt : GoodIn wsX2_live (wsV RX2 114 RX2 yX2_rowAt wsX2_rowAt) := goodIn_app (goodIn_of _ (by decide +kernel)) ggX2_live_X2_rowAt
theorem dX2_live_0 : decode cX2_live 0 = .ok (.aload_n 0, 1) := by decide +kernel
theorem dX2_live_1 : decode cX2_live 1 = .ok (.invokevirtual 111, 3) := by decide +kernel
theorem dX2_live_4 : decode cX2_live 4 = .ok (.istore_n 2, 1) := by decide +kernel
theorem dX2_live_5 : decode cX2_live 5 = .ok (.iload_n 1, 1) := by decide +kernel
theorem dX2_live_6 : decode cX2_live 6 = .ok (.ifCond .lt 16, 3) := by decide +kernel
theorem dX2_live_9 : decode cX2_live 9 = .ok (.iload_n 1, 1) := by decide +kernel
theorem dX2_live_10 : decode cX2_live 10 = .ok (.iload_n 2, 1) := by decide +kernel
theorem dX2_live_11 : decode cX2_live 11 = .ok (.if_icmp .ge 11, 3) := by decide +kernel
theorem dX2_live_14 : decode cX2_live 14 = .ok (.aload_n 0, 1) := by decide +kernel
theorem dX2_live_15 : decode cX2_live 15 = .ok (.iload_n 1, 1) := by decide +kernel
theorem dX2_live_16 : decode cX2_live 16 = .ok (.invokevirtual 114, 3) := by decide +kernel
theorem dX2_live_19 : decode cX2_live 19 = .ok (.goto 4, 3) := by decide +kernel
theorem dX2_live_22 : decode cX2_live 22 = .ok (.iconst (-1), 1) := by decide +kernel
theorem dX2_live_23 : decode cX2_live 23 = .ok (.ireturn, 1) := by decide +kernel
set_option maxRecDepth 20000 in
theorem ggX2_page_X2_isPage : GoodIn wsX2_page wsX2_isPage := goodIn_r _ [5] (by decide +kernel) (by decide +kernel)
set_option maxRecDepth 20000 in
theorem gX2_page_X2_isPage : GoodIn wsX2_page (va_wsS RX2 135 yX2_isPage wsX2_isPage) := goodIn_app (goodIn_of _ (by decide +kernel)) ggX2_page_X2_isPage
set_option maxRecDepth 20000 in
theorem ggX2_page_X0_kindOf : GoodIn wsX2_page wsX0_kindOf := goodIn_r _ [10, 11, 59, 60, 61, 62] (by decide +kernel) (by decide +kernel)
set_option maxRecDepth 20000 in
theorem gX2_page_X0_kindOf : GoodIn wsX2_page (wsV RX2 138 RX0 yX0_kindOf wsX0_kindOf) := goodIn_app (goodIn_of _ (by decide +kernel)) ggX2_page_X0_kindOf
set_option maxRecDepth 20000 in
theorem ggX2_page_X0_formOf : GoodIn wsX2_page wsX0_formOf := goodIn_r _ [15, 11, 16, 3, 4, 5, 17, 18, 19, 9, 20, 21, 22, 23, 24, 25, 26, 27, 28, 29, 30, 31, 32, 33, 34, 7, 8, 10, 59, 60, 61, 62] (by decide +kernel) (by decide +kernel)
set_option maxRecDepth 20000 in
theorem gX2_page_X0_formOf : GoodIn wsX2_page (wsV RX2 141 RX0 yX0_formOf wsX0_formOf) := goodIn_app (goodIn_of _ (by decide +kernel)) ggX2_page_X0_formOf
set_option maxRecDepth 20000 in
theorem ggX2_page_X0_blocksOn : GoodIn wsX2_page wsX0_blocksOn := goodIn_r _ [38, 39, 3, 4, 5, 40, 41, 42, 43, 44, 45, 46, 59, 60, 61, 62] (by decide +kernel) (by decide +kernel)
set_option maxRecDepth 20000 in
theorem gX2_page_X0_blocksOn : GoodIn wsX2_page (wsV RX2 144 RX0 yX0_blocksOn wsX0_blocksOn) := goodIn_app (goodIn_of _ (by decide +kernel)) ggX2_page_X0_blocksOn
set_option maxRecDepth 20000 in
theorem ggX2_page_X0_firstOf : GoodIn wsX2_page wsX0_firstOf := goodIn_r _ [50, 34, 7, 8, 9, 10, 11, 51, 13, 14, 15, 16, 3, 4, 5, 17, 18, 19, 20, 21, 22, 23, 24, 25, 26, 27, 28, 29, 30, 31, 32, 33, 59, 60, 61, 62] (by decide +kernel) (by decide +kernel)
set_option maxRecDepth 20000 in
theorem gX2_page_X0_firstOf : GoodIn wsX2_page (wsV RX2 147 RX0 yX0_firstOf wsX0_firstOf) := goodIn_app (goodIn_of _ (by decide +kernel)) ggX2_page_X0_firstOf
theorem dX2_page_0 : decode cX2_page 0 = .ok (.iload_n 1, 1) := by decide +kernel
theorem dX2_page_1 : decode cX2_page 1 = .ok (.invokestatic 135, 3) := by decide +kernel
theorem dX2_page_4 : decode cX2_page 4 = .ok (.ifCond .ne 5, 3) := by decide +kernel
theorem dX2_page_7 : decode cX2_page 7 = .ok (.iconst (-1), 1) := by decide +kernel
theorem dX2_page_8 : decode cX2_page 8 = .ok (.ireturn, 1) := by decide +kernel
theorem dX2_page_9 : decode cX2_page 9 = .ok (.iload_n 2, 1) := by decide +kernel
theorem dX2_page_10 : decode cX2_page 10 = .ok (.tableswitch 66 0 3 #[30, 39, 48, 57], 30) := by decide +kernel
theorem dX2_page_40 : decode cX2_page 40 = .ok (.aload_n 0, 1) := by decide +kernel
theorem dX2_page_41 : decode cX2_page 41 = .ok (.getfield 19, 3) := by decide +kernel
theorem dX2_page_44 : decode cX2_page 44 = .ok (.iload_n 1, 1) := by decide +kernel
theorem dX2_page_45 : decode cX2_page 45 = .ok (.invokevirtual 138, 3) := by decide +kernel
theorem dX2_page_48 : decode cX2_page 48 = .ok (.ireturn, 1) := by decide +kernel
theorem dX2_page_49 : decode cX2_page 49 = .ok (.aload_n 0, 1) := by decide +kernel
theorem dX2_page_50 : decode cX2_page 50 = .ok (.getfield 19, 3) := by decide +kernel
theorem dX2_page_53 : decode cX2_page 53 = .ok (.iload_n 1, 1) := by decide +kernel
theorem dX2_page_54 : decode cX2_page 54 = .ok (.invokevirtual 141, 3) := by decide +kernel
theorem dX2_page_57 : decode cX2_page 57 = .ok (.ireturn, 1) := by decide +kernel
theorem dX2_page_58 : decode cX2_page 58 = .ok (.aload_n 0, 1) := by decide +kernel
theorem dX2_page_59 : decode cX2_page 59 = .ok (.getfield 19, 3) := by decide +kernel
theorem dX2_page_62 : decode cX2_page 62 = .ok (.iload_n 1, 1) := by decide +kernel
theorem dX2_page_63 : decode cX2_page 63 = .ok (.invokevirtual 144, 3) := by decide +kernel
theorem dX2_page_66 : decode cX2_page 66 = .ok (.ireturn, 1) := by decide +kernel
theorem dX2_page_67 : decode cX2_page 67 = .ok (.aload_n 0, 1) := by decide +kernel
theorem dX2_page_68 : decode cX2_page 68 = .ok (.getfield 19, 3) := by decide +kernel
theorem dX2_page_71 : decode cX2_page 71 = .ok (.iload_n 1, 1) := by decide +kernel
theorem dX2_page_72 : decode cX2_page 72 = .ok (.invokevirtual 147, 3) := by decide +kernel
theorem dX2_page_75 : decode cX2_page 75 = .ok (.ireturn, 1) := by decide +kernel
theorem dX2_page_76 : decode cX2_page 76 = .ok (.iconst (-1), 1) := by decide +kernel
theorem dX2_page_77 : decode cX2_page 77 = .ok (.ireturn, 1) := by decide +kernel
set_option maxRecDepth 20000 in
theorem ggX2_extents_X0_freeExtents : GoodIn wsX2_extents wsX0_freeExtents := goodIn_r _ [6, 7, 8, 9, 10, 11, 12, 5, 13, 14, 15, 16, 17, 18, 19, 20, 21, 22, 23, 24, 25, 33, 34, 35, 36] (by decide +kernel) (by decide +kernel)
set_option maxRecDepth 20000 in
theorem gX2_extents_X0_freeExtents : GoodIn wsX2_extents (wsV RX2 150 RX0 yX0_freeExtents wsX0_freeExtents) := goodIn_app (goodIn_of _ (by decide +kernel)) ggX2_extents_X0_freeExtents
theorem dX2_extents_0 : decode cX2_extents 0 = .ok (.aload_n 0, 1) := by decide +kernel
theorem dX2_extents_1 : decode cX2_extents 1 = .ok (.getfield 19, 3) := by decide +kernel
theorem dX2_extents_4 : decode cX2_extents 4 = .ok (.iload_n 1, 1) := by decide +kernel
theorem dX2_extents_5 : decode cX2_extents 5 = .ok (.invokevirtual 150, 3) := by decide +kernel
theorem dX2_extents_8 : decode cX2_extents 8 = .ok (.ireturn, 1) := by decide +kernel
set_option maxRecDepth 20000 in
theorem ggX2_next_X0_extentFor : GoodIn wsX2_next wsX0_extentFor := goodIn_r _ [6, 7, 8, 9, 10, 11, 12, 5, 13, 14, 15, 16, 17, 18, 19, 20, 21, 22, 23, 24, 25, 33, 34, 35, 36] (by decide +kernel) (by decide +kernel)
set_option maxRecDepth 20000 in
theorem gX2_next_X0_extentFor : GoodIn wsX2_next (wsV RX2 153 RX0 yX0_extentFor wsX0_extentFor) := goodIn_app (goodIn_of _ (by decide +kernel)) ggX2_next_X0_extentFor
theorem dX2_next_0 : decode cX2_next 0 = .ok (.aload_n 0, 1) := by decide +kernel
theorem dX2_next_1 : decode cX2_next 1 = .ok (.getfield 19, 3) := by decide +kernel
theorem dX2_next_4 : decode cX2_next 4 = .ok (.iload_n 1, 1) := by decide +kernel
theorem dX2_next_5 : decode cX2_next 5 = .ok (.invokevirtual 153, 3) := by decide +kernel
theorem dX2_next_8 : decode cX2_next 8 = .ok (.ireturn, 1) := by decide +kernel
set_option maxRecDepth 20000 in
theorem ggX2_count_X2_listLive : GoodIn wsX2_count wsX2_listLive := goodIn_r _ [9, 1, 10, 11, 12, 13, 14, 15, 16, 17, 18, 19, 20, 21, 22, 23, 24, 25, 26, 27, 28, 29, 30, 89, 90, 91, 92, 93, 94, 95, 96, 97, 98, 99] (by decide +kernel) (by decide +kernel)
set_option maxRecDepth 20000 in
theorem gX2_count_X2_listLive : GoodIn wsX2_count (wsV RX2 111 RX2 yX2_listLive wsX2_listLive) := goodIn_app (goodIn_of _ (by decide +kernel)) ggX2_count_X2_listLive
set_option maxRecDepth 20000 in
theorem ggX2_count_X0_howMany : GoodIn wsX2_count wsX0_howMany := goodIn_r _ [34, 35, 36, 37, 14, 38, 20, 96, 97, 98, 99] (by decide +kernel) (by decide +kernel)
set_option maxRecDepth 20000 in
theorem gX2_count_X0_howMany : GoodIn wsX2_count (wsV RX2 156 RX0 yX0_howMany wsX0_howMany) := goodIn_app (goodIn_of _ (by decide +kernel)) ggX2_count_X0_howMany
set_option maxRecDepth 20000 in
theorem ggX2_count_X0_emptySlots : GoodIn wsX2_count wsX0_emptySlots := goodIn_r _ [42, 43, 12, 13, 14, 15, 16, 17, 18, 19, 20, 21, 44, 45, 46, 47, 30, 48, 8, 49, 50, 51, 52, 53, 54, 55, 56, 96, 97, 98, 99] (by decide +kernel) (by decide +kernel)
set_option maxRecDepth 20000 in
theorem gX2_count_X0_emptySlots : GoodIn wsX2_count (wsV RX2 159 RX0 yX0_emptySlots wsX0_emptySlots) := goodIn_app (goodIn_of _ (by decide +kernel)) ggX2_count_X0_emptySlots
set_option maxRecDepth 20000 in
theorem ggX2_count_X1_waiting : GoodIn wsX2_count wsX1_waiting := goodIn_r _ [61, 62, 100, 101, 102, 103, 104] (by decide +kernel) (by decide +kernel)
set_option maxRecDepth 20000 in
theorem gX2_count_X1_waiting : GoodIn wsX2_count (wsV RX2 162 RX1 yX1_waiting wsX1_waiting) := goodIn_app (goodIn_of _ (by decide +kernel)) ggX2_count_X1_waiting
set_option maxRecDepth 20000 in
theorem ggX2_count_X2_liveWords : GoodIn wsX2_count wsX2_liveWords := goodIn_r _ [66, 5, 6, 7, 8, 9, 1, 10, 11, 12, 13, 14, 15, 16, 17, 18, 19, 20, 21, 22, 23, 24, 25, 26, 27, 28, 29, 30, 67, 68, 69, 70, 71, 72, 73, 74, 75, 76, 77, 78, 2, 79, 80, 81, 60, 82, 83, 84, 85, 86, 87, 88, 89, 90, 91, 92, 93, 94, 95, 96, 97, 98, 99, 100, 101, 102, 103, 104] (by decide +kernel) (by decide +kernel)
set_option maxRecDepth 20000 in
theorem gX2_count_X2_liveWords : GoodIn wsX2_count (wsV RX2 165 RX2 yX2_liveWords wsX2_liveWords) := goodIn_app (goodIn_of _ (by decide +kernel)) ggX2_count_X2_liveWords
theorem dX2_count_0 : decode cX2_count 0 = .ok (.iload_n 1, 1) := by decide +kernel
theorem dX2_count_1 : decode cX2_count 1 = .ok (.tableswitch 101 0 7 #[47, 52, 61, 70, 78, 86, 91, 96], 47) := by decide +kernel
theorem dX2_count_48 : decode cX2_count 48 = .ok (.aload_n 0, 1) := by decide +kernel
theorem dX2_count_49 : decode cX2_count 49 = .ok (.invokevirtual 111, 3) := by decide +kernel
theorem dX2_count_52 : decode cX2_count 52 = .ok (.ireturn, 1) := by decide +kernel
theorem dX2_count_53 : decode cX2_count 53 = .ok (.aload_n 0, 1) := by decide +kernel
theorem dX2_count_54 : decode cX2_count 54 = .ok (.getfield 19, 3) := by decide +kernel
theorem dX2_count_57 : decode cX2_count 57 = .ok (.iconst 0, 1) := by decide +kernel
theorem dX2_count_58 : decode cX2_count 58 = .ok (.invokevirtual 156, 3) := by decide +kernel
theorem dX2_count_61 : decode cX2_count 61 = .ok (.ireturn, 1) := by decide +kernel
theorem dX2_count_62 : decode cX2_count 62 = .ok (.aload_n 0, 1) := by decide +kernel
theorem dX2_count_63 : decode cX2_count 63 = .ok (.getfield 19, 3) := by decide +kernel
theorem dX2_count_66 : decode cX2_count 66 = .ok (.iconst 1, 1) := by decide +kernel
theorem dX2_count_67 : decode cX2_count 67 = .ok (.invokevirtual 156, 3) := by decide +kernel
theorem dX2_count_70 : decode cX2_count 70 = .ok (.ireturn, 1) := by decide +kernel
theorem dX2_count_71 : decode cX2_count 71 = .ok (.aload_n 0, 1) := by decide +kernel
theorem dX2_count_72 : decode cX2_count 72 = .ok (.getfield 19, 3) := by decide +kernel
theorem dX2_count_75 : decode cX2_count 75 = .ok (.invokevirtual 159, 3) := by decide +kernel
theorem dX2_count_78 : decode cX2_count 78 = .ok (.ireturn, 1) := by decide +kernel
theorem dX2_count_79 : decode cX2_count 79 = .ok (.aload_n 0, 1) := by decide +kernel
theorem dX2_count_80 : decode cX2_count 80 = .ok (.getfield 10, 3) := by decide +kernel
theorem dX2_count_83 : decode cX2_count 83 = .ok (.invokevirtual 162, 3) := by decide +kernel
theorem dX2_count_86 : decode cX2_count 86 = .ok (.ireturn, 1) := by decide +kernel
theorem dX2_count_87 : decode cX2_count 87 = .ok (.aload_n 0, 1) := by decide +kernel
theorem dX2_count_88 : decode cX2_count 88 = .ok (.getfield 31, 3) := by decide +kernel
theorem dX2_count_91 : decode cX2_count 91 = .ok (.ireturn, 1) := by decide +kernel
theorem dX2_count_92 : decode cX2_count 92 = .ok (.aload_n 0, 1) := by decide +kernel
theorem dX2_count_93 : decode cX2_count 93 = .ok (.invokevirtual 165, 3) := by decide +kernel
theorem dX2_count_96 : decode cX2_count 96 = .ok (.ireturn, 1) := by decide +kernel
theorem dX2_count_97 : decode cX2_count 97 = .ok (.aload_n 0, 1) := by decide +kernel
theorem dX2_count_98 : decode cX2_count 98 = .ok (.getfield 34, 3) := by decide +kernel
theorem dX2_count_101 : decode cX2_count 101 = .ok (.ireturn, 1) := by decide +kernel
theorem dX2_count_102 : decode cX2_count 102 = .ok (.iconst (-1), 1) := by decide +kernel
theorem dX2_count_103 : decode cX2_count 103 = .ok (.ireturn, 1) := by decide +kernel
set_option maxRecDepth 20000 in
theorem ggX2_head_X2_isShape : GoodIn wsX2_head wsX2_isShape := goodIn_r _ [4] (by decide +kernel) (by decide +kernel)
set_option maxRecDepth 20000 in
theorem gX2_head_X2_isShape : GoodIn wsX2_head (va_wsS RX2 40 yX2_isShape wsX2_isShape) := goodIn_app (goodIn_of _ (by decide +kernel)) ggX2_head_X2_isShape
set_option maxRecDepth 20000 in
theorem ggX2_head_X2_headOf : GoodIn wsX2_head wsX2_headOf := goodIn_r _ [7, 8, 9, 10, 11, 12] (by decide +kernel) (by decide +kernel)
set_option maxRecDepth 20000 in
theorem gX2_head_X2_headOf : GoodIn wsX2_head (va_wsS RX2 56 yX2_headOf wsX2_headOf) := goodIn_app (goodIn_of _ (by decide +kernel)) ggX2_head_X2_headOf
theorem dX2_head_0 : decode cX2_head 0 = .ok (.iload_n 1, 1) := by decide +kernel
theorem dX2_head_1 : decode cX2_head 1 = .ok (.bipush 16, 2) := by decide +kernel
theorem dX2_head_3 : decode cX2_head 3 = .ok (.if_icmp .lt 22, 3) := by decide +kernel
theorem dX2_head_6 : decode cX2_head 6 = .ok (.iload_n 1, 1) := by decide +kernel
theorem dX2_head_7 : decode cX2_head 7 = .ok (.sipush 4096, 3) := by decide +kernel
theorem dX2_head_10 : decode cX2_head 10 = .ok (.if_icmp .ge 15, 3) := by decide +kernel
theorem dX2_head_13 : decode cX2_head 13 = .ok (.iload_n 2, 1) := by decide +kernel
theorem dX2_head_14 : decode cX2_head 14 = .ok (.iload_n 3, 1) := by decide +kernel
theorem dX2_head_15 : decode cX2_head 15 = .ok (.invokestatic 40, 3) := by decide +kernel
theorem dX2_head_18 : decode cX2_head 18 = .ok (.ifCond .eq 7, 3) := by decide +kernel
theorem dX2_head_21 : decode cX2_head 21 = .ok (.iconst 1, 1) := by decide +kernel
theorem dX2_head_22 : decode cX2_head 22 = .ok (.goto 4, 3) := by decide +kernel
theorem dX2_head_25 : decode cX2_head 25 = .ok (.iconst 0, 1) := by decide +kernel
theorem dX2_head_26 : decode cX2_head 26 = .ok (.istore 4, 2) := by decide +kernel
theorem dX2_head_28 : decode cX2_head 28 = .ok (.iload 4, 2) := by decide +kernel
theorem dX2_head_30 : decode cX2_head 30 = .ok (.ifCond .eq 12, 3) := by decide +kernel
theorem dX2_head_33 : decode cX2_head 33 = .ok (.iload_n 1, 1) := by decide +kernel
theorem dX2_head_34 : decode cX2_head 34 = .ok (.iload_n 2, 1) := by decide +kernel
theorem dX2_head_35 : decode cX2_head 35 = .ok (.iload_n 3, 1) := by decide +kernel
theorem dX2_head_36 : decode cX2_head 36 = .ok (.invokestatic 56, 3) := by decide +kernel
theorem dX2_head_39 : decode cX2_head 39 = .ok (.goto 4, 3) := by decide +kernel
theorem dX2_head_42 : decode cX2_head 42 = .ok (.iconst 0, 1) := by decide +kernel
theorem dX2_head_43 : decode cX2_head 43 = .ok (.ireturn, 1) := by decide +kernel
set_option maxRecDepth 20000 in
theorem ggX2_waits_X1_lineAt : GoodIn wsX2_waits wsX1_lineAt := goodIn_r _ [6, 7, 8, 16, 17, 18, 19, 20] (by decide +kernel) (by decide +kernel)
set_option maxRecDepth 20000 in
theorem gX2_waits_X1_lineAt : GoodIn wsX2_waits (wsV RX2 168 RX1 yX1_lineAt wsX1_lineAt) := goodIn_app (goodIn_of _ (by decide +kernel)) ggX2_waits_X1_lineAt
theorem dX2_waits_0 : decode cX2_waits 0 = .ok (.aload_n 0, 1) := by decide +kernel
theorem dX2_waits_1 : decode cX2_waits 1 = .ok (.getfield 10, 3) := by decide +kernel
theorem dX2_waits_4 : decode cX2_waits 4 = .ok (.iload_n 1, 1) := by decide +kernel
theorem dX2_waits_5 : decode cX2_waits 5 = .ok (.invokevirtual 168, 3) := by decide +kernel
theorem dX2_waits_8 : decode cX2_waits 8 = .ok (.ireturn, 1) := by decide +kernel
theorem dX2_trouble_0 : decode cX2_trouble 0 = .ok (.aload_n 0, 1) := by decide +kernel
theorem dX2_trouble_1 : decode cX2_trouble 1 = .ok (.getfield 37, 3) := by decide +kernel
theorem dX2_trouble_4 : decode cX2_trouble 4 = .ok (.ireturn, 1) := by decide +kernel
theorem dX2_settle_0 : decode cX2_settle 0 = .ok (.aload_n 0, 1) := by decide +kernel
theorem dX2_settle_1 : decode cX2_settle 1 = .ok (.iload_n 1, 1) := by decide +kernel
theorem dX2_settle_2 : decode cX2_settle 2 = .ok (.putfield 37, 3) := by decide +kernel
theorem dX2_settle_5 : decode cX2_settle 5 = .ok (.iload_n 1, 1) := by decide +kernel
theorem dX2_settle_6 : decode cX2_settle 6 = .ok (.ifCond .ne 7, 3) := by decide +kernel
theorem dX2_settle_9 : decode cX2_settle 9 = .ok (.iconst 1, 1) := by decide +kernel
theorem dX2_settle_10 : decode cX2_settle 10 = .ok (.goto 4, 3) := by decide +kernel
theorem dX2_settle_13 : decode cX2_settle 13 = .ok (.iconst 0, 1) := by decide +kernel
theorem dX2_settle_14 : decode cX2_settle 14 = .ok (.ireturn, 1) := by decide +kernel
theorem dX2_answer_0 : decode cX2_answer 0 = .ok (.aload_n 0, 1) := by decide +kernel
theorem dX2_answer_1 : decode cX2_answer 1 = .ok (.iload_n 1, 1) := by decide +kernel
theorem dX2_answer_2 : decode cX2_answer 2 = .ok (.putfield 37, 3) := by decide +kernel
theorem dX2_answer_5 : decode cX2_answer 5 = .ok (.iload_n 2, 1) := by decide +kernel
theorem dX2_answer_6 : decode cX2_answer 6 = .ok (.ireturn, 1) := by decide +kernel
theorem dX2_isWord_0 : decode cX2_isWord 0 = .ok (.iload_n 0, 1) := by decide +kernel
theorem dX2_isWord_1 : decode cX2_isWord 1 = .ok (.ifCond .lt 14, 3) := by decide +kernel
theorem dX2_isWord_4 : decode cX2_isWord 4 = .ok (.iload_n 0, 1) := by decide +kernel
theorem dX2_isWord_5 : decode cX2_isWord 5 = .ok (.sipush 4096, 3) := by decide +kernel
theorem dX2_isWord_8 : decode cX2_isWord 8 = .ok (.if_icmp .ge 7, 3) := by decide +kernel
theorem dX2_isWord_11 : decode cX2_isWord 11 = .ok (.iconst 1, 1) := by decide +kernel
theorem dX2_isWord_12 : decode cX2_isWord 12 = .ok (.goto 4, 3) := by decide +kernel
theorem dX2_isWord_15 : decode cX2_isWord 15 = .ok (.iconst 0, 1) := by decide +kernel
theorem dX2_isWord_16 : decode cX2_isWord 16 = .ok (.ireturn, 1) := by decide +kernel
theorem dX2_isPage_0 : decode cX2_isPage 0 = .ok (.iload_n 0, 1) := by decide +kernel
theorem dX2_isPage_1 : decode cX2_isPage 1 = .ok (.ifCond .lt 14, 3) := by decide +kernel
theorem dX2_isPage_4 : decode cX2_isPage 4 = .ok (.iload_n 0, 1) := by decide +kernel
theorem dX2_isPage_5 : decode cX2_isPage 5 = .ok (.sipush 256, 3) := by decide +kernel
theorem dX2_isPage_8 : decode cX2_isPage 8 = .ok (.if_icmp .ge 7, 3) := by decide +kernel
theorem dX2_isPage_11 : decode cX2_isPage 11 = .ok (.iconst 1, 1) := by decide +kernel
theorem dX2_isPage_12 : decode cX2_isPage 12 = .ok (.goto 4, 3) := by decide +kernel
theorem dX2_isPage_15 : decode cX2_isPage 15 = .ok (.iconst 0, 1) := by decide +kernel
theorem dX2_isPage_16 : decode cX2_isPage 16 = .ok (.ireturn, 1) := by decide +kernel
theorem dX2_isOrder_0 : decode cX2_isOrder 0 = .ok (.iload_n 0, 1) := by decide +kernel
theorem dX2_isOrder_1 : decode cX2_isOrder 1 = .ok (.ifCond .lt 13, 3) := by decide +kernel
theorem dX2_isOrder_4 : decode cX2_isOrder 4 = .ok (.iload_n 0, 1) := by decide +kernel
theorem dX2_isOrder_5 : decode cX2_isOrder 5 = .ok (.bipush 8, 2) := by decide +kernel
theorem dX2_isOrder_7 : decode cX2_isOrder 7 = .ok (.if_icmp .gt 7, 3) := by decide +kernel
theorem dX2_isOrder_10 : decode cX2_isOrder 10 = .ok (.iconst 1, 1) := by decide +kernel
theorem dX2_isOrder_11 : decode cX2_isOrder 11 = .ok (.goto 4, 3) := by decide +kernel
theorem dX2_isOrder_14 : decode cX2_isOrder 14 = .ok (.iconst 0, 1) := by decide +kernel
theorem dX2_isOrder_15 : decode cX2_isOrder 15 = .ok (.ireturn, 1) := by decide +kernel
theorem dX2_isRoot_0 : decode cX2_isRoot 0 = .ok (.iload_n 0, 1) := by decide +kernel
theorem dX2_isRoot_1 : decode cX2_isRoot 1 = .ok (.ifCond .lt 13, 3) := by decide +kernel
theorem dX2_isRoot_4 : decode cX2_isRoot 4 = .ok (.iload_n 0, 1) := by decide +kernel
theorem dX2_isRoot_5 : decode cX2_isRoot 5 = .ok (.bipush 8, 2) := by decide +kernel
theorem dX2_isRoot_7 : decode cX2_isRoot 7 = .ok (.if_icmp .ge 7, 3) := by decide +kernel
theorem dX2_isRoot_10 : decode cX2_isRoot 10 = .ok (.iconst 1, 1) := by decide +kernel
theorem dX2_isRoot_11 : decode cX2_isRoot 11 = .ok (.goto 4, 3) := by decide +kernel
theorem dX2_isRoot_14 : decode cX2_isRoot 14 = .ok (.iconst 0, 1) := by decide +kernel
theorem dX2_isRoot_15 : decode cX2_isRoot 15 = .ok (.ireturn, 1) := by decide +kernel
theorem dX2_isShape_0 : decode cX2_isShape 0 = .ok (.iload_n 0, 1) := by decide +kernel
theorem dX2_isShape_1 : decode cX2_isShape 1 = .ok (.iconst 1, 1) := by decide +kernel
theorem dX2_isShape_2 : decode cX2_isShape 2 = .ok (.if_icmp .lt 23, 3) := by decide +kernel
theorem dX2_isShape_5 : decode cX2_isShape 5 = .ok (.iload_n 0, 1) := by decide +kernel
theorem dX2_isShape_6 : decode cX2_isShape 6 = .ok (.sipush 2047, 3) := by decide +kernel
theorem dX2_isShape_9 : decode cX2_isShape 9 = .ok (.if_icmp .gt 16, 3) := by decide +kernel
theorem dX2_isShape_12 : decode cX2_isShape 12 = .ok (.iload_n 1, 1) := by decide +kernel
theorem dX2_isShape_13 : decode cX2_isShape 13 = .ok (.ifCond .lt 12, 3) := by decide +kernel
theorem dX2_isShape_16 : decode cX2_isShape 16 = .ok (.iload_n 1, 1) := by decide +kernel
theorem dX2_isShape_17 : decode cX2_isShape 17 = .ok (.iload_n 0, 1) := by decide +kernel
theorem dX2_isShape_18 : decode cX2_isShape 18 = .ok (.if_icmp .gt 7, 3) := by decide +kernel
theorem dX2_isShape_21 : decode cX2_isShape 21 = .ok (.iconst 1, 1) := by decide +kernel
theorem dX2_isShape_22 : decode cX2_isShape 22 = .ok (.goto 4, 3) := by decide +kernel
theorem dX2_isShape_25 : decode cX2_isShape 25 = .ok (.iconst 0, 1) := by decide +kernel
theorem dX2_isShape_26 : decode cX2_isShape 26 = .ok (.ireturn, 1) := by decide +kernel
theorem dX2_wordOf_0 : decode cX2_wordOf 0 = .ok (.iload_n 0, 1) := by decide +kernel
theorem dX2_wordOf_1 : decode cX2_wordOf 1 = .ok (.iconst 1, 1) := by decide +kernel
theorem dX2_wordOf_2 : decode cX2_wordOf 2 = .ok (.iadd, 1) := by decide +kernel
theorem dX2_wordOf_3 : decode cX2_wordOf 3 = .ok (.iload_n 1, 1) := by decide +kernel
theorem dX2_wordOf_4 : decode cX2_wordOf 4 = .ok (.iadd, 1) := by decide +kernel
theorem dX2_wordOf_5 : decode cX2_wordOf 5 = .ok (.ireturn, 1) := by decide +kernel
set_option maxRecDepth 20000 in
theorem ggX2_headOf_J9_floorMod_7cf53 : GoodIn wsX2_headOf wsJ9_floorMod_7cf53 := goodIn_r _ [5] (by decide +kernel) (by decide +kernel)
set_option maxRecDepth 20000 in
theorem gX2_headOf_J9_floorMod_7cf53 : GoodIn wsX2_headOf (va_wsS RX2 171 yJ9_floorMod_7cf53 wsJ9_floorMod_7cf53) := goodIn_app (goodIn_of _ (by decide +kernel)) ggX2_headOf_J9_floorMod_7cf53
theorem dX2_headOf_0 : decode cX2_headOf 0 = .ok (.bipush 31, 2) := by decide +kernel
theorem dX2_headOf_2 : decode cX2_headOf 2 = .ok (.iload_n 0, 1) := by decide +kernel
theorem dX2_headOf_3 : decode cX2_headOf 3 = .ok (.imul, 1) := by decide +kernel
theorem dX2_headOf_4 : decode cX2_headOf 4 = .ok (.bipush 7, 2) := by decide +kernel
theorem dX2_headOf_6 : decode cX2_headOf 6 = .ok (.iload_n 1, 1) := by decide +kernel
theorem dX2_headOf_7 : decode cX2_headOf 7 = .ok (.imul, 1) := by decide +kernel
theorem dX2_headOf_8 : decode cX2_headOf 8 = .ok (.iadd, 1) := by decide +kernel
theorem dX2_headOf_9 : decode cX2_headOf 9 = .ok (.bipush 13, 2) := by decide +kernel
theorem dX2_headOf_11 : decode cX2_headOf 11 = .ok (.iload_n 2, 1) := by decide +kernel
theorem dX2_headOf_12 : decode cX2_headOf 12 = .ok (.imul, 1) := by decide +kernel
theorem dX2_headOf_13 : decode cX2_headOf 13 = .ok (.iadd, 1) := by decide +kernel
theorem dX2_headOf_14 : decode cX2_headOf 14 = .ok (.bipush 90, 2) := by decide +kernel
theorem dX2_headOf_16 : decode cX2_headOf 16 = .ok (.iadd, 1) := by decide +kernel
theorem dX2_headOf_17 : decode cX2_headOf 17 = .ok (.sipush 512, 3) := by decide +kernel
theorem dX2_headOf_20 : decode cX2_headOf 20 = .ok (.invokestatic 171, 3) := by decide +kernel
theorem dX2_headOf_23 : decode cX2_headOf 23 = .ok (.iconst 1, 1) := by decide +kernel
theorem dX2_headOf_24 : decode cX2_headOf 24 = .ok (.iadd, 1) := by decide +kernel
theorem dX2_headOf_25 : decode cX2_headOf 25 = .ok (.istore_n 3, 1) := by decide +kernel
theorem dX2_headOf_26 : decode cX2_headOf 26 = .ok (.iload_n 3, 1) := by decide +kernel
theorem dX2_headOf_27 : decode cX2_headOf 27 = .ok (.ldc 176, 2) := by decide +kernel
theorem dX2_headOf_29 : decode cX2_headOf 29 = .ok (.imul, 1) := by decide +kernel
theorem dX2_headOf_30 : decode cX2_headOf 30 = .ok (.iload_n 1, 1) := by decide +kernel
theorem dX2_headOf_31 : decode cX2_headOf 31 = .ok (.sipush 2048, 3) := by decide +kernel
theorem dX2_headOf_34 : decode cX2_headOf 34 = .ok (.imul, 1) := by decide +kernel
theorem dX2_headOf_35 : decode cX2_headOf 35 = .ok (.iadd, 1) := by decide +kernel
theorem dX2_headOf_36 : decode cX2_headOf 36 = .ok (.iload_n 2, 1) := by decide +kernel
theorem dX2_headOf_37 : decode cX2_headOf 37 = .ok (.iadd, 1) := by decide +kernel
theorem dX2_headOf_38 : decode cX2_headOf 38 = .ok (.ireturn, 1) := by decide +kernel
theorem dX2_sizeIn_0 : decode cX2_sizeIn 0 = .ok (.iload_n 0, 1) := by decide +kernel
theorem dX2_sizeIn_1 : decode cX2_sizeIn 1 = .ok (.bipush 11, 2) := by decide +kernel
theorem dX2_sizeIn_3 : decode cX2_sizeIn 3 = .ok (.iushr, 1) := by decide +kernel
theorem dX2_sizeIn_4 : decode cX2_sizeIn 4 = .ok (.sipush 2047, 3) := by decide +kernel
theorem dX2_sizeIn_7 : decode cX2_sizeIn 7 = .ok (.iand, 1) := by decide +kernel
theorem dX2_sizeIn_8 : decode cX2_sizeIn 8 = .ok (.ireturn, 1) := by decide +kernel
theorem dX2_refsIn_0 : decode cX2_refsIn 0 = .ok (.iload_n 0, 1) := by decide +kernel
theorem dX2_refsIn_1 : decode cX2_refsIn 1 = .ok (.sipush 2047, 3) := by decide +kernel
theorem dX2_refsIn_4 : decode cX2_refsIn 4 = .ok (.iand, 1) := by decide +kernel
theorem dX2_refsIn_5 : decode cX2_refsIn 5 = .ok (.ireturn, 1) := by decide +kernel
theorem dX2_classFor_0 : decode cX2_classFor 0 = .ok (.getstatic 177, 3) := by decide +kernel
theorem dX2_classFor_3 : decode cX2_classFor 3 = .ok (.astore_n 1, 1) := by decide +kernel
theorem dX2_classFor_4 : decode cX2_classFor 4 = .ok (.aload_n 1, 1) := by decide +kernel
theorem dX2_classFor_5 : decode cX2_classFor 5 = .ok (.arraylength, 1) := by decide +kernel
theorem dX2_classFor_6 : decode cX2_classFor 6 = .ok (.istore_n 2, 1) := by decide +kernel
theorem dX2_classFor_7 : decode cX2_classFor 7 = .ok (.iconst 0, 1) := by decide +kernel
theorem dX2_classFor_8 : decode cX2_classFor 8 = .ok (.istore_n 3, 1) := by decide +kernel
theorem dX2_classFor_9 : decode cX2_classFor 9 = .ok (.iload_n 3, 1) := by decide +kernel
theorem dX2_classFor_10 : decode cX2_classFor 10 = .ok (.iload_n 2, 1) := by decide +kernel
theorem dX2_classFor_11 : decode cX2_classFor 11 = .ok (.if_icmp .ge 25, 3) := by decide +kernel
theorem dX2_classFor_14 : decode cX2_classFor 14 = .ok (.aload_n 1, 1) := by decide +kernel
theorem dX2_classFor_15 : decode cX2_classFor 15 = .ok (.iload_n 3, 1) := by decide +kernel
theorem dX2_classFor_16 : decode cX2_classFor 16 = .ok (.iaload, 1) := by decide +kernel
theorem dX2_classFor_17 : decode cX2_classFor 17 = .ok (.istore 4, 2) := by decide +kernel
theorem dX2_classFor_19 : decode cX2_classFor 19 = .ok (.iload_n 0, 1) := by decide +kernel
theorem dX2_classFor_20 : decode cX2_classFor 20 = .ok (.iconst 1, 1) := by decide +kernel
theorem dX2_classFor_21 : decode cX2_classFor 21 = .ok (.iadd, 1) := by decide +kernel
theorem dX2_classFor_22 : decode cX2_classFor 22 = .ok (.iload 4, 2) := by decide +kernel
theorem dX2_classFor_24 : decode cX2_classFor 24 = .ok (.if_icmp .gt 6, 3) := by decide +kernel
theorem dX2_classFor_27 : decode cX2_classFor 27 = .ok (.iload 4, 2) := by decide +kernel
theorem dX2_classFor_29 : decode cX2_classFor 29 = .ok (.ireturn, 1) := by decide +kernel
theorem dX2_classFor_30 : decode cX2_classFor 30 = .ok (.iinc 3 1, 3) := by decide +kernel
theorem dX2_classFor_33 : decode cX2_classFor 33 = .ok (.goto (-24), 3) := by decide +kernel
theorem dX2_classFor_36 : decode cX2_classFor 36 = .ok (.iconst 0, 1) := by decide +kernel
theorem dX2_classFor_37 : decode cX2_classFor 37 = .ok (.ireturn, 1) := by decide +kernel
set_option maxRecDepth 20000 in
theorem ggX2_orderFor_X2_classFor : GoodIn wsX2_orderFor wsX2_classFor := goodIn_r _ [4, 5] (by decide +kernel) (by decide +kernel)
set_option maxRecDepth 20000 in
theorem gX2_orderFor_X2_classFor : GoodIn wsX2_orderFor (va_wsS RX2 129 yX2_classFor wsX2_classFor) := goodIn_app (goodIn_of _ (by decide +kernel)) ggX2_orderFor_X2_classFor
theorem dX2_orderFor_0 : decode cX2_orderFor 0 = .ok (.iload_n 0, 1) := by decide +kernel
theorem dX2_orderFor_1 : decode cX2_orderFor 1 = .ok (.invokestatic 129, 3) := by decide +kernel
theorem dX2_orderFor_4 : decode cX2_orderFor 4 = .ok (.ifCond .le 5, 3) := by decide +kernel
theorem dX2_orderFor_7 : decode cX2_orderFor 7 = .ok (.iconst (-1), 1) := by decide +kernel
theorem dX2_orderFor_8 : decode cX2_orderFor 8 = .ok (.ireturn, 1) := by decide +kernel
theorem dX2_orderFor_9 : decode cX2_orderFor 9 = .ok (.iconst 0, 1) := by decide +kernel
theorem dX2_orderFor_10 : decode cX2_orderFor 10 = .ok (.istore_n 1, 1) := by decide +kernel
theorem dX2_orderFor_11 : decode cX2_orderFor 11 = .ok (.iload_n 1, 1) := by decide +kernel
theorem dX2_orderFor_12 : decode cX2_orderFor 12 = .ok (.bipush 8, 2) := by decide +kernel
theorem dX2_orderFor_14 : decode cX2_orderFor 14 = .ok (.if_icmp .gt 21, 3) := by decide +kernel
theorem dX2_orderFor_17 : decode cX2_orderFor 17 = .ok (.iload_n 0, 1) := by decide +kernel
theorem dX2_orderFor_18 : decode cX2_orderFor 18 = .ok (.iconst 1, 1) := by decide +kernel
theorem dX2_orderFor_19 : decode cX2_orderFor 19 = .ok (.iadd, 1) := by decide +kernel
theorem dX2_orderFor_20 : decode cX2_orderFor 20 = .ok (.bipush 16, 2) := by decide +kernel
theorem dX2_orderFor_22 : decode cX2_orderFor 22 = .ok (.iload_n 1, 1) := by decide +kernel
theorem dX2_orderFor_23 : decode cX2_orderFor 23 = .ok (.ishl, 1) := by decide +kernel
theorem dX2_orderFor_24 : decode cX2_orderFor 24 = .ok (.if_icmp .gt 5, 3) := by decide +kernel
theorem dX2_orderFor_27 : decode cX2_orderFor 27 = .ok (.iload_n 1, 1) := by decide +kernel
theorem dX2_orderFor_28 : decode cX2_orderFor 28 = .ok (.ireturn, 1) := by decide +kernel
theorem dX2_orderFor_29 : decode cX2_orderFor 29 = .ok (.iinc 1 1, 3) := by decide +kernel
theorem dX2_orderFor_32 : decode cX2_orderFor 32 = .ok (.goto (-21), 3) := by decide +kernel
theorem dX2_orderFor_35 : decode cX2_orderFor 35 = .ok (.iconst (-1), 1) := by decide +kernel
theorem dX2_orderFor_36 : decode cX2_orderFor 36 = .ok (.ireturn, 1) := by decide +kernel
set_option maxRecDepth 20000 in
theorem ggX2_sizeOf_X1_at : GoodIn wsX2_sizeOf wsX1_at := goodIn_r _ [6, 7, 8, 9, 10, 21, 22, 23, 24, 25] (by decide +kernel) (by decide +kernel)
set_option maxRecDepth 20000 in
theorem gX2_sizeOf_X1_at : GoodIn wsX2_sizeOf (wsV RX2 92 RX1 yX1_at wsX1_at) := goodIn_app (goodIn_of _ (by decide +kernel)) ggX2_sizeOf_X1_at
set_option maxRecDepth 20000 in
theorem ggX2_sizeOf_X2_sizeIn : GoodIn wsX2_sizeOf wsX2_sizeIn := goodIn_r _ [13] (by decide +kernel) (by decide +kernel)
set_option maxRecDepth 20000 in
theorem gX2_sizeOf_X2_sizeIn : GoodIn wsX2_sizeOf (va_wsS RX2 180 yX2_sizeIn wsX2_sizeIn) := goodIn_app (goodIn_of _ (by decide +kernel)) ggX2_sizeOf_X2_sizeIn
theorem dX2_sizeOf_0 : decode cX2_sizeOf 0 = .ok (.aload_n 0, 1) := by decide +kernel
theorem dX2_sizeOf_1 : decode cX2_sizeOf 1 = .ok (.getfield 10, 3) := by decide +kernel
theorem dX2_sizeOf_4 : decode cX2_sizeOf 4 = .ok (.iload_n 1, 1) := by decide +kernel
theorem dX2_sizeOf_5 : decode cX2_sizeOf 5 = .ok (.invokevirtual 92, 3) := by decide +kernel
theorem dX2_sizeOf_8 : decode cX2_sizeOf 8 = .ok (.invokestatic 180, 3) := by decide +kernel
theorem dX2_sizeOf_11 : decode cX2_sizeOf 11 = .ok (.ireturn, 1) := by decide +kernel
set_option maxRecDepth 20000 in
theorem ggX2_refsOf_X1_at : GoodIn wsX2_refsOf wsX1_at := goodIn_r _ [6, 7, 8, 9, 10, 21, 22, 23, 24, 25] (by decide +kernel) (by decide +kernel)
set_option maxRecDepth 20000 in
theorem gX2_refsOf_X1_at : GoodIn wsX2_refsOf (wsV RX2 92 RX1 yX1_at wsX1_at) := goodIn_app (goodIn_of _ (by decide +kernel)) ggX2_refsOf_X1_at
set_option maxRecDepth 20000 in
theorem ggX2_refsOf_X2_refsIn : GoodIn wsX2_refsOf wsX2_refsIn := goodIn_r _ [13] (by decide +kernel) (by decide +kernel)
set_option maxRecDepth 20000 in
theorem gX2_refsOf_X2_refsIn : GoodIn wsX2_refsOf (va_wsS RX2 183 yX2_refsIn wsX2_refsIn) := goodIn_app (goodIn_of _ (by decide +kernel)) ggX2_refsOf_X2_refsIn
theorem dX2_refsOf_0 : decode cX2_refsOf 0 = .ok (.aload_n 0, 1) := by decide +kernel
theorem dX2_refsOf_1 : decode cX2_refsOf 1 = .ok (.getfield 10, 3) := by decide +kernel
theorem dX2_refsOf_4 : decode cX2_refsOf 4 = .ok (.iload_n 1, 1) := by decide +kernel
theorem dX2_refsOf_5 : decode cX2_refsOf 5 = .ok (.invokevirtual 92, 3) := by decide +kernel
theorem dX2_refsOf_8 : decode cX2_refsOf 8 = .ok (.invokestatic 183, 3) := by decide +kernel
theorem dX2_refsOf_11 : decode cX2_refsOf 11 = .ok (.ireturn, 1) := by decide +kernel
set_option maxRecDepth 20000 in
theorem ggX2_lengthOf_X2_sizeOf : GoodIn wsX2_lengthOf wsX2_sizeOf := goodIn_r _ [5, 6, 7, 8, 9, 10, 11, 12, 13, 4, 14, 15, 16, 17, 18, 19, 20, 21, 22, 23, 24, 25, 26, 27, 28, 29] (by decide +kernel) (by decide +kernel)
set_option maxRecDepth 20000 in
theorem gX2_lengthOf_X2_sizeOf : GoodIn wsX2_lengthOf (wsV RX2 126 RX2 yX2_sizeOf wsX2_sizeOf) := goodIn_app (goodIn_of _ (by decide +kernel)) ggX2_lengthOf_X2_sizeOf
theorem dX2_lengthOf_0 : decode cX2_lengthOf 0 = .ok (.aload_n 0, 1) := by decide +kernel
theorem dX2_lengthOf_1 : decode cX2_lengthOf 1 = .ok (.iload_n 1, 1) := by decide +kernel
theorem dX2_lengthOf_2 : decode cX2_lengthOf 2 = .ok (.invokevirtual 126, 3) := by decide +kernel
theorem dX2_lengthOf_5 : decode cX2_lengthOf 5 = .ok (.iconst 1, 1) := by decide +kernel
theorem dX2_lengthOf_6 : decode cX2_lengthOf 6 = .ok (.iadd, 1) := by decide +kernel
theorem dX2_lengthOf_7 : decode cX2_lengthOf 7 = .ok (.ireturn, 1) := by decide +kernel
set_option maxRecDepth 20000 in
theorem ggX2_hasWord_X0_isLive : GoodIn wsX2_hasWord wsX0_isLive := goodIn_r _ [6, 7, 8, 5, 9, 10, 11, 12, 13, 14, 15, 16, 17, 18, 19, 20, 21, 22, 23, 24, 25, 26, 27, 52, 53, 54, 55] (by decide +kernel) (by decide +kernel)
set_option maxRecDepth 20000 in
theorem gX2_hasWord_X0_isLive : GoodIn wsX2_hasWord (wsV RX2 66 RX0 yX0_isLive wsX0_isLive) := goodIn_app (goodIn_of _ (by decide +kernel)) ggX2_hasWord_X0_isLive
set_option maxRecDepth 20000 in
theorem ggX2_hasWord_X2_sizeOf : GoodIn wsX2_hasWord wsX2_sizeOf := goodIn_r _ [32, 33, 34, 35, 36, 37, 38, 39, 40, 31, 41, 42, 43, 44, 45, 46, 47, 48, 49, 50, 51, 56, 57, 58, 59, 60] (by decide +kernel) (by decide +kernel)
set_option maxRecDepth 20000 in
theorem gX2_hasWord_X2_sizeOf : GoodIn wsX2_hasWord (wsV RX2 126 RX2 yX2_sizeOf wsX2_sizeOf) := goodIn_app (goodIn_of _ (by decide +kernel)) ggX2_hasWord_X2_sizeOf
theorem dX2_hasWord_0 : decode cX2_hasWord 0 = .ok (.aload_n 0, 1) := by decide +kernel
theorem dX2_hasWord_1 : decode cX2_hasWord 1 = .ok (.getfield 19, 3) := by decide +kernel
theorem dX2_hasWord_4 : decode cX2_hasWord 4 = .ok (.iload_n 1, 1) := by decide +kernel
theorem dX2_hasWord_5 : decode cX2_hasWord 5 = .ok (.invokevirtual 66, 3) := by decide +kernel
theorem dX2_hasWord_8 : decode cX2_hasWord 8 = .ok (.ifCond .eq 20, 3) := by decide +kernel
theorem dX2_hasWord_11 : decode cX2_hasWord 11 = .ok (.iload_n 2, 1) := by decide +kernel
theorem dX2_hasWord_12 : decode cX2_hasWord 12 = .ok (.ifCond .lt 16, 3) := by decide +kernel
theorem dX2_hasWord_15 : decode cX2_hasWord 15 = .ok (.iload_n 2, 1) := by decide +kernel
theorem dX2_hasWord_16 : decode cX2_hasWord 16 = .ok (.aload_n 0, 1) := by decide +kernel
theorem dX2_hasWord_17 : decode cX2_hasWord 17 = .ok (.iload_n 1, 1) := by decide +kernel
theorem dX2_hasWord_18 : decode cX2_hasWord 18 = .ok (.invokevirtual 126, 3) := by decide +kernel
theorem dX2_hasWord_21 : decode cX2_hasWord 21 = .ok (.if_icmp .ge 7, 3) := by decide +kernel
theorem dX2_hasWord_24 : decode cX2_hasWord 24 = .ok (.iconst 1, 1) := by decide +kernel
theorem dX2_hasWord_25 : decode cX2_hasWord 25 = .ok (.goto 4, 3) := by decide +kernel
theorem dX2_hasWord_28 : decode cX2_hasWord 28 = .ok (.iconst 0, 1) := by decide +kernel
theorem dX2_hasWord_29 : decode cX2_hasWord 29 = .ok (.ireturn, 1) := by decide +kernel
set_option maxRecDepth 20000 in
theorem ggX2_isTarget_X0_isLive : GoodIn wsX2_isTarget wsX0_isLive := goodIn_r _ [6, 7, 8, 5, 9, 10, 11, 12, 13, 14, 15, 16, 17, 18, 19, 20, 21, 22, 23, 24, 25, 26, 27, 35, 36, 37, 38] (by decide +kernel) (by decide +kernel)
set_option maxRecDepth 20000 in
theorem gX2_isTarget_X0_isLive : GoodIn wsX2_isTarget (wsV RX2 66 RX0 yX0_isLive wsX0_isLive) := goodIn_app (goodIn_of _ (by decide +kernel)) ggX2_isTarget_X0_isLive
theorem dX2_isTarget_0 : decode cX2_isTarget 0 = .ok (.iload_n 1, 1) := by decide +kernel
theorem dX2_isTarget_1 : decode cX2_isTarget 1 = .ok (.ifCond .eq 14, 3) := by decide +kernel
theorem dX2_isTarget_4 : decode cX2_isTarget 4 = .ok (.aload_n 0, 1) := by decide +kernel
theorem dX2_isTarget_5 : decode cX2_isTarget 5 = .ok (.getfield 19, 3) := by decide +kernel
theorem dX2_isTarget_8 : decode cX2_isTarget 8 = .ok (.iload_n 1, 1) := by decide +kernel
theorem dX2_isTarget_9 : decode cX2_isTarget 9 = .ok (.invokevirtual 66, 3) := by decide +kernel
theorem dX2_isTarget_12 : decode cX2_isTarget 12 = .ok (.ifCond .eq 7, 3) := by decide +kernel
theorem dX2_isTarget_15 : decode cX2_isTarget 15 = .ok (.iconst 1, 1) := by decide +kernel
theorem dX2_isTarget_16 : decode cX2_isTarget 16 = .ok (.goto 4, 3) := by decide +kernel
theorem dX2_isTarget_19 : decode cX2_isTarget 19 = .ok (.iconst 0, 1) := by decide +kernel
theorem dX2_isTarget_20 : decode cX2_isTarget 20 = .ok (.ireturn, 1) := by decide +kernel
set_option maxRecDepth 20000 in
theorem ggX2_isOfBlock_X0_blockOver : GoodIn wsX2_isOfBlock wsX0_blockOver := goodIn_r _ [6, 7, 8, 9, 10, 5, 11, 12, 13, 14, 15, 16, 17, 18, 19, 20, 21, 22, 23, 24, 25, 26, 27, 28, 29, 30, 31, 32, 60, 61, 62, 63] (by decide +kernel) (by decide +kernel)
set_option maxRecDepth 20000 in
theorem gX2_isOfBlock_X0_blockOver : GoodIn wsX2_isOfBlock (wsV RX2 186 RX0 yX0_blockOver wsX0_blockOver) := goodIn_app (goodIn_of _ (by decide +kernel)) ggX2_isOfBlock_X0_blockOver
set_option maxRecDepth 20000 in
theorem ggX2_isOfBlock_X2_lengthOf : GoodIn wsX2_isOfBlock wsX2_lengthOf := goodIn_r _ [36, 37, 38, 39, 13, 40, 41, 42, 43, 44, 45, 46, 47, 48, 49, 50, 51, 52, 53, 54, 55, 56, 57, 58, 59, 64, 65, 66, 67, 68] (by decide +kernel) (by decide +kernel)
set_option maxRecDepth 20000 in
theorem gX2_isOfBlock_X2_lengthOf : GoodIn wsX2_isOfBlock (wsV RX2 73 RX2 yX2_lengthOf wsX2_lengthOf) := goodIn_app (goodIn_of _ (by decide +kernel)) ggX2_isOfBlock_X2_lengthOf
theorem dX2_isOfBlock_0 : decode cX2_isOfBlock 0 = .ok (.aload_n 0, 1) := by decide +kernel
theorem dX2_isOfBlock_1 : decode cX2_isOfBlock 1 = .ok (.getfield 19, 3) := by decide +kernel
theorem dX2_isOfBlock_4 : decode cX2_isOfBlock 4 = .ok (.iload_n 1, 1) := by decide +kernel
theorem dX2_isOfBlock_5 : decode cX2_isOfBlock 5 = .ok (.invokevirtual 186, 3) := by decide +kernel
theorem dX2_isOfBlock_8 : decode cX2_isOfBlock 8 = .ok (.istore_n 2, 1) := by decide +kernel
theorem dX2_isOfBlock_9 : decode cX2_isOfBlock 9 = .ok (.iload_n 2, 1) := by decide +kernel
theorem dX2_isOfBlock_10 : decode cX2_isOfBlock 10 = .ok (.iconst (-1), 1) := by decide +kernel
theorem dX2_isOfBlock_11 : decode cX2_isOfBlock 11 = .ok (.if_icmp .eq 18, 3) := by decide +kernel
theorem dX2_isOfBlock_14 : decode cX2_isOfBlock 14 = .ok (.iload_n 1, 1) := by decide +kernel
theorem dX2_isOfBlock_15 : decode cX2_isOfBlock 15 = .ok (.iload_n 2, 1) := by decide +kernel
theorem dX2_isOfBlock_16 : decode cX2_isOfBlock 16 = .ok (.isub, 1) := by decide +kernel
theorem dX2_isOfBlock_17 : decode cX2_isOfBlock 17 = .ok (.aload_n 0, 1) := by decide +kernel
theorem dX2_isOfBlock_18 : decode cX2_isOfBlock 18 = .ok (.iload_n 2, 1) := by decide +kernel
theorem dX2_isOfBlock_19 : decode cX2_isOfBlock 19 = .ok (.invokevirtual 73, 3) := by decide +kernel
theorem dX2_isOfBlock_22 : decode cX2_isOfBlock 22 = .ok (.if_icmp .ge 7, 3) := by decide +kernel
theorem dX2_isOfBlock_25 : decode cX2_isOfBlock 25 = .ok (.iconst 1, 1) := by decide +kernel
theorem dX2_isOfBlock_26 : decode cX2_isOfBlock 26 = .ok (.goto 4, 3) := by decide +kernel
theorem dX2_isOfBlock_29 : decode cX2_isOfBlock 29 = .ok (.iconst 0, 1) := by decide +kernel
theorem dX2_isOfBlock_30 : decode cX2_isOfBlock 30 = .ok (.ireturn, 1) := by decide +kernel
theorem dX2_rowAt_0 : decode cX2_rowAt 0 = .ok (.iload_n 1, 1) := by decide +kernel
theorem dX2_rowAt_1 : decode cX2_rowAt 1 = .ok (.ifCond .lt 21, 3) := by decide +kernel
theorem dX2_rowAt_4 : decode cX2_rowAt 4 = .ok (.iload_n 1, 1) := by decide +kernel
theorem dX2_rowAt_5 : decode cX2_rowAt 5 = .ok (.aload_n 0, 1) := by decide +kernel
theorem dX2_rowAt_6 : decode cX2_rowAt 6 = .ok (.getfield 23, 3) := by decide +kernel
theorem dX2_rowAt_9 : decode cX2_rowAt 9 = .ok (.arraylength, 1) := by decide +kernel
theorem dX2_rowAt_10 : decode cX2_rowAt 10 = .ok (.if_icmp .ge 12, 3) := by decide +kernel
theorem dX2_rowAt_13 : decode cX2_rowAt 13 = .ok (.aload_n 0, 1) := by decide +kernel
theorem dX2_rowAt_14 : decode cX2_rowAt 14 = .ok (.getfield 23, 3) := by decide +kernel
theorem dX2_rowAt_17 : decode cX2_rowAt 17 = .ok (.iload_n 1, 1) := by decide +kernel
theorem dX2_rowAt_18 : decode cX2_rowAt 18 = .ok (.iaload, 1) := by decide +kernel
theorem dX2_rowAt_19 : decode cX2_rowAt 19 = .ok (.goto 4, 3) := by decide +kernel
theorem dX2_rowAt_22 : decode cX2_rowAt 22 = .ok (.iconst (-1), 1) := by decide +kernel
theorem dX2_rowAt_23 : decode cX2_rowAt 23 = .ok (.ireturn, 1) := by decide +kernel
set_option maxRecDepth 20000 in
theorem ggX2_listLive_X0_slotsOf : GoodIn wsX2_listLive wsX0_slotsOf := goodIn_r _ [7, 8, 9, 10, 6, 11, 12, 13, 30, 31, 32, 33] (by decide +kernel) (by decide +kernel)
set_option maxRecDepth 20000 in
theorem gX2_listLive_X0_slotsOf : GoodIn wsX2_listLive (wsV RX2 189 RX0 yX0_slotsOf wsX0_slotsOf) := goodIn_app (goodIn_of _ (by decide +kernel)) ggX2_listLive_X0_slotsOf
set_option maxRecDepth 20000 in
theorem ggX2_listLive_X0_blockIn : GoodIn wsX2_listLive wsX0_blockIn := goodIn_r _ [17, 18, 19, 20, 6, 21, 22, 8, 9, 10, 11, 12, 13, 30, 31, 32, 33] (by decide +kernel) (by decide +kernel)
set_option maxRecDepth 20000 in
theorem gX2_listLive_X0_blockIn : GoodIn wsX2_listLive (wsV RX2 192 RX0 yX0_blockIn wsX0_blockIn) := goodIn_app (goodIn_of _ (by decide +kernel)) ggX2_listLive_X0_blockIn
theorem dX2_listLive_0 : decode cX2_listLive 0 = .ok (.iconst 0, 1) := by decide +kernel
theorem dX2_listLive_1 : decode cX2_listLive 1 = .ok (.istore_n 1, 1) := by decide +kernel
theorem dX2_listLive_2 : decode cX2_listLive 2 = .ok (.iconst 1, 1) := by decide +kernel
theorem dX2_listLive_3 : decode cX2_listLive 3 = .ok (.istore_n 2, 1) := by decide +kernel
theorem dX2_listLive_4 : decode cX2_listLive 4 = .ok (.iload_n 2, 1) := by decide +kernel
theorem dX2_listLive_5 : decode cX2_listLive 5 = .ok (.sipush 256, 3) := by decide +kernel
theorem dX2_listLive_8 : decode cX2_listLive 8 = .ok (.if_icmp .ge 71, 3) := by decide +kernel
theorem dX2_listLive_11 : decode cX2_listLive 11 = .ok (.aload_n 0, 1) := by decide +kernel
theorem dX2_listLive_12 : decode cX2_listLive 12 = .ok (.getfield 19, 3) := by decide +kernel
theorem dX2_listLive_15 : decode cX2_listLive 15 = .ok (.iload_n 2, 1) := by decide +kernel
theorem dX2_listLive_16 : decode cX2_listLive 16 = .ok (.invokevirtual 189, 3) := by decide +kernel
theorem dX2_listLive_19 : decode cX2_listLive 19 = .ok (.istore_n 3, 1) := by decide +kernel
theorem dX2_listLive_20 : decode cX2_listLive 20 = .ok (.iconst 0, 1) := by decide +kernel
theorem dX2_listLive_21 : decode cX2_listLive 21 = .ok (.istore 4, 2) := by decide +kernel
theorem dX2_listLive_23 : decode cX2_listLive 23 = .ok (.iload 4, 2) := by decide +kernel
theorem dX2_listLive_25 : decode cX2_listLive 25 = .ok (.iload_n 3, 1) := by decide +kernel
theorem dX2_listLive_26 : decode cX2_listLive 26 = .ok (.if_icmp .ge 47, 3) := by decide +kernel
theorem dX2_listLive_29 : decode cX2_listLive 29 = .ok (.aload_n 0, 1) := by decide +kernel
theorem dX2_listLive_30 : decode cX2_listLive 30 = .ok (.getfield 19, 3) := by decide +kernel
theorem dX2_listLive_33 : decode cX2_listLive 33 = .ok (.iload_n 2, 1) := by decide +kernel
theorem dX2_listLive_34 : decode cX2_listLive 34 = .ok (.iload 4, 2) := by decide +kernel
theorem dX2_listLive_36 : decode cX2_listLive 36 = .ok (.invokevirtual 192, 3) := by decide +kernel
theorem dX2_listLive_39 : decode cX2_listLive 39 = .ok (.istore 5, 2) := by decide +kernel
theorem dX2_listLive_41 : decode cX2_listLive 41 = .ok (.iload 5, 2) := by decide +kernel
theorem dX2_listLive_43 : decode cX2_listLive 43 = .ok (.iconst (-1), 1) := by decide +kernel
theorem dX2_listLive_44 : decode cX2_listLive 44 = .ok (.if_icmp .eq 23, 3) := by decide +kernel
theorem dX2_listLive_47 : decode cX2_listLive 47 = .ok (.iload_n 1, 1) := by decide +kernel
theorem dX2_listLive_48 : decode cX2_listLive 48 = .ok (.aload_n 0, 1) := by decide +kernel
theorem dX2_listLive_49 : decode cX2_listLive 49 = .ok (.getfield 23, 3) := by decide +kernel
theorem dX2_listLive_52 : decode cX2_listLive 52 = .ok (.arraylength, 1) := by decide +kernel
theorem dX2_listLive_53 : decode cX2_listLive 53 = .ok (.if_icmp .ge 14, 3) := by decide +kernel
theorem dX2_listLive_56 : decode cX2_listLive 56 = .ok (.aload_n 0, 1) := by decide +kernel
theorem dX2_listLive_57 : decode cX2_listLive 57 = .ok (.getfield 23, 3) := by decide +kernel
theorem dX2_listLive_60 : decode cX2_listLive 60 = .ok (.iload_n 1, 1) := by decide +kernel
theorem dX2_listLive_61 : decode cX2_listLive 61 = .ok (.iload 5, 2) := by decide +kernel
theorem dX2_listLive_63 : decode cX2_listLive 63 = .ok (.iastore, 1) := by decide +kernel
theorem dX2_listLive_64 : decode cX2_listLive 64 = .ok (.iinc 1 1, 3) := by decide +kernel
theorem dX2_listLive_67 : decode cX2_listLive 67 = .ok (.iinc 4 1, 3) := by decide +kernel
theorem dX2_listLive_70 : decode cX2_listLive 70 = .ok (.goto (-47), 3) := by decide +kernel
theorem dX2_listLive_73 : decode cX2_listLive 73 = .ok (.iinc 2 1, 3) := by decide +kernel
theorem dX2_listLive_76 : decode cX2_listLive 76 = .ok (.goto (-72), 3) := by decide +kernel
theorem dX2_listLive_79 : decode cX2_listLive 79 = .ok (.iload_n 1, 1) := by decide +kernel
theorem dX2_listLive_80 : decode cX2_listLive 80 = .ok (.ireturn, 1) := by decide +kernel
set_option maxRecDepth 20000 in
theorem ggX2_liveWords_X2_listLive : GoodIn wsX2_liveWords wsX2_listLive := goodIn_r _ [5, 6, 7, 8, 9, 10, 11, 12, 13, 14, 15, 16, 17, 18, 19, 20, 21, 22, 23, 24, 25, 26, 27, 52, 53, 54, 55, 56, 57, 58, 59, 60, 61, 62] (by decide +kernel) (by decide +kernel)
set_option maxRecDepth 20000 in
theorem gX2_liveWords_X2_listLive : GoodIn wsX2_liveWords (wsV RX2 111 RX2 yX2_listLive wsX2_listLive) := goodIn_app (goodIn_of _ (by decide +kernel)) ggX2_liveWords_X2_listLive
set_option maxRecDepth 20000 in
theorem ggX2_liveWords_X2_rowAt : GoodIn wsX2_liveWords wsX2_rowAt := goodIn_r _ [31, 7, 52, 53, 54, 55, 56, 57, 58] (by decide +kernel) (by decide +kernel)
set_option maxRecDepth 20000 in
theorem gX2_liveWords_X2_rowAt : GoodIn wsX2_liveWords (wsV RX2 114 RX2 yX2_rowAt wsX2_rowAt) := goodIn_app (goodIn_of _ (by decide +kernel)) ggX2_liveWords_X2_rowAt
set_option maxRecDepth 20000 in
theorem ggX2_liveWords_X2_lengthOf : GoodIn wsX2_liveWords wsX2_lengthOf := goodIn_r _ [35, 36, 37, 38, 4, 39, 40, 41, 42, 43, 44, 45, 46, 47, 48, 49, 50, 51, 52, 53, 54, 55, 56, 57, 58, 63, 64, 65, 66, 67] (by decide +kernel) (by decide +kernel)
set_option maxRecDepth 20000 in
theorem gX2_liveWords_X2_lengthOf : GoodIn wsX2_liveWords (wsV RX2 73 RX2 yX2_lengthOf wsX2_lengthOf) := goodIn_app (goodIn_of _ (by decide +kernel)) ggX2_liveWords_X2_lengthOf
theorem dX2_liveWords_0 : decode cX2_liveWords 0 = .ok (.aload_n 0, 1) := by decide +kernel
theorem dX2_liveWords_1 : decode cX2_liveWords 1 = .ok (.invokevirtual 111, 3) := by decide +kernel
theorem dX2_liveWords_4 : decode cX2_liveWords 4 = .ok (.istore_n 1, 1) := by decide +kernel
theorem dX2_liveWords_5 : decode cX2_liveWords 5 = .ok (.iconst 0, 1) := by decide +kernel
theorem dX2_liveWords_6 : decode cX2_liveWords 6 = .ok (.istore_n 2, 1) := by decide +kernel
theorem dX2_liveWords_7 : decode cX2_liveWords 7 = .ok (.iconst 0, 1) := by decide +kernel
theorem dX2_liveWords_8 : decode cX2_liveWords 8 = .ok (.istore_n 3, 1) := by decide +kernel
theorem dX2_liveWords_9 : decode cX2_liveWords 9 = .ok (.iload_n 3, 1) := by decide +kernel
theorem dX2_liveWords_10 : decode cX2_liveWords 10 = .ok (.iload_n 1, 1) := by decide +kernel
theorem dX2_liveWords_11 : decode cX2_liveWords 11 = .ok (.if_icmp .ge 21, 3) := by decide +kernel
theorem dX2_liveWords_14 : decode cX2_liveWords 14 = .ok (.iload_n 2, 1) := by decide +kernel
theorem dX2_liveWords_15 : decode cX2_liveWords 15 = .ok (.aload_n 0, 1) := by decide +kernel
theorem dX2_liveWords_16 : decode cX2_liveWords 16 = .ok (.aload_n 0, 1) := by decide +kernel
theorem dX2_liveWords_17 : decode cX2_liveWords 17 = .ok (.iload_n 3, 1) := by decide +kernel
theorem dX2_liveWords_18 : decode cX2_liveWords 18 = .ok (.invokevirtual 114, 3) := by decide +kernel
theorem dX2_liveWords_21 : decode cX2_liveWords 21 = .ok (.invokevirtual 73, 3) := by decide +kernel
theorem dX2_liveWords_24 : decode cX2_liveWords 24 = .ok (.iadd, 1) := by decide +kernel
theorem dX2_liveWords_25 : decode cX2_liveWords 25 = .ok (.istore_n 2, 1) := by decide +kernel
theorem dX2_liveWords_26 : decode cX2_liveWords 26 = .ok (.iinc 3 1, 3) := by decide +kernel
theorem dX2_liveWords_29 : decode cX2_liveWords 29 = .ok (.goto (-20), 3) := by decide +kernel
theorem dX2_liveWords_32 : decode cX2_liveWords 32 = .ok (.iload_n 2, 1) := by decide +kernel
theorem dX2_liveWords_33 : decode cX2_liveWords 33 = .ok (.ireturn, 1) := by decide +kernel
set_option maxRecDepth 20000 in
theorem ggX2_leadsTo_X2_equalWords : GoodIn wsX2_leadsTo wsX2_equalWords := goodIn_r _ [5, 6, 7, 8, 9, 10, 11, 12, 13, 4, 14, 55, 56, 57, 58, 59, 60, 61, 62, 63, 64, 65, 66] (by decide +kernel) (by decide +kernel)
set_option maxRecDepth 20000 in
theorem gX2_leadsTo_X2_equalWords : GoodIn wsX2_leadsTo (wsV RX2 195 RX2 yX2_equalWords wsX2_equalWords) := goodIn_app (goodIn_of _ (by decide +kernel)) ggX2_leadsTo_X2_equalWords
set_option maxRecDepth 20000 in
theorem ggX2_leadsTo_X2_listLive : GoodIn wsX2_leadsTo wsX2_listLive := goodIn_r _ [18, 19, 20, 21, 22, 23, 24, 25, 26, 27, 28, 29, 30, 31, 32, 33, 34, 35, 36, 37, 38, 39, 40, 55, 56, 57, 58, 59, 60, 61, 67, 68, 69, 70] (by decide +kernel) (by decide +kernel)
set_option maxRecDepth 20000 in
theorem gX2_leadsTo_X2_listLive : GoodIn wsX2_leadsTo (wsV RX2 111 RX2 yX2_listLive wsX2_listLive) := goodIn_app (goodIn_of _ (by decide +kernel)) ggX2_leadsTo_X2_listLive
set_option maxRecDepth 20000 in
theorem ggX2_leadsTo_X2_rowAt : GoodIn wsX2_leadsTo wsX2_rowAt := goodIn_r _ [44, 20, 55, 56, 57, 58, 59, 60, 61] (by decide +kernel) (by decide +kernel)
set_option maxRecDepth 20000 in
theorem gX2_leadsTo_X2_rowAt : GoodIn wsX2_leadsTo (wsV RX2 114 RX2 yX2_rowAt wsX2_rowAt) := goodIn_app (goodIn_of _ (by decide +kernel)) ggX2_leadsTo_X2_rowAt
set_option maxRecDepth 20000 in
theorem ggX2_leadsTo_X2_wordOf : GoodIn wsX2_leadsTo wsX2_wordOf := goodIn_r _ [47] (by decide +kernel) (by decide +kernel)
set_option maxRecDepth 20000 in
theorem gX2_leadsTo_X2_wordOf : GoodIn wsX2_leadsTo (va_wsS RX2 63 yX2_wordOf wsX2_wordOf) := goodIn_app (goodIn_of _ (by decide +kernel)) ggX2_leadsTo_X2_wordOf
set_option maxRecDepth 20000 in
theorem ggX2_leadsTo_X2_refsOf : GoodIn wsX2_leadsTo wsX2_refsOf := goodIn_r _ [51, 6, 7, 8, 9, 10, 11, 12, 13, 4, 14, 52, 53, 54, 55, 56, 57, 58, 59, 60, 61, 62, 63, 64, 65, 66] (by decide +kernel) (by decide +kernel)
set_option maxRecDepth 20000 in
theorem gX2_leadsTo_X2_refsOf : GoodIn wsX2_leadsTo (wsV RX2 83 RX2 yX2_refsOf wsX2_refsOf) := goodIn_app (goodIn_of _ (by decide +kernel)) ggX2_leadsTo_X2_refsOf
theorem dX2_leadsTo_0 : decode cX2_leadsTo 0 = .ok (.aload_n 0, 1) := by decide +kernel
theorem dX2_leadsTo_1 : decode cX2_leadsTo 1 = .ok (.iconst 1, 1) := by decide +kernel
theorem dX2_leadsTo_2 : decode cX2_leadsTo 2 = .ok (.bipush 8, 2) := by decide +kernel
theorem dX2_leadsTo_4 : decode cX2_leadsTo 4 = .ok (.iload_n 1, 1) := by decide +kernel
theorem dX2_leadsTo_5 : decode cX2_leadsTo 5 = .ok (.invokevirtual 195, 3) := by decide +kernel
theorem dX2_leadsTo_8 : decode cX2_leadsTo 8 = .ok (.istore_n 2, 1) := by decide +kernel
theorem dX2_leadsTo_9 : decode cX2_leadsTo 9 = .ok (.aload_n 0, 1) := by decide +kernel
theorem dX2_leadsTo_10 : decode cX2_leadsTo 10 = .ok (.invokevirtual 111, 3) := by decide +kernel
theorem dX2_leadsTo_13 : decode cX2_leadsTo 13 = .ok (.istore_n 3, 1) := by decide +kernel
theorem dX2_leadsTo_14 : decode cX2_leadsTo 14 = .ok (.iconst 0, 1) := by decide +kernel
theorem dX2_leadsTo_15 : decode cX2_leadsTo 15 = .ok (.istore 4, 2) := by decide +kernel
theorem dX2_leadsTo_17 : decode cX2_leadsTo 17 = .ok (.iload 4, 2) := by decide +kernel
theorem dX2_leadsTo_19 : decode cX2_leadsTo 19 = .ok (.iload_n 3, 1) := by decide +kernel
theorem dX2_leadsTo_20 : decode cX2_leadsTo 20 = .ok (.if_icmp .ge 37, 3) := by decide +kernel
theorem dX2_leadsTo_23 : decode cX2_leadsTo 23 = .ok (.aload_n 0, 1) := by decide +kernel
theorem dX2_leadsTo_24 : decode cX2_leadsTo 24 = .ok (.iload 4, 2) := by decide +kernel
theorem dX2_leadsTo_26 : decode cX2_leadsTo 26 = .ok (.invokevirtual 114, 3) := by decide +kernel
theorem dX2_leadsTo_29 : decode cX2_leadsTo 29 = .ok (.istore 5, 2) := by decide +kernel
theorem dX2_leadsTo_31 : decode cX2_leadsTo 31 = .ok (.iload_n 2, 1) := by decide +kernel
theorem dX2_leadsTo_32 : decode cX2_leadsTo 32 = .ok (.aload_n 0, 1) := by decide +kernel
theorem dX2_leadsTo_33 : decode cX2_leadsTo 33 = .ok (.iload 5, 2) := by decide +kernel
theorem dX2_leadsTo_35 : decode cX2_leadsTo 35 = .ok (.iconst 0, 1) := by decide +kernel
theorem dX2_leadsTo_36 : decode cX2_leadsTo 36 = .ok (.invokestatic 63, 3) := by decide +kernel
theorem dX2_leadsTo_39 : decode cX2_leadsTo 39 = .ok (.aload_n 0, 1) := by decide +kernel
theorem dX2_leadsTo_40 : decode cX2_leadsTo 40 = .ok (.iload 5, 2) := by decide +kernel
theorem dX2_leadsTo_42 : decode cX2_leadsTo 42 = .ok (.invokevirtual 83, 3) := by decide +kernel
theorem dX2_leadsTo_45 : decode cX2_leadsTo 45 = .ok (.iload_n 1, 1) := by decide +kernel
theorem dX2_leadsTo_46 : decode cX2_leadsTo 46 = .ok (.invokevirtual 195, 3) := by decide +kernel
theorem dX2_leadsTo_49 : decode cX2_leadsTo 49 = .ok (.iadd, 1) := by decide +kernel
theorem dX2_leadsTo_50 : decode cX2_leadsTo 50 = .ok (.istore_n 2, 1) := by decide +kernel
theorem dX2_leadsTo_51 : decode cX2_leadsTo 51 = .ok (.iinc 4 1, 3) := by decide +kernel
theorem dX2_leadsTo_54 : decode cX2_leadsTo 54 = .ok (.goto (-37), 3) := by decide +kernel
theorem dX2_leadsTo_57 : decode cX2_leadsTo 57 = .ok (.iload_n 2, 1) := by decide +kernel
theorem dX2_leadsTo_58 : decode cX2_leadsTo 58 = .ok (.ireturn, 1) := by decide +kernel
set_option maxRecDepth 20000 in
theorem ggX2_equalWords_X1_at : GoodIn wsX2_equalWords wsX1_at := goodIn_r _ [6, 7, 8, 9, 10, 18, 19, 20, 21, 22] (by decide +kernel) (by decide +kernel)
set_option maxRecDepth 20000 in
theorem gX2_equalWords_X1_at : GoodIn wsX2_equalWords (wsV RX2 92 RX1 yX1_at wsX1_at) := goodIn_app (goodIn_of _ (by decide +kernel)) ggX2_equalWords_X1_at
theorem dX2_equalWords_0 : decode cX2_equalWords 0 = .ok (.iconst 0, 1) := by decide +kernel
theorem dX2_equalWords_1 : decode cX2_equalWords 1 = .ok (.istore 4, 2) := by decide +kernel
theorem dX2_equalWords_3 : decode cX2_equalWords 3 = .ok (.iconst 0, 1) := by decide +kernel
theorem dX2_equalWords_4 : decode cX2_equalWords 4 = .ok (.istore 5, 2) := by decide +kernel
theorem dX2_equalWords_6 : decode cX2_equalWords 6 = .ok (.iload 5, 2) := by decide +kernel
theorem dX2_equalWords_8 : decode cX2_equalWords 8 = .ok (.iload_n 2, 1) := by decide +kernel
theorem dX2_equalWords_9 : decode cX2_equalWords 9 = .ok (.if_icmp .ge 27, 3) := by decide +kernel
theorem dX2_equalWords_12 : decode cX2_equalWords 12 = .ok (.aload_n 0, 1) := by decide +kernel
theorem dX2_equalWords_13 : decode cX2_equalWords 13 = .ok (.getfield 10, 3) := by decide +kernel
theorem dX2_equalWords_16 : decode cX2_equalWords 16 = .ok (.iload_n 1, 1) := by decide +kernel
theorem dX2_equalWords_17 : decode cX2_equalWords 17 = .ok (.iload 5, 2) := by decide +kernel
theorem dX2_equalWords_19 : decode cX2_equalWords 19 = .ok (.iadd, 1) := by decide +kernel
theorem dX2_equalWords_20 : decode cX2_equalWords 20 = .ok (.invokevirtual 92, 3) := by decide +kernel
theorem dX2_equalWords_23 : decode cX2_equalWords 23 = .ok (.iload_n 3, 1) := by decide +kernel
theorem dX2_equalWords_24 : decode cX2_equalWords 24 = .ok (.if_icmp .ne 6, 3) := by decide +kernel
theorem dX2_equalWords_27 : decode cX2_equalWords 27 = .ok (.iinc 4 1, 3) := by decide +kernel
theorem dX2_equalWords_30 : decode cX2_equalWords 30 = .ok (.iinc 5 1, 3) := by decide +kernel
theorem dX2_equalWords_33 : decode cX2_equalWords 33 = .ok (.goto (-27), 3) := by decide +kernel
theorem dX2_equalWords_36 : decode cX2_equalWords 36 = .ok (.iload 4, 2) := by decide +kernel
theorem dX2_equalWords_38 : decode cX2_equalWords 38 = .ok (.ireturn, 1) := by decide +kernel
set_option maxRecDepth 20000 in
theorem ggX2_release_X0_remove : GoodIn wsX2_release wsX0_remove := goodIn_r _ [7, 8, 9, 10, 11, 12, 6, 13, 14, 15, 16, 17, 18, 19, 20, 21, 22, 23, 24, 25, 26, 27, 28, 29, 30, 31, 32, 33, 34, 35, 54, 55, 56, 57] (by decide +kernel) (by decide +kernel)
set_option maxRecDepth 20000 in
theorem gX2_release_X0_remove : GoodIn wsX2_release (wsV RX2 198 RX0 yX0_remove wsX0_remove) := goodIn_app (goodIn_of _ (by decide +kernel)) ggX2_release_X0_remove
set_option maxRecDepth 20000 in
theorem ggX2_release_X1_write : GoodIn wsX2_release wsX1_write := goodIn_r _ [40, 41, 42, 43, 44, 45, 26, 46, 58, 59, 60, 61, 62] (by decide +kernel) (by decide +kernel)
set_option maxRecDepth 20000 in
theorem gX2_release_X1_write : GoodIn wsX2_release (wsV RX2 60 RX1 yX1_write wsX1_write) := goodIn_app (goodIn_of _ (by decide +kernel)) ggX2_release_X1_write
theorem dX2_release_0 : decode cX2_release 0 = .ok (.aload_n 0, 1) := by decide +kernel
theorem dX2_release_1 : decode cX2_release 1 = .ok (.getfield 19, 3) := by decide +kernel
theorem dX2_release_4 : decode cX2_release 4 = .ok (.iload_n 1, 1) := by decide +kernel
theorem dX2_release_5 : decode cX2_release 5 = .ok (.invokevirtual 198, 3) := by decide +kernel
theorem dX2_release_8 : decode cX2_release 8 = .ok (.aload_n 0, 1) := by decide +kernel
theorem dX2_release_9 : decode cX2_release 9 = .ok (.getfield 10, 3) := by decide +kernel
theorem dX2_release_12 : decode cX2_release 12 = .ok (.iload_n 1, 1) := by decide +kernel
theorem dX2_release_13 : decode cX2_release 13 = .ok (.iconst 0, 1) := by decide +kernel
theorem dX2_release_14 : decode cX2_release 14 = .ok (.invokevirtual 60, 3) := by decide +kernel
theorem dX2_release_17 : decode cX2_release 17 = .ok (.return_, 1) := by decide +kernel
theorem dX2_addFound_0 : decode cX2_addFound 0 = .ok (.aload_n 0, 1) := by decide +kernel
theorem dX2_addFound_1 : decode cX2_addFound 1 = .ok (.getfield 27, 3) := by decide +kernel
theorem dX2_addFound_4 : decode cX2_addFound 4 = .ok (.aload_n 0, 1) := by decide +kernel
theorem dX2_addFound_5 : decode cX2_addFound 5 = .ok (.getfield 23, 3) := by decide +kernel
theorem dX2_addFound_8 : decode cX2_addFound 8 = .ok (.arraylength, 1) := by decide +kernel
theorem dX2_addFound_9 : decode cX2_addFound 9 = .ok (.if_icmp .ge 23, 3) := by decide +kernel
theorem dX2_addFound_12 : decode cX2_addFound 12 = .ok (.aload_n 0, 1) := by decide +kernel
theorem dX2_addFound_13 : decode cX2_addFound 13 = .ok (.getfield 23, 3) := by decide +kernel
theorem dX2_addFound_16 : decode cX2_addFound 16 = .ok (.aload_n 0, 1) := by decide +kernel
theorem dX2_addFound_17 : decode cX2_addFound 17 = .ok (.getfield 27, 3) := by decide +kernel
theorem dX2_addFound_20 : decode cX2_addFound 20 = .ok (.iload_n 1, 1) := by decide +kernel
theorem dX2_addFound_21 : decode cX2_addFound 21 = .ok (.iastore, 1) := by decide +kernel
theorem dX2_addFound_22 : decode cX2_addFound 22 = .ok (.aload_n 0, 1) := by decide +kernel
theorem dX2_addFound_23 : decode cX2_addFound 23 = .ok (.dup, 1) := by decide +kernel
theorem dX2_addFound_24 : decode cX2_addFound 24 = .ok (.getfield 27, 3) := by decide +kernel
theorem dX2_addFound_27 : decode cX2_addFound 27 = .ok (.iconst 1, 1) := by decide +kernel
theorem dX2_addFound_28 : decode cX2_addFound 28 = .ok (.iadd, 1) := by decide +kernel
theorem dX2_addFound_29 : decode cX2_addFound 29 = .ok (.putfield 27, 3) := by decide +kernel
theorem dX2_addFound_32 : decode cX2_addFound 32 = .ok (.return_, 1) := by decide +kernel
set_option maxRecDepth 20000 in
theorem ggX2_markReached_X0_clearMarks : GoodIn wsX2_markReached wsX0_clearMarks := goodIn_r _ [8, 9, 10, 11, 12, 13, 88, 89, 90, 91] (by decide +kernel) (by decide +kernel)
set_option maxRecDepth 20000 in
theorem gX2_markReached_X0_clearMarks : GoodIn wsX2_markReached (wsV RX2 201 RX0 yX0_clearMarks wsX0_clearMarks) := goodIn_app (goodIn_of _ (by decide +kernel)) ggX2_markReached_X0_clearMarks
set_option maxRecDepth 20000 in
theorem ggX2_markReached_X2_markFrom : GoodIn wsX2_markReached wsX2_markFrom := goodIn_r _ [18, 19, 1, 20, 21, 22, 23, 24, 25, 26, 17, 27, 28, 29, 30, 7, 31, 9, 32, 33, 34, 35, 36, 37, 38, 39, 40, 41, 42, 43, 44, 45, 46, 47, 48, 49, 50, 51, 52, 53, 54, 55, 56, 57, 58, 59, 60, 61, 62, 63, 64, 65, 66, 2, 3, 81, 82, 83, 84, 85, 86, 87, 92, 93, 94, 95, 96, 88, 89, 90, 91] (by decide +kernel) (by decide +kernel)
set_option maxRecDepth 20000 in
theorem gX2_markReached_X2_markFrom : GoodIn wsX2_markReached (wsV RX2 204 RX2 yX2_markFrom wsX2_markFrom) := goodIn_app (goodIn_of _ (by decide +kernel)) ggX2_markReached_X2_markFrom
set_option maxRecDepth 20000 in
theorem ggX2_markReached_X2_rowAt : GoodIn wsX2_markReached wsX2_rowAt := goodIn_r _ [70, 3, 81, 82, 83, 84, 85, 86, 87] (by decide +kernel) (by decide +kernel)
set_option maxRecDepth 20000 in
theorem gX2_markReached_X2_rowAt : GoodIn wsX2_markReached (wsV RX2 114 RX2 yX2_rowAt wsX2_rowAt) := goodIn_app (goodIn_of _ (by decide +kernel)) ggX2_markReached_X2_rowAt
set_option maxRecDepth 20000 in
theorem ggX2_markReached_X2_wordOf : GoodIn wsX2_markReached wsX2_wordOf := goodIn_r _ [73] (by decide +kernel) (by decide +kernel)
set_option maxRecDepth 20000 in
theorem gX2_markReached_X2_wordOf : GoodIn wsX2_markReached (va_wsS RX2 63 yX2_wordOf wsX2_wordOf) := goodIn_app (goodIn_of _ (by decide +kernel)) ggX2_markReached_X2_wordOf
set_option maxRecDepth 20000 in
theorem ggX2_markReached_X2_refsOf : GoodIn wsX2_markReached wsX2_refsOf := goodIn_r _ [77, 19, 20, 21, 22, 23, 24, 25, 26, 17, 27, 78, 79, 80, 81, 82, 83, 84, 85, 86, 87, 92, 93, 94, 95, 96] (by decide +kernel) (by decide +kernel)
set_option maxRecDepth 20000 in
theorem gX2_markReached_X2_refsOf : GoodIn wsX2_markReached (wsV RX2 83 RX2 yX2_refsOf wsX2_refsOf) := goodIn_app (goodIn_of _ (by decide +kernel)) ggX2_markReached_X2_refsOf
theorem dX2_markReached_0 : decode cX2_markReached 0 = .ok (.aload_n 0, 1) := by decide +kernel
theorem dX2_markReached_1 : decode cX2_markReached 1 = .ok (.getfield 19, 3) := by decide +kernel
theorem dX2_markReached_4 : decode cX2_markReached 4 = .ok (.invokevirtual 201, 3) := by decide +kernel
theorem dX2_markReached_7 : decode cX2_markReached 7 = .ok (.aload_n 0, 1) := by decide +kernel
theorem dX2_markReached_8 : decode cX2_markReached 8 = .ok (.iconst 0, 1) := by decide +kernel
theorem dX2_markReached_9 : decode cX2_markReached 9 = .ok (.putfield 27, 3) := by decide +kernel
theorem dX2_markReached_12 : decode cX2_markReached 12 = .ok (.aload_n 0, 1) := by decide +kernel
theorem dX2_markReached_13 : decode cX2_markReached 13 = .ok (.iconst 1, 1) := by decide +kernel
theorem dX2_markReached_14 : decode cX2_markReached 14 = .ok (.bipush 8, 2) := by decide +kernel
theorem dX2_markReached_16 : decode cX2_markReached 16 = .ok (.invokevirtual 204, 3) := by decide +kernel
theorem dX2_markReached_19 : decode cX2_markReached 19 = .ok (.iconst 0, 1) := by decide +kernel
theorem dX2_markReached_20 : decode cX2_markReached 20 = .ok (.istore_n 1, 1) := by decide +kernel
theorem dX2_markReached_21 : decode cX2_markReached 21 = .ok (.iload_n 1, 1) := by decide +kernel
theorem dX2_markReached_22 : decode cX2_markReached 22 = .ok (.aload_n 0, 1) := by decide +kernel
theorem dX2_markReached_23 : decode cX2_markReached 23 = .ok (.getfield 27, 3) := by decide +kernel
theorem dX2_markReached_26 : decode cX2_markReached 26 = .ok (.if_icmp .ge 38, 3) := by decide +kernel
theorem dX2_markReached_29 : decode cX2_markReached 29 = .ok (.iload_n 1, 1) := by decide +kernel
theorem dX2_markReached_30 : decode cX2_markReached 30 = .ok (.aload_n 0, 1) := by decide +kernel
theorem dX2_markReached_31 : decode cX2_markReached 31 = .ok (.getfield 23, 3) := by decide +kernel
theorem dX2_markReached_34 : decode cX2_markReached 34 = .ok (.arraylength, 1) := by decide +kernel
theorem dX2_markReached_35 : decode cX2_markReached 35 = .ok (.if_icmp .ge 29, 3) := by decide +kernel
theorem dX2_markReached_38 : decode cX2_markReached 38 = .ok (.aload_n 0, 1) := by decide +kernel
theorem dX2_markReached_39 : decode cX2_markReached 39 = .ok (.iload_n 1, 1) := by decide +kernel
theorem dX2_markReached_40 : decode cX2_markReached 40 = .ok (.invokevirtual 114, 3) := by decide +kernel
theorem dX2_markReached_43 : decode cX2_markReached 43 = .ok (.istore_n 2, 1) := by decide +kernel
theorem dX2_markReached_44 : decode cX2_markReached 44 = .ok (.aload_n 0, 1) := by decide +kernel
theorem dX2_markReached_45 : decode cX2_markReached 45 = .ok (.iload_n 2, 1) := by decide +kernel
theorem dX2_markReached_46 : decode cX2_markReached 46 = .ok (.iconst 0, 1) := by decide +kernel
theorem dX2_markReached_47 : decode cX2_markReached 47 = .ok (.invokestatic 63, 3) := by decide +kernel
theorem dX2_markReached_50 : decode cX2_markReached 50 = .ok (.aload_n 0, 1) := by decide +kernel
theorem dX2_markReached_51 : decode cX2_markReached 51 = .ok (.iload_n 2, 1) := by decide +kernel
theorem dX2_markReached_52 : decode cX2_markReached 52 = .ok (.invokevirtual 83, 3) := by decide +kernel
theorem dX2_markReached_55 : decode cX2_markReached 55 = .ok (.invokevirtual 204, 3) := by decide +kernel
theorem dX2_markReached_58 : decode cX2_markReached 58 = .ok (.iinc 1 1, 3) := by decide +kernel
theorem dX2_markReached_61 : decode cX2_markReached 61 = .ok (.goto (-40), 3) := by decide +kernel
theorem dX2_markReached_64 : decode cX2_markReached 64 = .ok (.return_, 1) := by decide +kernel
set_option maxRecDepth 20000 in
theorem ggX2_markFrom_X1_at : GoodIn wsX2_markFrom wsX1_at := goodIn_r _ [7, 8, 9, 10, 11, 62, 63, 64, 65, 66] (by decide +kernel) (by decide +kernel)
set_option maxRecDepth 20000 in
theorem gX2_markFrom_X1_at : GoodIn wsX2_markFrom (wsV RX2 92 RX1 yX1_at wsX1_at) := goodIn_app (goodIn_of _ (by decide +kernel)) ggX2_markFrom_X1_at
set_option maxRecDepth 20000 in
theorem ggX2_markFrom_X0_mark : GoodIn wsX2_markFrom wsX0_mark := goodIn_r _ [16, 17, 18, 19, 15, 20, 21, 10, 22, 23, 24, 25, 26, 27, 28, 29, 30, 31, 32, 33, 34, 35, 36, 37, 38, 39, 40, 41, 42, 43, 44, 45, 46, 47, 48, 67, 68, 69, 70] (by decide +kernel) (by decide +kernel)
set_option maxRecDepth 20000 in
theorem gX2_markFrom_X0_mark : GoodIn wsX2_markFrom (wsV RX2 207 RX0 yX0_mark wsX0_mark) := goodIn_app (goodIn_of _ (by decide +kernel)) ggX2_markFrom_X0_mark
set_option maxRecDepth 20000 in
theorem ggX2_markFrom_X2_addFound : GoodIn wsX2_markFrom wsX2_addFound := goodIn_r _ [52, 53, 54, 55, 56, 57, 58, 59, 60, 61] (by decide +kernel) (by decide +kernel)
set_option maxRecDepth 20000 in
theorem gX2_markFrom_X2_addFound : GoodIn wsX2_markFrom (wsV RX2 210 RX2 yX2_addFound wsX2_addFound) := goodIn_app (goodIn_of _ (by decide +kernel)) ggX2_markFrom_X2_addFound
theorem dX2_markFrom_0 : decode cX2_markFrom 0 = .ok (.iconst 0, 1) := by decide +kernel
theorem dX2_markFrom_1 : decode cX2_markFrom 1 = .ok (.istore_n 3, 1) := by decide +kernel
theorem dX2_markFrom_2 : decode cX2_markFrom 2 = .ok (.iload_n 3, 1) := by decide +kernel
theorem dX2_markFrom_3 : decode cX2_markFrom 3 = .ok (.iload_n 2, 1) := by decide +kernel
theorem dX2_markFrom_4 : decode cX2_markFrom 4 = .ok (.if_icmp .ge 39, 3) := by decide +kernel
theorem dX2_markFrom_7 : decode cX2_markFrom 7 = .ok (.aload_n 0, 1) := by decide +kernel
theorem dX2_markFrom_8 : decode cX2_markFrom 8 = .ok (.getfield 10, 3) := by decide +kernel
theorem dX2_markFrom_11 : decode cX2_markFrom 11 = .ok (.iload_n 1, 1) := by decide +kernel
theorem dX2_markFrom_12 : decode cX2_markFrom 12 = .ok (.iload_n 3, 1) := by decide +kernel
theorem dX2_markFrom_13 : decode cX2_markFrom 13 = .ok (.iadd, 1) := by decide +kernel
theorem dX2_markFrom_14 : decode cX2_markFrom 14 = .ok (.invokevirtual 92, 3) := by decide +kernel
theorem dX2_markFrom_17 : decode cX2_markFrom 17 = .ok (.istore 4, 2) := by decide +kernel
theorem dX2_markFrom_19 : decode cX2_markFrom 19 = .ok (.aload_n 0, 1) := by decide +kernel
theorem dX2_markFrom_20 : decode cX2_markFrom 20 = .ok (.getfield 19, 3) := by decide +kernel
theorem dX2_markFrom_23 : decode cX2_markFrom 23 = .ok (.iload 4, 2) := by decide +kernel
theorem dX2_markFrom_25 : decode cX2_markFrom 25 = .ok (.invokevirtual 207, 3) := by decide +kernel
theorem dX2_markFrom_28 : decode cX2_markFrom 28 = .ok (.ifCond .eq 9, 3) := by decide +kernel
theorem dX2_markFrom_31 : decode cX2_markFrom 31 = .ok (.aload_n 0, 1) := by decide +kernel
theorem dX2_markFrom_32 : decode cX2_markFrom 32 = .ok (.iload 4, 2) := by decide +kernel
theorem dX2_markFrom_34 : decode cX2_markFrom 34 = .ok (.invokevirtual 210, 3) := by decide +kernel
theorem dX2_markFrom_37 : decode cX2_markFrom 37 = .ok (.iinc 3 1, 3) := by decide +kernel
theorem dX2_markFrom_40 : decode cX2_markFrom 40 = .ok (.goto (-38), 3) := by decide +kernel
theorem dX2_markFrom_43 : decode cX2_markFrom 43 = .ok (.return_, 1) := by decide +kernel
set_option maxRecDepth 20000 in
theorem ggX2_recover_X0_freeAll : GoodIn wsX2_recover wsX0_freeAll := goodIn_r _ [9, 10, 11, 12, 13, 14, 15, 152, 153, 154, 155] (by decide +kernel) (by decide +kernel)
set_option maxRecDepth 20000 in
theorem gX2_recover_X0_freeAll : GoodIn wsX2_recover (wsV RX2 213 RX0 yX0_freeAll wsX0_freeAll) := goodIn_app (goodIn_of _ (by decide +kernel)) ggX2_recover_X0_freeAll
set_option maxRecDepth 20000 in
theorem ggX2_recover_X2_reviveFrom : GoodIn wsX2_recover wsX2_reviveFrom := goodIn_r _ [20, 21, 1, 3, 22, 23, 24, 25, 26, 27, 28, 19, 29, 30, 31, 32, 33, 34, 35, 36, 8, 37, 38, 39, 40, 41, 42, 43, 44, 45, 46, 47, 48, 10, 49, 50, 51, 52, 53, 54, 55, 56, 11, 57, 58, 59, 60, 61, 62, 63, 64, 65, 66, 67, 68, 69, 70, 71, 72, 73, 74, 75, 76, 77, 78, 79, 80, 81, 82, 83, 84, 85, 86, 87, 88, 89, 90, 91, 92, 93, 94, 95, 96, 97, 98, 99, 100, 101, 102, 103, 104, 105, 106, 107, 108, 109, 110, 111, 112, 113, 114, 115, 116, 117, 118, 119, 120, 121, 122, 123, 124, 125, 126, 127, 128, 129, 130, 2, 4, 131, 132, 133, 134, 135, 136, 137, 145, 146, 147, 148, 149, 150, 151, 156, 157, 158, 159, 160, 152, 153, 154, 155] (by decide +kernel) (by decide +kernel)
set_option maxRecDepth 20000 in
theorem gX2_recover_X2_reviveFrom : GoodIn wsX2_recover (wsV RX2 216 RX2 yX2_reviveFrom wsX2_reviveFrom) := goodIn_app (goodIn_of _ (by decide +kernel)) ggX2_recover_X2_reviveFrom
set_option maxRecDepth 20000 in
theorem ggX2_recover_X2_rowAt : GoodIn wsX2_recover wsX2_rowAt := goodIn_r _ [141, 4, 145, 146, 147, 148, 149, 150, 151] (by decide +kernel) (by decide +kernel)
set_option maxRecDepth 20000 in
theorem gX2_recover_X2_rowAt : GoodIn wsX2_recover (wsV RX2 114 RX2 yX2_rowAt wsX2_rowAt) := goodIn_app (goodIn_of _ (by decide +kernel)) ggX2_recover_X2_rowAt
set_option maxRecDepth 20000 in
theorem ggX2_recover_X2_wordOf : GoodIn wsX2_recover wsX2_wordOf := goodIn_r _ [144] (by decide +kernel) (by decide +kernel)
set_option maxRecDepth 20000 in
theorem gX2_recover_X2_wordOf : GoodIn wsX2_recover (va_wsS RX2 63 yX2_wordOf wsX2_wordOf) := goodIn_app (goodIn_of _ (by decide +kernel)) ggX2_recover_X2_wordOf
set_option maxRecDepth 20000 in
theorem ggX2_recover_X2_refsOf : GoodIn wsX2_recover wsX2_refsOf := goodIn_r _ [71, 21, 22, 23, 24, 25, 26, 27, 28, 19, 29, 72, 73, 74, 145, 146, 147, 148, 149, 150, 151, 156, 157, 158, 159, 160] (by decide +kernel) (by decide +kernel)
set_option maxRecDepth 20000 in
theorem gX2_recover_X2_refsOf : GoodIn wsX2_recover (wsV RX2 83 RX2 yX2_refsOf wsX2_refsOf) := goodIn_app (goodIn_of _ (by decide +kernel)) ggX2_recover_X2_refsOf
theorem dX2_recover_0 : decode cX2_recover 0 = .ok (.aload_n 0, 1) := by decide +kernel
theorem dX2_recover_1 : decode cX2_recover 1 = .ok (.getfield 19, 3) := by decide +kernel
theorem dX2_recover_4 : decode cX2_recover 4 = .ok (.invokevirtual 213, 3) := by decide +kernel
theorem dX2_recover_7 : decode cX2_recover 7 = .ok (.aload_n 0, 1) := by decide +kernel
theorem dX2_recover_8 : decode cX2_recover 8 = .ok (.iconst 0, 1) := by decide +kernel
theorem dX2_recover_9 : decode cX2_recover 9 = .ok (.putfield 27, 3) := by decide +kernel
theorem dX2_recover_12 : decode cX2_recover 12 = .ok (.aload_n 0, 1) := by decide +kernel
theorem dX2_recover_13 : decode cX2_recover 13 = .ok (.iconst 0, 1) := by decide +kernel
theorem dX2_recover_14 : decode cX2_recover 14 = .ok (.putfield 31, 3) := by decide +kernel
theorem dX2_recover_17 : decode cX2_recover 17 = .ok (.aload_n 0, 1) := by decide +kernel
theorem dX2_recover_18 : decode cX2_recover 18 = .ok (.iconst 1, 1) := by decide +kernel
theorem dX2_recover_19 : decode cX2_recover 19 = .ok (.bipush 8, 2) := by decide +kernel
theorem dX2_recover_21 : decode cX2_recover 21 = .ok (.invokevirtual 216, 3) := by decide +kernel
theorem dX2_recover_24 : decode cX2_recover 24 = .ok (.iconst 0, 1) := by decide +kernel
theorem dX2_recover_25 : decode cX2_recover 25 = .ok (.istore_n 1, 1) := by decide +kernel
theorem dX2_recover_26 : decode cX2_recover 26 = .ok (.iload_n 1, 1) := by decide +kernel
theorem dX2_recover_27 : decode cX2_recover 27 = .ok (.aload_n 0, 1) := by decide +kernel
theorem dX2_recover_28 : decode cX2_recover 28 = .ok (.getfield 27, 3) := by decide +kernel
theorem dX2_recover_31 : decode cX2_recover 31 = .ok (.if_icmp .ge 38, 3) := by decide +kernel
theorem dX2_recover_34 : decode cX2_recover 34 = .ok (.iload_n 1, 1) := by decide +kernel
theorem dX2_recover_35 : decode cX2_recover 35 = .ok (.aload_n 0, 1) := by decide +kernel
theorem dX2_recover_36 : decode cX2_recover 36 = .ok (.getfield 23, 3) := by decide +kernel
theorem dX2_recover_39 : decode cX2_recover 39 = .ok (.arraylength, 1) := by decide +kernel
theorem dX2_recover_40 : decode cX2_recover 40 = .ok (.if_icmp .ge 29, 3) := by decide +kernel
theorem dX2_recover_43 : decode cX2_recover 43 = .ok (.aload_n 0, 1) := by decide +kernel
theorem dX2_recover_44 : decode cX2_recover 44 = .ok (.iload_n 1, 1) := by decide +kernel
theorem dX2_recover_45 : decode cX2_recover 45 = .ok (.invokevirtual 114, 3) := by decide +kernel
theorem dX2_recover_48 : decode cX2_recover 48 = .ok (.istore_n 2, 1) := by decide +kernel
theorem dX2_recover_49 : decode cX2_recover 49 = .ok (.aload_n 0, 1) := by decide +kernel
theorem dX2_recover_50 : decode cX2_recover 50 = .ok (.iload_n 2, 1) := by decide +kernel
theorem dX2_recover_51 : decode cX2_recover 51 = .ok (.iconst 0, 1) := by decide +kernel
theorem dX2_recover_52 : decode cX2_recover 52 = .ok (.invokestatic 63, 3) := by decide +kernel
theorem dX2_recover_55 : decode cX2_recover 55 = .ok (.aload_n 0, 1) := by decide +kernel
theorem dX2_recover_56 : decode cX2_recover 56 = .ok (.iload_n 2, 1) := by decide +kernel
theorem dX2_recover_57 : decode cX2_recover 57 = .ok (.invokevirtual 83, 3) := by decide +kernel
theorem dX2_recover_60 : decode cX2_recover 60 = .ok (.invokevirtual 216, 3) := by decide +kernel
theorem dX2_recover_63 : decode cX2_recover 63 = .ok (.iinc 1 1, 3) := by decide +kernel
theorem dX2_recover_66 : decode cX2_recover 66 = .ok (.goto (-40), 3) := by decide +kernel
theorem dX2_recover_69 : decode cX2_recover 69 = .ok (.return_, 1) := by decide +kernel
set_option maxRecDepth 20000 in
theorem ggX2_reviveFrom_X1_at : GoodIn wsX2_reviveFrom wsX1_at := goodIn_r _ [8, 9, 10, 11, 12, 133, 134, 135, 136, 137] (by decide +kernel) (by decide +kernel)
set_option maxRecDepth 20000 in
theorem gX2_reviveFrom_X1_at : GoodIn wsX2_reviveFrom (wsV RX2 92 RX1 yX1_at wsX1_at) := goodIn_app (goodIn_of _ (by decide +kernel)) ggX2_reviveFrom_X1_at
set_option maxRecDepth 20000 in
theorem ggX2_reviveFrom_X2_isTarget : GoodIn wsX2_reviveFrom wsX2_isTarget := goodIn_r _ [16, 2, 17, 18, 19, 20, 21, 22, 23, 24, 25, 26, 27, 28, 29, 30, 31, 32, 33, 34, 35, 36, 37, 38, 39, 40, 41, 42, 126, 127, 128, 129, 130, 131, 132, 138, 139, 140, 141] (by decide +kernel) (by decide +kernel)
set_option maxRecDepth 20000 in
theorem gX2_reviveFrom_X2_isTarget : GoodIn wsX2_reviveFrom (wsV RX2 89 RX2 yX2_isTarget wsX2_isTarget) := goodIn_app (goodIn_of _ (by decide +kernel)) ggX2_reviveFrom_X2_isTarget
set_option maxRecDepth 20000 in
theorem ggX2_reviveFrom_X2_canRevive : GoodIn wsX2_reviveFrom wsX2_canRevive := goodIn_r _ [46, 1, 2, 47, 48, 49, 11, 50, 4, 5, 6, 7, 8, 9, 10, 12, 51, 52, 53, 54, 55, 56, 57, 58, 59, 60, 61, 62, 63, 64, 65, 66, 67, 68, 69, 70, 71, 72, 73, 74, 20, 75, 22, 23, 24, 76, 77, 78, 35, 36, 37, 79, 80, 81, 82, 33, 83, 84, 85, 86, 34, 87, 88, 89, 90, 91, 92, 93, 94, 95, 96, 97, 98, 99, 100, 126, 127, 128, 129, 130, 131, 132, 133, 134, 135, 136, 137, 138, 139, 140, 141] (by decide +kernel) (by decide +kernel)
set_option maxRecDepth 20000 in
theorem gX2_reviveFrom_X2_canRevive : GoodIn wsX2_reviveFrom (wsV RX2 219 RX2 yX2_canRevive wsX2_canRevive) := goodIn_app (goodIn_of _ (by decide +kernel)) ggX2_reviveFrom_X2_canRevive
set_option maxRecDepth 20000 in
theorem ggX2_reviveFrom_X2_sizeOf : GoodIn wsX2_reviveFrom wsX2_sizeOf := goodIn_r _ [50, 1, 4, 5, 6, 7, 8, 9, 10, 11, 12, 51, 52, 53, 126, 127, 128, 129, 130, 131, 132, 133, 134, 135, 136, 137] (by decide +kernel) (by decide +kernel)
set_option maxRecDepth 20000 in
theorem gX2_reviveFrom_X2_sizeOf : GoodIn wsX2_reviveFrom (wsV RX2 126 RX2 yX2_sizeOf wsX2_sizeOf) := goodIn_app (goodIn_of _ (by decide +kernel)) ggX2_reviveFrom_X2_sizeOf
set_option maxRecDepth 20000 in
theorem ggX2_reviveFrom_X0_add : GoodIn wsX2_reviveFrom wsX0_add := goodIn_r _ [104, 42, 22, 23, 20, 24, 76, 11, 77, 78, 105, 106, 107, 108, 33, 34, 87, 88, 89, 90, 91, 109, 110, 111, 112, 95, 96, 25, 26, 27, 28, 29, 30, 31, 32, 35, 36, 37, 138, 139, 140, 141] (by decide +kernel) (by decide +kernel)
set_option maxRecDepth 20000 in
theorem gX2_reviveFrom_X0_add : GoodIn wsX2_reviveFrom (wsV RX2 52 RX0 yX0_add wsX0_add) := goodIn_app (goodIn_of _ (by decide +kernel)) ggX2_reviveFrom_X0_add
set_option maxRecDepth 20000 in
theorem ggX2_reviveFrom_X2_addFound : GoodIn wsX2_reviveFrom wsX2_addFound := goodIn_r _ [116, 117, 118, 126, 127, 128, 129, 130, 131, 132] (by decide +kernel) (by decide +kernel)
set_option maxRecDepth 20000 in
theorem gX2_reviveFrom_X2_addFound : GoodIn wsX2_reviveFrom (wsV RX2 210 RX2 yX2_addFound wsX2_addFound) := goodIn_app (goodIn_of _ (by decide +kernel)) ggX2_reviveFrom_X2_addFound
set_option maxRecDepth 20000 in
theorem ggX2_reviveFrom_X1_write : GoodIn wsX2_reviveFrom wsX1_write := goodIn_r _ [122, 9, 123, 124, 125, 10, 11, 12, 133, 134, 135, 136, 137] (by decide +kernel) (by decide +kernel)
set_option maxRecDepth 20000 in
theorem gX2_reviveFrom_X1_write : GoodIn wsX2_reviveFrom (wsV RX2 60 RX1 yX1_write wsX1_write) := goodIn_app (goodIn_of _ (by decide +kernel)) ggX2_reviveFrom_X1_write
theorem dX2_reviveFrom_0 : decode cX2_reviveFrom 0 = .ok (.iconst 0, 1) := by decide +kernel
theorem dX2_reviveFrom_1 : decode cX2_reviveFrom 1 = .ok (.istore_n 3, 1) := by decide +kernel
theorem dX2_reviveFrom_2 : decode cX2_reviveFrom 2 = .ok (.iload_n 3, 1) := by decide +kernel
theorem dX2_reviveFrom_3 : decode cX2_reviveFrom 3 = .ok (.iload_n 2, 1) := by decide +kernel
theorem dX2_reviveFrom_4 : decode cX2_reviveFrom 4 = .ok (.if_icmp .ge 87, 3) := by decide +kernel
theorem dX2_reviveFrom_7 : decode cX2_reviveFrom 7 = .ok (.aload_n 0, 1) := by decide +kernel
theorem dX2_reviveFrom_8 : decode cX2_reviveFrom 8 = .ok (.getfield 10, 3) := by decide +kernel
theorem dX2_reviveFrom_11 : decode cX2_reviveFrom 11 = .ok (.iload_n 1, 1) := by decide +kernel
theorem dX2_reviveFrom_12 : decode cX2_reviveFrom 12 = .ok (.iload_n 3, 1) := by decide +kernel
theorem dX2_reviveFrom_13 : decode cX2_reviveFrom 13 = .ok (.iadd, 1) := by decide +kernel
theorem dX2_reviveFrom_14 : decode cX2_reviveFrom 14 = .ok (.invokevirtual 92, 3) := by decide +kernel
theorem dX2_reviveFrom_17 : decode cX2_reviveFrom 17 = .ok (.istore 4, 2) := by decide +kernel
theorem dX2_reviveFrom_19 : decode cX2_reviveFrom 19 = .ok (.aload_n 0, 1) := by decide +kernel
theorem dX2_reviveFrom_20 : decode cX2_reviveFrom 20 = .ok (.iload 4, 2) := by decide +kernel
theorem dX2_reviveFrom_22 : decode cX2_reviveFrom 22 = .ok (.invokevirtual 89, 3) := by decide +kernel
theorem dX2_reviveFrom_25 : decode cX2_reviveFrom 25 = .ok (.ifCond .eq 6, 3) := by decide +kernel
theorem dX2_reviveFrom_28 : decode cX2_reviveFrom 28 = .ok (.goto 57, 3) := by decide +kernel
theorem dX2_reviveFrom_31 : decode cX2_reviveFrom 31 = .ok (.aload_n 0, 1) := by decide +kernel
theorem dX2_reviveFrom_32 : decode cX2_reviveFrom 32 = .ok (.iload 4, 2) := by decide +kernel
theorem dX2_reviveFrom_34 : decode cX2_reviveFrom 34 = .ok (.invokevirtual 219, 3) := by decide +kernel
theorem dX2_reviveFrom_37 : decode cX2_reviveFrom 37 = .ok (.ifCond .eq 27, 3) := by decide +kernel
theorem dX2_reviveFrom_40 : decode cX2_reviveFrom 40 = .ok (.aload_n 0, 1) := by decide +kernel
theorem dX2_reviveFrom_41 : decode cX2_reviveFrom 41 = .ok (.getfield 19, 3) := by decide +kernel
theorem dX2_reviveFrom_44 : decode cX2_reviveFrom 44 = .ok (.iload 4, 2) := by decide +kernel
theorem dX2_reviveFrom_46 : decode cX2_reviveFrom 46 = .ok (.aload_n 0, 1) := by decide +kernel
theorem dX2_reviveFrom_47 : decode cX2_reviveFrom 47 = .ok (.iload 4, 2) := by decide +kernel
theorem dX2_reviveFrom_49 : decode cX2_reviveFrom 49 = .ok (.invokevirtual 126, 3) := by decide +kernel
theorem dX2_reviveFrom_52 : decode cX2_reviveFrom 52 = .ok (.invokevirtual 52, 3) := by decide +kernel
theorem dX2_reviveFrom_55 : decode cX2_reviveFrom 55 = .ok (.aload_n 0, 1) := by decide +kernel
theorem dX2_reviveFrom_56 : decode cX2_reviveFrom 56 = .ok (.iload 4, 2) := by decide +kernel
theorem dX2_reviveFrom_58 : decode cX2_reviveFrom 58 = .ok (.invokevirtual 210, 3) := by decide +kernel
theorem dX2_reviveFrom_61 : decode cX2_reviveFrom 61 = .ok (.goto 24, 3) := by decide +kernel
theorem dX2_reviveFrom_64 : decode cX2_reviveFrom 64 = .ok (.aload_n 0, 1) := by decide +kernel
theorem dX2_reviveFrom_65 : decode cX2_reviveFrom 65 = .ok (.getfield 10, 3) := by decide +kernel
theorem dX2_reviveFrom_68 : decode cX2_reviveFrom 68 = .ok (.iload_n 1, 1) := by decide +kernel
theorem dX2_reviveFrom_69 : decode cX2_reviveFrom 69 = .ok (.iload_n 3, 1) := by decide +kernel
theorem dX2_reviveFrom_70 : decode cX2_reviveFrom 70 = .ok (.iadd, 1) := by decide +kernel
theorem dX2_reviveFrom_71 : decode cX2_reviveFrom 71 = .ok (.iconst 0, 1) := by decide +kernel
theorem dX2_reviveFrom_72 : decode cX2_reviveFrom 72 = .ok (.invokevirtual 60, 3) := by decide +kernel
theorem dX2_reviveFrom_75 : decode cX2_reviveFrom 75 = .ok (.aload_n 0, 1) := by decide +kernel
theorem dX2_reviveFrom_76 : decode cX2_reviveFrom 76 = .ok (.dup, 1) := by decide +kernel
theorem dX2_reviveFrom_77 : decode cX2_reviveFrom 77 = .ok (.getfield 31, 3) := by decide +kernel
theorem dX2_reviveFrom_80 : decode cX2_reviveFrom 80 = .ok (.iconst 1, 1) := by decide +kernel
theorem dX2_reviveFrom_81 : decode cX2_reviveFrom 81 = .ok (.iadd, 1) := by decide +kernel
theorem dX2_reviveFrom_82 : decode cX2_reviveFrom 82 = .ok (.putfield 31, 3) := by decide +kernel
theorem dX2_reviveFrom_85 : decode cX2_reviveFrom 85 = .ok (.iinc 3 1, 3) := by decide +kernel
theorem dX2_reviveFrom_88 : decode cX2_reviveFrom 88 = .ok (.goto (-86), 3) := by decide +kernel
theorem dX2_reviveFrom_91 : decode cX2_reviveFrom 91 = .ok (.return_, 1) := by decide +kernel
set_option maxRecDepth 20000 in
theorem ggX2_canRevive_X2_sizeOf : GoodIn wsX2_canRevive wsX2_sizeOf := goodIn_r _ [7, 1, 8, 9, 10, 11, 12, 13, 14, 6, 15, 16, 17, 18, 75, 76, 77, 78, 79, 80, 81, 82, 83, 84, 85, 86] (by decide +kernel) (by decide +kernel)
set_option maxRecDepth 20000 in
theorem gX2_canRevive_X2_sizeOf : GoodIn wsX2_canRevive (wsV RX2 126 RX2 yX2_sizeOf wsX2_sizeOf) := goodIn_app (goodIn_of _ (by decide +kernel)) ggX2_canRevive_X2_sizeOf
set_option maxRecDepth 20000 in
theorem ggX2_canRevive_X2_refsOf : GoodIn wsX2_canRevive wsX2_refsOf := goodIn_r _ [22, 1, 8, 9, 10, 11, 12, 13, 14, 6, 15, 23, 24, 25, 75, 76, 77, 78, 79, 80, 81, 82, 83, 84, 85, 86] (by decide +kernel) (by decide +kernel)
set_option maxRecDepth 20000 in
theorem gX2_canRevive_X2_refsOf : GoodIn wsX2_canRevive (wsV RX2 83 RX2 yX2_refsOf wsX2_refsOf) := goodIn_app (goodIn_of _ (by decide +kernel)) ggX2_canRevive_X2_refsOf
set_option maxRecDepth 20000 in
theorem ggX2_canRevive_X2_isShape : GoodIn wsX2_canRevive wsX2_isShape := goodIn_r _ [28] (by decide +kernel) (by decide +kernel)
set_option maxRecDepth 20000 in
theorem gX2_canRevive_X2_isShape : GoodIn wsX2_canRevive (va_wsS RX2 40 yX2_isShape wsX2_isShape) := goodIn_app (goodIn_of _ (by decide +kernel)) ggX2_canRevive_X2_isShape
set_option maxRecDepth 20000 in
theorem ggX2_canRevive_X1_at : GoodIn wsX2_canRevive wsX1_at := goodIn_r _ [12, 13, 14, 6, 15, 82, 83, 84, 85, 86] (by decide +kernel) (by decide +kernel)
set_option maxRecDepth 20000 in
theorem gX2_canRevive_X1_at : GoodIn wsX2_canRevive (wsV RX2 92 RX1 yX1_at wsX1_at) := goodIn_app (goodIn_of _ (by decide +kernel)) ggX2_canRevive_X1_at
set_option maxRecDepth 20000 in
theorem ggX2_canRevive_X2_headOf : GoodIn wsX2_canRevive wsX2_headOf := goodIn_r _ [31, 32, 33, 34, 35, 36] (by decide +kernel) (by decide +kernel)
set_option maxRecDepth 20000 in
theorem gX2_canRevive_X2_headOf : GoodIn wsX2_canRevive (va_wsS RX2 56 yX2_headOf wsX2_headOf) := goodIn_app (goodIn_of _ (by decide +kernel)) ggX2_canRevive_X2_headOf
set_option maxRecDepth 20000 in
theorem ggX2_canRevive_X0_canHold : GoodIn wsX2_canRevive wsX0_canHold := goodIn_r _ [41, 42, 43, 40, 44, 45, 6, 46, 47, 48, 49, 50, 51, 52, 53, 54, 55, 56, 57, 58, 59, 60, 61, 62, 63, 64, 65, 66, 67, 68, 69, 70, 71, 72, 73, 74, 87, 88, 89, 90] (by decide +kernel) (by decide +kernel)
set_option maxRecDepth 20000 in
theorem gX2_canRevive_X0_canHold : GoodIn wsX2_canRevive (wsV RX2 222 RX0 yX0_canHold wsX0_canHold) := goodIn_app (goodIn_of _ (by decide +kernel)) ggX2_canRevive_X0_canHold
theorem dX2_canRevive_0 : decode cX2_canRevive 0 = .ok (.iload_n 1, 1) := by decide +kernel
theorem dX2_canRevive_1 : decode cX2_canRevive 1 = .ok (.bipush 16, 2) := by decide +kernel
theorem dX2_canRevive_3 : decode cX2_canRevive 3 = .ok (.if_icmp .lt 10, 3) := by decide +kernel
theorem dX2_canRevive_6 : decode cX2_canRevive 6 = .ok (.iload_n 1, 1) := by decide +kernel
theorem dX2_canRevive_7 : decode cX2_canRevive 7 = .ok (.sipush 4096, 3) := by decide +kernel
theorem dX2_canRevive_10 : decode cX2_canRevive 10 = .ok (.if_icmp .lt 5, 3) := by decide +kernel
theorem dX2_canRevive_13 : decode cX2_canRevive 13 = .ok (.iconst 0, 1) := by decide +kernel
theorem dX2_canRevive_14 : decode cX2_canRevive 14 = .ok (.ireturn, 1) := by decide +kernel
theorem dX2_canRevive_15 : decode cX2_canRevive 15 = .ok (.aload_n 0, 1) := by decide +kernel
theorem dX2_canRevive_16 : decode cX2_canRevive 16 = .ok (.iload_n 1, 1) := by decide +kernel
theorem dX2_canRevive_17 : decode cX2_canRevive 17 = .ok (.invokevirtual 126, 3) := by decide +kernel
theorem dX2_canRevive_20 : decode cX2_canRevive 20 = .ok (.istore_n 2, 1) := by decide +kernel
theorem dX2_canRevive_21 : decode cX2_canRevive 21 = .ok (.aload_n 0, 1) := by decide +kernel
theorem dX2_canRevive_22 : decode cX2_canRevive 22 = .ok (.iload_n 1, 1) := by decide +kernel
theorem dX2_canRevive_23 : decode cX2_canRevive 23 = .ok (.invokevirtual 83, 3) := by decide +kernel
theorem dX2_canRevive_26 : decode cX2_canRevive 26 = .ok (.istore_n 3, 1) := by decide +kernel
theorem dX2_canRevive_27 : decode cX2_canRevive 27 = .ok (.iload_n 2, 1) := by decide +kernel
theorem dX2_canRevive_28 : decode cX2_canRevive 28 = .ok (.iload_n 3, 1) := by decide +kernel
theorem dX2_canRevive_29 : decode cX2_canRevive 29 = .ok (.invokestatic 40, 3) := by decide +kernel
theorem dX2_canRevive_32 : decode cX2_canRevive 32 = .ok (.ifCond .eq 36, 3) := by decide +kernel
theorem dX2_canRevive_35 : decode cX2_canRevive 35 = .ok (.aload_n 0, 1) := by decide +kernel
theorem dX2_canRevive_36 : decode cX2_canRevive 36 = .ok (.getfield 10, 3) := by decide +kernel
theorem dX2_canRevive_39 : decode cX2_canRevive 39 = .ok (.iload_n 1, 1) := by decide +kernel
theorem dX2_canRevive_40 : decode cX2_canRevive 40 = .ok (.invokevirtual 92, 3) := by decide +kernel
theorem dX2_canRevive_43 : decode cX2_canRevive 43 = .ok (.iload_n 1, 1) := by decide +kernel
theorem dX2_canRevive_44 : decode cX2_canRevive 44 = .ok (.iload_n 2, 1) := by decide +kernel
theorem dX2_canRevive_45 : decode cX2_canRevive 45 = .ok (.iload_n 3, 1) := by decide +kernel
theorem dX2_canRevive_46 : decode cX2_canRevive 46 = .ok (.invokestatic 56, 3) := by decide +kernel
theorem dX2_canRevive_49 : decode cX2_canRevive 49 = .ok (.if_icmp .ne 19, 3) := by decide +kernel
theorem dX2_canRevive_52 : decode cX2_canRevive 52 = .ok (.aload_n 0, 1) := by decide +kernel
theorem dX2_canRevive_53 : decode cX2_canRevive 53 = .ok (.getfield 19, 3) := by decide +kernel
theorem dX2_canRevive_56 : decode cX2_canRevive 56 = .ok (.iload_n 1, 1) := by decide +kernel
theorem dX2_canRevive_57 : decode cX2_canRevive 57 = .ok (.iload_n 2, 1) := by decide +kernel
theorem dX2_canRevive_58 : decode cX2_canRevive 58 = .ok (.invokevirtual 222, 3) := by decide +kernel
theorem dX2_canRevive_61 : decode cX2_canRevive 61 = .ok (.ifCond .eq 7, 3) := by decide +kernel
theorem dX2_canRevive_64 : decode cX2_canRevive 64 = .ok (.iconst 1, 1) := by decide +kernel
theorem dX2_canRevive_65 : decode cX2_canRevive 65 = .ok (.goto 4, 3) := by decide +kernel
theorem dX2_canRevive_68 : decode cX2_canRevive 68 = .ok (.iconst 0, 1) := by decide +kernel
theorem dX2_canRevive_69 : decode cX2_canRevive 69 = .ok (.ireturn, 1) := by decide +kernel
theorem dJ6_bitCount_0f7a4_0 : decode cJ6_bitCount_0f7a4 0 = .ok (.iload_n 0, 1) := by decide +kernel
theorem dJ6_bitCount_0f7a4_1 : decode cJ6_bitCount_0f7a4 1 = .ok (.iload_n 0, 1) := by decide +kernel
theorem dJ6_bitCount_0f7a4_2 : decode cJ6_bitCount_0f7a4 2 = .ok (.iconst 1, 1) := by decide +kernel
theorem dJ6_bitCount_0f7a4_3 : decode cJ6_bitCount_0f7a4 3 = .ok (.iushr, 1) := by decide +kernel
theorem dJ6_bitCount_0f7a4_4 : decode cJ6_bitCount_0f7a4 4 = .ok (.ldc_w 265, 3) := by decide +kernel
theorem dJ6_bitCount_0f7a4_7 : decode cJ6_bitCount_0f7a4 7 = .ok (.iand, 1) := by decide +kernel
theorem dJ6_bitCount_0f7a4_8 : decode cJ6_bitCount_0f7a4 8 = .ok (.isub, 1) := by decide +kernel
theorem dJ6_bitCount_0f7a4_9 : decode cJ6_bitCount_0f7a4 9 = .ok (.istore_n 0, 1) := by decide +kernel
theorem dJ6_bitCount_0f7a4_10 : decode cJ6_bitCount_0f7a4 10 = .ok (.iload_n 0, 1) := by decide +kernel
theorem dJ6_bitCount_0f7a4_11 : decode cJ6_bitCount_0f7a4 11 = .ok (.ldc_w 266, 3) := by decide +kernel
theorem dJ6_bitCount_0f7a4_14 : decode cJ6_bitCount_0f7a4 14 = .ok (.iand, 1) := by decide +kernel
theorem dJ6_bitCount_0f7a4_15 : decode cJ6_bitCount_0f7a4 15 = .ok (.iload_n 0, 1) := by decide +kernel
theorem dJ6_bitCount_0f7a4_16 : decode cJ6_bitCount_0f7a4 16 = .ok (.iconst 2, 1) := by decide +kernel
theorem dJ6_bitCount_0f7a4_17 : decode cJ6_bitCount_0f7a4 17 = .ok (.iushr, 1) := by decide +kernel
theorem dJ6_bitCount_0f7a4_18 : decode cJ6_bitCount_0f7a4 18 = .ok (.ldc_w 266, 3) := by decide +kernel
theorem dJ6_bitCount_0f7a4_21 : decode cJ6_bitCount_0f7a4 21 = .ok (.iand, 1) := by decide +kernel
theorem dJ6_bitCount_0f7a4_22 : decode cJ6_bitCount_0f7a4 22 = .ok (.iadd, 1) := by decide +kernel
theorem dJ6_bitCount_0f7a4_23 : decode cJ6_bitCount_0f7a4 23 = .ok (.istore_n 0, 1) := by decide +kernel
theorem dJ6_bitCount_0f7a4_24 : decode cJ6_bitCount_0f7a4 24 = .ok (.iload_n 0, 1) := by decide +kernel
theorem dJ6_bitCount_0f7a4_25 : decode cJ6_bitCount_0f7a4 25 = .ok (.iload_n 0, 1) := by decide +kernel
theorem dJ6_bitCount_0f7a4_26 : decode cJ6_bitCount_0f7a4 26 = .ok (.iconst 4, 1) := by decide +kernel
theorem dJ6_bitCount_0f7a4_27 : decode cJ6_bitCount_0f7a4 27 = .ok (.iushr, 1) := by decide +kernel
theorem dJ6_bitCount_0f7a4_28 : decode cJ6_bitCount_0f7a4 28 = .ok (.iadd, 1) := by decide +kernel
theorem dJ6_bitCount_0f7a4_29 : decode cJ6_bitCount_0f7a4 29 = .ok (.ldc_w 267, 3) := by decide +kernel
theorem dJ6_bitCount_0f7a4_32 : decode cJ6_bitCount_0f7a4 32 = .ok (.iand, 1) := by decide +kernel
theorem dJ6_bitCount_0f7a4_33 : decode cJ6_bitCount_0f7a4 33 = .ok (.istore_n 0, 1) := by decide +kernel
theorem dJ6_bitCount_0f7a4_34 : decode cJ6_bitCount_0f7a4 34 = .ok (.iload_n 0, 1) := by decide +kernel
theorem dJ6_bitCount_0f7a4_35 : decode cJ6_bitCount_0f7a4 35 = .ok (.iload_n 0, 1) := by decide +kernel
theorem dJ6_bitCount_0f7a4_36 : decode cJ6_bitCount_0f7a4 36 = .ok (.bipush 8, 2) := by decide +kernel
theorem dJ6_bitCount_0f7a4_38 : decode cJ6_bitCount_0f7a4 38 = .ok (.iushr, 1) := by decide +kernel
theorem dJ6_bitCount_0f7a4_39 : decode cJ6_bitCount_0f7a4 39 = .ok (.iadd, 1) := by decide +kernel
theorem dJ6_bitCount_0f7a4_40 : decode cJ6_bitCount_0f7a4 40 = .ok (.istore_n 0, 1) := by decide +kernel
theorem dJ6_bitCount_0f7a4_41 : decode cJ6_bitCount_0f7a4 41 = .ok (.iload_n 0, 1) := by decide +kernel
theorem dJ6_bitCount_0f7a4_42 : decode cJ6_bitCount_0f7a4 42 = .ok (.iload_n 0, 1) := by decide +kernel
theorem dJ6_bitCount_0f7a4_43 : decode cJ6_bitCount_0f7a4 43 = .ok (.bipush 16, 2) := by decide +kernel
theorem dJ6_bitCount_0f7a4_45 : decode cJ6_bitCount_0f7a4 45 = .ok (.iushr, 1) := by decide +kernel
theorem dJ6_bitCount_0f7a4_46 : decode cJ6_bitCount_0f7a4 46 = .ok (.iadd, 1) := by decide +kernel
theorem dJ6_bitCount_0f7a4_47 : decode cJ6_bitCount_0f7a4 47 = .ok (.istore_n 0, 1) := by decide +kernel
theorem dJ6_bitCount_0f7a4_48 : decode cJ6_bitCount_0f7a4 48 = .ok (.iload_n 0, 1) := by decide +kernel
theorem dJ6_bitCount_0f7a4_49 : decode cJ6_bitCount_0f7a4 49 = .ok (.bipush 63, 2) := by decide +kernel
theorem dJ6_bitCount_0f7a4_51 : decode cJ6_bitCount_0f7a4 51 = .ok (.iand, 1) := by decide +kernel
theorem dJ6_bitCount_0f7a4_52 : decode cJ6_bitCount_0f7a4 52 = .ok (.ireturn, 1) := by decide +kernel
theorem dJ9_floorMod_7cf53_0 : decode cJ9_floorMod_7cf53 0 = .ok (.iload_n 0, 1) := by decide +kernel
theorem dJ9_floorMod_7cf53_1 : decode cJ9_floorMod_7cf53 1 = .ok (.iload_n 1, 1) := by decide +kernel
theorem dJ9_floorMod_7cf53_2 : decode cJ9_floorMod_7cf53 2 = .ok (.irem, 1) := by decide +kernel
theorem dJ9_floorMod_7cf53_3 : decode cJ9_floorMod_7cf53 3 = .ok (.istore_n 2, 1) := by decide +kernel
theorem dJ9_floorMod_7cf53_4 : decode cJ9_floorMod_7cf53 4 = .ok (.iload_n 0, 1) := by decide +kernel
theorem dJ9_floorMod_7cf53_5 : decode cJ9_floorMod_7cf53 5 = .ok (.iload_n 1, 1) := by decide +kernel
theorem dJ9_floorMod_7cf53_6 : decode cJ9_floorMod_7cf53 6 = .ok (.ixor, 1) := by decide +kernel
theorem dJ9_floorMod_7cf53_7 : decode cJ9_floorMod_7cf53 7 = .ok (.ifCond .ge 11, 3) := by decide +kernel
theorem dJ9_floorMod_7cf53_10 : decode cJ9_floorMod_7cf53 10 = .ok (.iload_n 2, 1) := by decide +kernel
theorem dJ9_floorMod_7cf53_11 : decode cJ9_floorMod_7cf53 11 = .ok (.ifCond .eq 7, 3) := by decide +kernel
theorem dJ9_floorMod_7cf53_14 : decode cJ9_floorMod_7cf53 14 = .ok (.iload_n 2, 1) := by decide +kernel
theorem dJ9_floorMod_7cf53_15 : decode cJ9_floorMod_7cf53 15 = .ok (.iload_n 1, 1) := by decide +kernel
theorem dJ9_floorMod_7cf53_16 : decode cJ9_floorMod_7cf53 16 = .ok (.iadd, 1) := by decide +kernel
theorem dJ9_floorMod_7cf53_17 : decode cJ9_floorMod_7cf53 17 = .ok (.ireturn, 1) := by decide +kernel
theorem dJ9_floorMod_7cf53_18 : decode cJ9_floorMod_7cf53 18 = .ok (.iload_n 2, 1) := by decide +kernel
theorem dJ9_floorMod_7cf53_19 : decode cJ9_floorMod_7cf53 19 = .ok (.ireturn, 1) := by decide +kernel
theorem dJ7_fill_53178_0 : decode cJ7_fill_53178 0 = .ok (.iconst 0, 1) := by decide +kernel
theorem dJ7_fill_53178_1 : decode cJ7_fill_53178 1 = .ok (.istore_n 2, 1) := by decide +kernel
theorem dJ7_fill_53178_2 : decode cJ7_fill_53178 2 = .ok (.aload_n 0, 1) := by decide +kernel
theorem dJ7_fill_53178_3 : decode cJ7_fill_53178 3 = .ok (.arraylength, 1) := by decide +kernel
theorem dJ7_fill_53178_4 : decode cJ7_fill_53178 4 = .ok (.istore_n 3, 1) := by decide +kernel
theorem dJ7_fill_53178_5 : decode cJ7_fill_53178 5 = .ok (.iload_n 2, 1) := by decide +kernel
theorem dJ7_fill_53178_6 : decode cJ7_fill_53178 6 = .ok (.iload_n 3, 1) := by decide +kernel
theorem dJ7_fill_53178_7 : decode cJ7_fill_53178 7 = .ok (.if_icmp .ge 13, 3) := by decide +kernel
theorem dJ7_fill_53178_10 : decode cJ7_fill_53178 10 = .ok (.aload_n 0, 1) := by decide +kernel
theorem dJ7_fill_53178_11 : decode cJ7_fill_53178 11 = .ok (.iload_n 2, 1) := by decide +kernel
theorem dJ7_fill_53178_12 : decode cJ7_fill_53178 12 = .ok (.iload_n 1, 1) := by decide +kernel
theorem dJ7_fill_53178_13 : decode cJ7_fill_53178 13 = .ok (.iastore, 1) := by decide +kernel
theorem dJ7_fill_53178_14 : decode cJ7_fill_53178 14 = .ok (.iinc 2 1, 3) := by decide +kernel
theorem dJ7_fill_53178_17 : decode cJ7_fill_53178 17 = .ok (.goto (-12), 3) := by decide +kernel
theorem dJ7_fill_53178_20 : decode cJ7_fill_53178 20 = .ok (.return_, 1) := by decide +kernel
end
section
theorem dX3_init_0 : decode cX3_init 0 = .ok (.aload_n 0, 1) := by decide +kernel
theorem dX3_init_1 : decode cX3_init 1 = .ok (.invokespecial 1, 3) := by decide +kernel
theorem dX3_init_4 : decode cX3_init 4 = .ok (.aload_n 0, 1) := by decide +kernel
theorem dX3_init_5 : decode cX3_init 5 = .ok (.sipush 4096, 3) := by decide +kernel
theorem dX3_init_8 : decode cX3_init 8 = .ok (.newarray .int, 2) := by decide +kernel
theorem dX3_init_10 : decode cX3_init 10 = .ok (.putfield 7, 3) := by decide +kernel
theorem dX3_init_13 : decode cX3_init 13 = .ok (.aload_n 0, 1) := by decide +kernel
theorem dX3_init_14 : decode cX3_init 14 = .ok (.sipush 4096, 3) := by decide +kernel
theorem dX3_init_17 : decode cX3_init 17 = .ok (.newarray .int, 2) := by decide +kernel
theorem dX3_init_19 : decode cX3_init 19 = .ok (.putfield 13, 3) := by decide +kernel
theorem dX3_init_22 : decode cX3_init 22 = .ok (.aload_n 0, 1) := by decide +kernel
theorem dX3_init_23 : decode cX3_init 23 = .ok (.sipush 4096, 3) := by decide +kernel
theorem dX3_init_26 : decode cX3_init 26 = .ok (.newarray .boolean, 2) := by decide +kernel
theorem dX3_init_28 : decode cX3_init 28 = .ok (.putfield 16, 3) := by decide +kernel
theorem dX3_init_31 : decode cX3_init 31 = .ok (.aload_n 0, 1) := by decide +kernel
theorem dX3_init_32 : decode cX3_init 32 = .ok (.sipush 512, 3) := by decide +kernel
theorem dX3_init_35 : decode cX3_init 35 = .ok (.newarray .boolean, 2) := by decide +kernel
theorem dX3_init_37 : decode cX3_init 37 = .ok (.putfield 20, 3) := by decide +kernel
theorem dX3_init_40 : decode cX3_init 40 = .ok (.aload_n 0, 1) := by decide +kernel
theorem dX3_init_41 : decode cX3_init 41 = .ok (.sipush 512, 3) := by decide +kernel
theorem dX3_init_44 : decode cX3_init 44 = .ok (.newarray .int, 2) := by decide +kernel
theorem dX3_init_46 : decode cX3_init 46 = .ok (.putfield 23, 3) := by decide +kernel
theorem dX3_init_49 : decode cX3_init 49 = .ok (.aload_n 0, 1) := by decide +kernel
theorem dX3_init_50 : decode cX3_init 50 = .ok (.sipush 256, 3) := by decide +kernel
theorem dX3_init_53 : decode cX3_init 53 = .ok (.newarray .int, 2) := by decide +kernel
theorem dX3_init_55 : decode cX3_init 55 = .ok (.putfield 26, 3) := by decide +kernel
theorem dX3_init_58 : decode cX3_init 58 = .ok (.aload_n 0, 1) := by decide +kernel
theorem dX3_init_59 : decode cX3_init 59 = .ok (.sipush 256, 3) := by decide +kernel
theorem dX3_init_62 : decode cX3_init 62 = .ok (.newarray .int, 2) := by decide +kernel
theorem dX3_init_64 : decode cX3_init 64 = .ok (.putfield 29, 3) := by decide +kernel
theorem dX3_init_67 : decode cX3_init 67 = .ok (.aload_n 0, 1) := by decide +kernel
theorem dX3_init_68 : decode cX3_init 68 = .ok (.sipush 256, 3) := by decide +kernel
theorem dX3_init_71 : decode cX3_init 71 = .ok (.newarray .int, 2) := by decide +kernel
theorem dX3_init_73 : decode cX3_init 73 = .ok (.putfield 32, 3) := by decide +kernel
theorem dX3_init_76 : decode cX3_init 76 = .ok (.aload_n 0, 1) := by decide +kernel
theorem dX3_init_77 : decode cX3_init 77 = .ok (.sipush 256, 3) := by decide +kernel
theorem dX3_init_80 : decode cX3_init 80 = .ok (.newarray .int, 2) := by decide +kernel
theorem dX3_init_82 : decode cX3_init 82 = .ok (.putfield 35, 3) := by decide +kernel
theorem dX3_init_85 : decode cX3_init 85 = .ok (.aload_n 0, 1) := by decide +kernel
theorem dX3_init_86 : decode cX3_init 86 = .ok (.sipush 256, 3) := by decide +kernel
theorem dX3_init_89 : decode cX3_init 89 = .ok (.newarray .int, 2) := by decide +kernel
theorem dX3_init_91 : decode cX3_init 91 = .ok (.putfield 38, 3) := by decide +kernel
theorem dX3_init_94 : decode cX3_init 94 = .ok (.aload_n 0, 1) := by decide +kernel
theorem dX3_init_95 : decode cX3_init 95 = .ok (.sipush 2048, 3) := by decide +kernel
theorem dX3_init_98 : decode cX3_init 98 = .ok (.newarray .int, 2) := by decide +kernel
theorem dX3_init_100 : decode cX3_init 100 = .ok (.putfield 41, 3) := by decide +kernel
theorem dX3_init_103 : decode cX3_init 103 = .ok (.aload_n 0, 1) := by decide +kernel
theorem dX3_init_104 : decode cX3_init 104 = .ok (.sipush 4096, 3) := by decide +kernel
theorem dX3_init_107 : decode cX3_init 107 = .ok (.newarray .boolean, 2) := by decide +kernel
theorem dX3_init_109 : decode cX3_init 109 = .ok (.putfield 44, 3) := by decide +kernel
theorem dX3_init_112 : decode cX3_init 112 = .ok (.return_, 1) := by decide +kernel
theorem dX3_no_0 : decode cX3_no 0 = .ok (.aload_n 0, 1) := by decide +kernel
theorem dX3_no_1 : decode cX3_no 1 = .ok (.iload_n 1, 1) := by decide +kernel
theorem dX3_no_2 : decode cX3_no 2 = .ok (.putfield 51, 3) := by decide +kernel
theorem dX3_no_5 : decode cX3_no 5 = .ok (.iconst (-1), 1) := by decide +kernel
theorem dX3_no_6 : decode cX3_no 6 = .ok (.ireturn, 1) := by decide +kernel
theorem dX3_not_0 : decode cX3_not 0 = .ok (.aload_n 0, 1) := by decide +kernel
theorem dX3_not_1 : decode cX3_not 1 = .ok (.iload_n 1, 1) := by decide +kernel
theorem dX3_not_2 : decode cX3_not 2 = .ok (.putfield 51, 3) := by decide +kernel
theorem dX3_not_5 : decode cX3_not 5 = .ok (.iconst 0, 1) := by decide +kernel
theorem dX3_not_6 : decode cX3_not 6 = .ok (.ireturn, 1) := by decide +kernel
theorem dX3_is_0 : decode cX3_is 0 = .ok (.iload_n 1, 1) := by decide +kernel
theorem dX3_is_1 : decode cX3_is 1 = .ok (.iload_n 2, 1) := by decide +kernel
theorem dX3_is_2 : decode cX3_is 2 = .ok (.if_icmp .lt 12, 3) := by decide +kernel
theorem dX3_is_5 : decode cX3_is 5 = .ok (.iload_n 1, 1) := by decide +kernel
theorem dX3_is_6 : decode cX3_is 6 = .ok (.iload_n 3, 1) := by decide +kernel
theorem dX3_is_7 : decode cX3_is 7 = .ok (.if_icmp .gt 7, 3) := by decide +kernel
theorem dX3_is_10 : decode cX3_is 10 = .ok (.iconst 1, 1) := by decide +kernel
theorem dX3_is_11 : decode cX3_is 11 = .ok (.goto 4, 3) := by decide +kernel
theorem dX3_is_14 : decode cX3_is 14 = .ok (.iconst 0, 1) := by decide +kernel
theorem dX3_is_15 : decode cX3_is 15 = .ok (.ireturn, 1) := by decide +kernel
theorem dX3_write_0 : decode cX3_write 0 = .ok (.aload_n 0, 1) := by decide +kernel
theorem dX3_write_1 : decode cX3_write 1 = .ok (.getfield 7, 3) := by decide +kernel
theorem dX3_write_4 : decode cX3_write 4 = .ok (.iload_n 1, 1) := by decide +kernel
theorem dX3_write_5 : decode cX3_write 5 = .ok (.iload_n 2, 1) := by decide +kernel
theorem dX3_write_6 : decode cX3_write 6 = .ok (.iastore, 1) := by decide +kernel
theorem dX3_write_7 : decode cX3_write 7 = .ok (.iload_n 1, 1) := by decide +kernel
theorem dX3_write_8 : decode cX3_write 8 = .ok (.bipush 8, 2) := by decide +kernel
theorem dX3_write_10 : decode cX3_write 10 = .ok (.idiv, 1) := by decide +kernel
theorem dX3_write_11 : decode cX3_write 11 = .ok (.istore_n 3, 1) := by decide +kernel
theorem dX3_write_12 : decode cX3_write 12 = .ok (.aload_n 0, 1) := by decide +kernel
theorem dX3_write_13 : decode cX3_write 13 = .ok (.getfield 20, 3) := by decide +kernel
theorem dX3_write_16 : decode cX3_write 16 = .ok (.iload_n 3, 1) := by decide +kernel
theorem dX3_write_17 : decode cX3_write 17 = .ok (.baload, 1) := by decide +kernel
theorem dX3_write_18 : decode cX3_write 18 = .ok (.ifCond .eq 4, 3) := by decide +kernel
theorem dX3_write_21 : decode cX3_write 21 = .ok (.return_, 1) := by decide +kernel
theorem dX3_write_22 : decode cX3_write 22 = .ok (.aload_n 0, 1) := by decide +kernel
theorem dX3_write_23 : decode cX3_write 23 = .ok (.getfield 20, 3) := by decide +kernel
theorem dX3_write_26 : decode cX3_write 26 = .ok (.iload_n 3, 1) := by decide +kernel
theorem dX3_write_27 : decode cX3_write 27 = .ok (.iconst 1, 1) := by decide +kernel
theorem dX3_write_28 : decode cX3_write 28 = .ok (.bastore, 1) := by decide +kernel
theorem dX3_write_29 : decode cX3_write 29 = .ok (.aload_n 0, 1) := by decide +kernel
theorem dX3_write_30 : decode cX3_write 30 = .ok (.getfield 23, 3) := by decide +kernel
theorem dX3_write_33 : decode cX3_write 33 = .ok (.aload_n 0, 1) := by decide +kernel
theorem dX3_write_34 : decode cX3_write 34 = .ok (.getfield 54, 3) := by decide +kernel
theorem dX3_write_37 : decode cX3_write 37 = .ok (.iload_n 3, 1) := by decide +kernel
theorem dX3_write_38 : decode cX3_write 38 = .ok (.iastore, 1) := by decide +kernel
theorem dX3_write_39 : decode cX3_write 39 = .ok (.aload_n 0, 1) := by decide +kernel
theorem dX3_write_40 : decode cX3_write 40 = .ok (.dup, 1) := by decide +kernel
theorem dX3_write_41 : decode cX3_write 41 = .ok (.getfield 54, 3) := by decide +kernel
theorem dX3_write_44 : decode cX3_write 44 = .ok (.iconst 1, 1) := by decide +kernel
theorem dX3_write_45 : decode cX3_write 45 = .ok (.iadd, 1) := by decide +kernel
theorem dX3_write_46 : decode cX3_write 46 = .ok (.putfield 54, 3) := by decide +kernel
theorem dX3_write_49 : decode cX3_write 49 = .ok (.return_, 1) := by decide +kernel
theorem dX3_headOf_0 : decode cX3_headOf 0 = .ok (.bipush 31, 2) := by decide +kernel
theorem dX3_headOf_2 : decode cX3_headOf 2 = .ok (.iload_n 1, 1) := by decide +kernel
theorem dX3_headOf_3 : decode cX3_headOf 3 = .ok (.imul, 1) := by decide +kernel
theorem dX3_headOf_4 : decode cX3_headOf 4 = .ok (.bipush 7, 2) := by decide +kernel
theorem dX3_headOf_6 : decode cX3_headOf 6 = .ok (.iload_n 2, 1) := by decide +kernel
theorem dX3_headOf_7 : decode cX3_headOf 7 = .ok (.imul, 1) := by decide +kernel
theorem dX3_headOf_8 : decode cX3_headOf 8 = .ok (.iadd, 1) := by decide +kernel
theorem dX3_headOf_9 : decode cX3_headOf 9 = .ok (.bipush 13, 2) := by decide +kernel
theorem dX3_headOf_11 : decode cX3_headOf 11 = .ok (.iload_n 3, 1) := by decide +kernel
theorem dX3_headOf_12 : decode cX3_headOf 12 = .ok (.imul, 1) := by decide +kernel
theorem dX3_headOf_13 : decode cX3_headOf 13 = .ok (.iadd, 1) := by decide +kernel
theorem dX3_headOf_14 : decode cX3_headOf 14 = .ok (.bipush 90, 2) := by decide +kernel
theorem dX3_headOf_16 : decode cX3_headOf 16 = .ok (.iadd, 1) := by decide +kernel
theorem dX3_headOf_17 : decode cX3_headOf 17 = .ok (.sipush 512, 3) := by decide +kernel
theorem dX3_headOf_20 : decode cX3_headOf 20 = .ok (.irem, 1) := by decide +kernel
theorem dX3_headOf_21 : decode cX3_headOf 21 = .ok (.iconst 1, 1) := by decide +kernel
theorem dX3_headOf_22 : decode cX3_headOf 22 = .ok (.iadd, 1) := by decide +kernel
theorem dX3_headOf_23 : decode cX3_headOf 23 = .ok (.istore 4, 2) := by decide +kernel
theorem dX3_headOf_25 : decode cX3_headOf 25 = .ok (.iload 4, 2) := by decide +kernel
theorem dX3_headOf_27 : decode cX3_headOf 27 = .ok (.ldc 57, 2) := by decide +kernel
theorem dX3_headOf_29 : decode cX3_headOf 29 = .ok (.imul, 1) := by decide +kernel
theorem dX3_headOf_30 : decode cX3_headOf 30 = .ok (.iload_n 2, 1) := by decide +kernel
theorem dX3_headOf_31 : decode cX3_headOf 31 = .ok (.sipush 2048, 3) := by decide +kernel
theorem dX3_headOf_34 : decode cX3_headOf 34 = .ok (.imul, 1) := by decide +kernel
theorem dX3_headOf_35 : decode cX3_headOf 35 = .ok (.iadd, 1) := by decide +kernel
theorem dX3_headOf_36 : decode cX3_headOf 36 = .ok (.iload_n 3, 1) := by decide +kernel
theorem dX3_headOf_37 : decode cX3_headOf 37 = .ok (.iadd, 1) := by decide +kernel
theorem dX3_headOf_38 : decode cX3_headOf 38 = .ok (.ireturn, 1) := by decide +kernel
theorem dX3_sizeAt_0 : decode cX3_sizeAt 0 = .ok (.aload_n 0, 1) := by decide +kernel
theorem dX3_sizeAt_1 : decode cX3_sizeAt 1 = .ok (.getfield 7, 3) := by decide +kernel
theorem dX3_sizeAt_4 : decode cX3_sizeAt 4 = .ok (.iload_n 1, 1) := by decide +kernel
theorem dX3_sizeAt_5 : decode cX3_sizeAt 5 = .ok (.iaload, 1) := by decide +kernel
theorem dX3_sizeAt_6 : decode cX3_sizeAt 6 = .ok (.bipush 11, 2) := by decide +kernel
theorem dX3_sizeAt_8 : decode cX3_sizeAt 8 = .ok (.ishr, 1) := by decide +kernel
theorem dX3_sizeAt_9 : decode cX3_sizeAt 9 = .ok (.sipush 2047, 3) := by decide +kernel
theorem dX3_sizeAt_12 : decode cX3_sizeAt 12 = .ok (.iand, 1) := by decide +kernel
theorem dX3_sizeAt_13 : decode cX3_sizeAt 13 = .ok (.ireturn, 1) := by decide +kernel
theorem dX3_refsAt_0 : decode cX3_refsAt 0 = .ok (.aload_n 0, 1) := by decide +kernel
theorem dX3_refsAt_1 : decode cX3_refsAt 1 = .ok (.getfield 7, 3) := by decide +kernel
theorem dX3_refsAt_4 : decode cX3_refsAt 4 = .ok (.iload_n 1, 1) := by decide +kernel
theorem dX3_refsAt_5 : decode cX3_refsAt 5 = .ok (.iaload, 1) := by decide +kernel
theorem dX3_refsAt_6 : decode cX3_refsAt 6 = .ok (.sipush 2047, 3) := by decide +kernel
theorem dX3_refsAt_9 : decode cX3_refsAt 9 = .ok (.iand, 1) := by decide +kernel
theorem dX3_refsAt_10 : decode cX3_refsAt 10 = .ok (.ireturn, 1) := by decide +kernel
set_option maxRecDepth 20000 in
theorem ggX3_isHead_X3_sizeAt : GoodIn wsX3_isHead wsX3_sizeAt := goodIn_r _ [6, 1, 16, 17, 18, 19, 20, 21, 22, 23, 24, 25, 26, 27, 28, 29, 30, 31, 32, 33] (by decide +kernel) (by decide +kernel)
set_option maxRecDepth 20000 in
theorem gX3_isHead_X3_sizeAt : GoodIn wsX3_isHead (wsV RX3 58 RX3 yX3_sizeAt wsX3_sizeAt) := goodIn_app (goodIn_of _ (by decide +kernel)) ggX3_isHead_X3_sizeAt
set_option maxRecDepth 20000 in
theorem ggX3_isHead_X3_refsAt : GoodIn wsX3_isHead wsX3_refsAt := goodIn_r _ [10, 1, 16, 17, 18, 19, 20, 21, 22, 23, 24, 25, 26, 27, 28, 29, 30, 31, 32, 33] (by decide +kernel) (by decide +kernel)
set_option maxRecDepth 20000 in
theorem gX3_isHead_X3_refsAt : GoodIn wsX3_isHead (wsV RX3 62 RX3 yX3_refsAt wsX3_refsAt) := goodIn_app (goodIn_of _ (by decide +kernel)) ggX3_isHead_X3_refsAt
set_option maxRecDepth 20000 in
theorem ggX3_isHead_X3_headOf : GoodIn wsX3_isHead wsX3_headOf := goodIn_r _ [14, 15] (by decide +kernel) (by decide +kernel)
set_option maxRecDepth 20000 in
theorem gX3_isHead_X3_headOf : GoodIn wsX3_isHead (wsV RX3 65 RX3 yX3_headOf wsX3_headOf) := goodIn_app (goodIn_of _ (by decide +kernel)) ggX3_isHead_X3_headOf
theorem dX3_isHead_0 : decode cX3_isHead 0 = .ok (.aload_n 0, 1) := by decide +kernel
theorem dX3_isHead_1 : decode cX3_isHead 1 = .ok (.iload_n 1, 1) := by decide +kernel
theorem dX3_isHead_2 : decode cX3_isHead 2 = .ok (.invokevirtual 58, 3) := by decide +kernel
theorem dX3_isHead_5 : decode cX3_isHead 5 = .ok (.istore_n 2, 1) := by decide +kernel
theorem dX3_isHead_6 : decode cX3_isHead 6 = .ok (.aload_n 0, 1) := by decide +kernel
theorem dX3_isHead_7 : decode cX3_isHead 7 = .ok (.iload_n 1, 1) := by decide +kernel
theorem dX3_isHead_8 : decode cX3_isHead 8 = .ok (.invokevirtual 62, 3) := by decide +kernel
theorem dX3_isHead_11 : decode cX3_isHead 11 = .ok (.istore_n 3, 1) := by decide +kernel
theorem dX3_isHead_12 : decode cX3_isHead 12 = .ok (.iload_n 2, 1) := by decide +kernel
theorem dX3_isHead_13 : decode cX3_isHead 13 = .ok (.ifCond .le 28, 3) := by decide +kernel
theorem dX3_isHead_16 : decode cX3_isHead 16 = .ok (.iload_n 3, 1) := by decide +kernel
theorem dX3_isHead_17 : decode cX3_isHead 17 = .ok (.iload_n 2, 1) := by decide +kernel
theorem dX3_isHead_18 : decode cX3_isHead 18 = .ok (.if_icmp .gt 23, 3) := by decide +kernel
theorem dX3_isHead_21 : decode cX3_isHead 21 = .ok (.aload_n 0, 1) := by decide +kernel
theorem dX3_isHead_22 : decode cX3_isHead 22 = .ok (.getfield 7, 3) := by decide +kernel
theorem dX3_isHead_25 : decode cX3_isHead 25 = .ok (.iload_n 1, 1) := by decide +kernel
theorem dX3_isHead_26 : decode cX3_isHead 26 = .ok (.iaload, 1) := by decide +kernel
theorem dX3_isHead_27 : decode cX3_isHead 27 = .ok (.aload_n 0, 1) := by decide +kernel
theorem dX3_isHead_28 : decode cX3_isHead 28 = .ok (.iload_n 1, 1) := by decide +kernel
theorem dX3_isHead_29 : decode cX3_isHead 29 = .ok (.iload_n 2, 1) := by decide +kernel
theorem dX3_isHead_30 : decode cX3_isHead 30 = .ok (.iload_n 3, 1) := by decide +kernel
theorem dX3_isHead_31 : decode cX3_isHead 31 = .ok (.invokevirtual 65, 3) := by decide +kernel
theorem dX3_isHead_34 : decode cX3_isHead 34 = .ok (.if_icmp .ne 7, 3) := by decide +kernel
theorem dX3_isHead_37 : decode cX3_isHead 37 = .ok (.iconst 1, 1) := by decide +kernel
theorem dX3_isHead_38 : decode cX3_isHead 38 = .ok (.goto 4, 3) := by decide +kernel
theorem dX3_isHead_41 : decode cX3_isHead 41 = .ok (.iconst 0, 1) := by decide +kernel
theorem dX3_isHead_42 : decode cX3_isHead 42 = .ok (.ireturn, 1) := by decide +kernel
theorem dX3_classOf_0 : decode cX3_classOf 0 = .ok (.iload_n 1, 1) := by decide +kernel
theorem dX3_classOf_1 : decode cX3_classOf 1 = .ok (.bipush 8, 2) := by decide +kernel
theorem dX3_classOf_3 : decode cX3_classOf 3 = .ok (.if_icmp .le 7, 3) := by decide +kernel
theorem dX3_classOf_6 : decode cX3_classOf 6 = .ok (.iconst 0, 1) := by decide +kernel
theorem dX3_classOf_7 : decode cX3_classOf 7 = .ok (.goto 43, 3) := by decide +kernel
theorem dX3_classOf_10 : decode cX3_classOf 10 = .ok (.iload_n 1, 1) := by decide +kernel
theorem dX3_classOf_11 : decode cX3_classOf 11 = .ok (.iconst 2, 1) := by decide +kernel
theorem dX3_classOf_12 : decode cX3_classOf 12 = .ok (.if_icmp .gt 7, 3) := by decide +kernel
theorem dX3_classOf_15 : decode cX3_classOf 15 = .ok (.iconst 2, 1) := by decide +kernel
theorem dX3_classOf_16 : decode cX3_classOf 16 = .ok (.goto 34, 3) := by decide +kernel
theorem dX3_classOf_19 : decode cX3_classOf 19 = .ok (.iload_n 1, 1) := by decide +kernel
theorem dX3_classOf_20 : decode cX3_classOf 20 = .ok (.iconst 3, 1) := by decide +kernel
theorem dX3_classOf_21 : decode cX3_classOf 21 = .ok (.if_icmp .gt 7, 3) := by decide +kernel
theorem dX3_classOf_24 : decode cX3_classOf 24 = .ok (.iconst 3, 1) := by decide +kernel
theorem dX3_classOf_25 : decode cX3_classOf 25 = .ok (.goto 25, 3) := by decide +kernel
theorem dX3_classOf_28 : decode cX3_classOf 28 = .ok (.iload_n 1, 1) := by decide +kernel
theorem dX3_classOf_29 : decode cX3_classOf 29 = .ok (.iconst 4, 1) := by decide +kernel
theorem dX3_classOf_30 : decode cX3_classOf 30 = .ok (.if_icmp .gt 7, 3) := by decide +kernel
theorem dX3_classOf_33 : decode cX3_classOf 33 = .ok (.iconst 4, 1) := by decide +kernel
theorem dX3_classOf_34 : decode cX3_classOf 34 = .ok (.goto 16, 3) := by decide +kernel
theorem dX3_classOf_37 : decode cX3_classOf 37 = .ok (.iload_n 1, 1) := by decide +kernel
theorem dX3_classOf_38 : decode cX3_classOf 38 = .ok (.bipush 6, 2) := by decide +kernel
theorem dX3_classOf_40 : decode cX3_classOf 40 = .ok (.if_icmp .gt 8, 3) := by decide +kernel
theorem dX3_classOf_43 : decode cX3_classOf 43 = .ok (.bipush 6, 2) := by decide +kernel
theorem dX3_classOf_45 : decode cX3_classOf 45 = .ok (.goto 5, 3) := by decide +kernel
theorem dX3_classOf_48 : decode cX3_classOf 48 = .ok (.bipush 8, 2) := by decide +kernel
theorem dX3_classOf_50 : decode cX3_classOf 50 = .ok (.ireturn, 1) := by decide +kernel
theorem dX3_orderOf_0 : decode cX3_orderOf 0 = .ok (.iconst 0, 1) := by decide +kernel
theorem dX3_orderOf_1 : decode cX3_orderOf 1 = .ok (.istore_n 2, 1) := by decide +kernel
theorem dX3_orderOf_2 : decode cX3_orderOf 2 = .ok (.bipush 16, 2) := by decide +kernel
theorem dX3_orderOf_4 : decode cX3_orderOf 4 = .ok (.iload_n 2, 1) := by decide +kernel
theorem dX3_orderOf_5 : decode cX3_orderOf 5 = .ok (.ishl, 1) := by decide +kernel
theorem dX3_orderOf_6 : decode cX3_orderOf 6 = .ok (.iload_n 1, 1) := by decide +kernel
theorem dX3_orderOf_7 : decode cX3_orderOf 7 = .ok (.if_icmp .ge 9, 3) := by decide +kernel
theorem dX3_orderOf_10 : decode cX3_orderOf 10 = .ok (.iinc 2 1, 3) := by decide +kernel
theorem dX3_orderOf_13 : decode cX3_orderOf 13 = .ok (.goto (-11), 3) := by decide +kernel
theorem dX3_orderOf_16 : decode cX3_orderOf 16 = .ok (.iload_n 2, 1) := by decide +kernel
theorem dX3_orderOf_17 : decode cX3_orderOf 17 = .ok (.ireturn, 1) := by decide +kernel
set_option maxRecDepth 20000 in
theorem ggX3_isBlock_X3_is : GoodIn wsX3_isBlock wsX3_is := goodIn_r _ [6] (by decide +kernel) (by decide +kernel)
set_option maxRecDepth 20000 in
theorem gX3_isBlock_X3_is : GoodIn wsX3_isBlock (wsV RX3 69 RX3 yX3_is wsX3_is) := goodIn_app (goodIn_of _ (by decide +kernel)) ggX3_isBlock_X3_is
theorem dX3_isBlock_0 : decode cX3_isBlock 0 = .ok (.aload_n 0, 1) := by decide +kernel
theorem dX3_isBlock_1 : decode cX3_isBlock 1 = .ok (.iload_n 1, 1) := by decide +kernel
theorem dX3_isBlock_2 : decode cX3_isBlock 2 = .ok (.bipush 16, 2) := by decide +kernel
theorem dX3_isBlock_4 : decode cX3_isBlock 4 = .ok (.sipush 4095, 3) := by decide +kernel
theorem dX3_isBlock_7 : decode cX3_isBlock 7 = .ok (.invokevirtual 69, 3) := by decide +kernel
theorem dX3_isBlock_10 : decode cX3_isBlock 10 = .ok (.ifCond .eq 16, 3) := by decide +kernel
theorem dX3_isBlock_13 : decode cX3_isBlock 13 = .ok (.aload_n 0, 1) := by decide +kernel
theorem dX3_isBlock_14 : decode cX3_isBlock 14 = .ok (.getfield 16, 3) := by decide +kernel
theorem dX3_isBlock_17 : decode cX3_isBlock 17 = .ok (.iload_n 1, 1) := by decide +kernel
theorem dX3_isBlock_18 : decode cX3_isBlock 18 = .ok (.baload, 1) := by decide +kernel
theorem dX3_isBlock_19 : decode cX3_isBlock 19 = .ok (.ifCond .eq 7, 3) := by decide +kernel
theorem dX3_isBlock_22 : decode cX3_isBlock 22 = .ok (.iconst 1, 1) := by decide +kernel
theorem dX3_isBlock_23 : decode cX3_isBlock 23 = .ok (.goto 4, 3) := by decide +kernel
theorem dX3_isBlock_26 : decode cX3_isBlock 26 = .ok (.iconst 0, 1) := by decide +kernel
theorem dX3_isBlock_27 : decode cX3_isBlock 27 = .ok (.ireturn, 1) := by decide +kernel
set_option maxRecDepth 20000 in
theorem ggX3_map_X3_sizeAt : GoodIn wsX3_map wsX3_sizeAt := goodIn_r _ [11, 12, 25, 26, 27, 28, 29, 30, 31, 32, 33, 34, 35, 36, 37, 38, 39, 40, 41, 42] (by decide +kernel) (by decide +kernel)
set_option maxRecDepth 20000 in
theorem gX3_map_X3_sizeAt : GoodIn wsX3_map (wsV RX3 58 RX3 yX3_sizeAt wsX3_sizeAt) := goodIn_app (goodIn_of _ (by decide +kernel)) ggX3_map_X3_sizeAt
set_option maxRecDepth 20000 in
theorem ggX3_map_X3_classOf : GoodIn wsX3_map wsX3_classOf := goodIn_r _ [16] (by decide +kernel) (by decide +kernel)
set_option maxRecDepth 20000 in
theorem gX3_map_X3_classOf : GoodIn wsX3_map (wsV RX3 73 RX3 yX3_classOf wsX3_classOf) := goodIn_app (goodIn_of _ (by decide +kernel)) ggX3_map_X3_classOf
set_option maxRecDepth 20000 in
theorem ggX3_map_X3_orderOf : GoodIn wsX3_map wsX3_orderOf := goodIn_r _ [20] (by decide +kernel) (by decide +kernel)
set_option maxRecDepth 20000 in
theorem gX3_map_X3_orderOf : GoodIn wsX3_map (wsV RX3 76 RX3 yX3_orderOf wsX3_orderOf) := goodIn_app (goodIn_of _ (by decide +kernel)) ggX3_map_X3_orderOf
set_option maxRecDepth 20000 in
theorem ggX3_map_X3_areFree : GoodIn wsX3_map wsX3_areFree := goodIn_r _ [24, 1, 25, 26, 27, 28, 29, 30, 31, 32, 33, 34, 35, 36, 37, 38, 39, 40, 41, 42] (by decide +kernel) (by decide +kernel)
set_option maxRecDepth 20000 in
theorem gX3_map_X3_areFree : GoodIn wsX3_map (wsV RX3 79 RX3 yX3_areFree wsX3_areFree) := goodIn_app (goodIn_of _ (by decide +kernel)) ggX3_map_X3_areFree
theorem dX3_map_0 : decode cX3_map 0 = .ok (.iconst 0, 1) := by decide +kernel
theorem dX3_map_1 : decode cX3_map 1 = .ok (.istore_n 1, 1) := by decide +kernel
theorem dX3_map_2 : decode cX3_map 2 = .ok (.iload_n 1, 1) := by decide +kernel
theorem dX3_map_3 : decode cX3_map 3 = .ok (.sipush 256, 3) := by decide +kernel
theorem dX3_map_6 : decode cX3_map 6 = .ok (.if_icmp .ge 52, 3) := by decide +kernel
theorem dX3_map_9 : decode cX3_map 9 = .ok (.aload_n 0, 1) := by decide +kernel
theorem dX3_map_10 : decode cX3_map 10 = .ok (.getfield 26, 3) := by decide +kernel
theorem dX3_map_13 : decode cX3_map 13 = .ok (.iload_n 1, 1) := by decide +kernel
theorem dX3_map_14 : decode cX3_map 14 = .ok (.iload_n 1, 1) := by decide +kernel
theorem dX3_map_15 : decode cX3_map 15 = .ok (.ifCond .ne 7, 3) := by decide +kernel
theorem dX3_map_18 : decode cX3_map 18 = .ok (.iconst 4, 1) := by decide +kernel
theorem dX3_map_19 : decode cX3_map 19 = .ok (.goto 4, 3) := by decide +kernel
theorem dX3_map_22 : decode cX3_map 22 = .ok (.iconst 0, 1) := by decide +kernel
theorem dX3_map_23 : decode cX3_map 23 = .ok (.iastore, 1) := by decide +kernel
theorem dX3_map_24 : decode cX3_map 24 = .ok (.aload_n 0, 1) := by decide +kernel
theorem dX3_map_25 : decode cX3_map 25 = .ok (.getfield 29, 3) := by decide +kernel
theorem dX3_map_28 : decode cX3_map 28 = .ok (.iload_n 1, 1) := by decide +kernel
theorem dX3_map_29 : decode cX3_map 29 = .ok (.iconst (-1), 1) := by decide +kernel
theorem dX3_map_30 : decode cX3_map 30 = .ok (.iastore, 1) := by decide +kernel
theorem dX3_map_31 : decode cX3_map 31 = .ok (.aload_n 0, 1) := by decide +kernel
theorem dX3_map_32 : decode cX3_map 32 = .ok (.getfield 32, 3) := by decide +kernel
theorem dX3_map_35 : decode cX3_map 35 = .ok (.iload_n 1, 1) := by decide +kernel
theorem dX3_map_36 : decode cX3_map 36 = .ok (.iload_n 1, 1) := by decide +kernel
theorem dX3_map_37 : decode cX3_map 37 = .ok (.iastore, 1) := by decide +kernel
theorem dX3_map_38 : decode cX3_map 38 = .ok (.aload_n 0, 1) := by decide +kernel
theorem dX3_map_39 : decode cX3_map 39 = .ok (.getfield 35, 3) := by decide +kernel
theorem dX3_map_42 : decode cX3_map 42 = .ok (.iload_n 1, 1) := by decide +kernel
theorem dX3_map_43 : decode cX3_map 43 = .ok (.iconst 0, 1) := by decide +kernel
theorem dX3_map_44 : decode cX3_map 44 = .ok (.iastore, 1) := by decide +kernel
theorem dX3_map_45 : decode cX3_map 45 = .ok (.aload_n 0, 1) := by decide +kernel
theorem dX3_map_46 : decode cX3_map 46 = .ok (.getfield 38, 3) := by decide +kernel
theorem dX3_map_49 : decode cX3_map 49 = .ok (.iload_n 1, 1) := by decide +kernel
theorem dX3_map_50 : decode cX3_map 50 = .ok (.iconst (-1), 1) := by decide +kernel
theorem dX3_map_51 : decode cX3_map 51 = .ok (.iastore, 1) := by decide +kernel
theorem dX3_map_52 : decode cX3_map 52 = .ok (.iinc 1 1, 3) := by decide +kernel
theorem dX3_map_55 : decode cX3_map 55 = .ok (.goto (-53), 3) := by decide +kernel
theorem dX3_map_58 : decode cX3_map 58 = .ok (.bipush 16, 2) := by decide +kernel
theorem dX3_map_60 : decode cX3_map 60 = .ok (.istore_n 1, 1) := by decide +kernel
theorem dX3_map_61 : decode cX3_map 61 = .ok (.iload_n 1, 1) := by decide +kernel
theorem dX3_map_62 : decode cX3_map 62 = .ok (.sipush 4096, 3) := by decide +kernel
theorem dX3_map_65 : decode cX3_map 65 = .ok (.if_icmp .ge 136, 3) := by decide +kernel
theorem dX3_map_68 : decode cX3_map 68 = .ok (.aload_n 0, 1) := by decide +kernel
theorem dX3_map_69 : decode cX3_map 69 = .ok (.getfield 16, 3) := by decide +kernel
theorem dX3_map_72 : decode cX3_map 72 = .ok (.iload_n 1, 1) := by decide +kernel
theorem dX3_map_73 : decode cX3_map 73 = .ok (.baload, 1) := by decide +kernel
theorem dX3_map_74 : decode cX3_map 74 = .ok (.ifCond .ne 6, 3) := by decide +kernel
theorem dX3_map_77 : decode cX3_map 77 = .ok (.goto 118, 3) := by decide +kernel
theorem dX3_map_80 : decode cX3_map 80 = .ok (.aload_n 0, 1) := by decide +kernel
theorem dX3_map_81 : decode cX3_map 81 = .ok (.iload_n 1, 1) := by decide +kernel
theorem dX3_map_82 : decode cX3_map 82 = .ok (.invokevirtual 58, 3) := by decide +kernel
theorem dX3_map_85 : decode cX3_map 85 = .ok (.iconst 1, 1) := by decide +kernel
theorem dX3_map_86 : decode cX3_map 86 = .ok (.iadd, 1) := by decide +kernel
theorem dX3_map_87 : decode cX3_map 87 = .ok (.istore_n 2, 1) := by decide +kernel
theorem dX3_map_88 : decode cX3_map 88 = .ok (.iload_n 1, 1) := by decide +kernel
theorem dX3_map_89 : decode cX3_map 89 = .ok (.bipush 16, 2) := by decide +kernel
theorem dX3_map_91 : decode cX3_map 91 = .ok (.idiv, 1) := by decide +kernel
theorem dX3_map_92 : decode cX3_map 92 = .ok (.istore_n 3, 1) := by decide +kernel
theorem dX3_map_93 : decode cX3_map 93 = .ok (.aload_n 0, 1) := by decide +kernel
theorem dX3_map_94 : decode cX3_map 94 = .ok (.getfield 35, 3) := by decide +kernel
theorem dX3_map_97 : decode cX3_map 97 = .ok (.iload_n 3, 1) := by decide +kernel
theorem dX3_map_98 : decode cX3_map 98 = .ok (.dup2, 1) := by decide +kernel
theorem dX3_map_99 : decode cX3_map 99 = .ok (.iaload, 1) := by decide +kernel
theorem dX3_map_100 : decode cX3_map 100 = .ok (.iconst 1, 1) := by decide +kernel
theorem dX3_map_101 : decode cX3_map 101 = .ok (.iadd, 1) := by decide +kernel
theorem dX3_map_102 : decode cX3_map 102 = .ok (.iastore, 1) := by decide +kernel
theorem dX3_map_103 : decode cX3_map 103 = .ok (.iload_n 2, 1) := by decide +kernel
theorem dX3_map_104 : decode cX3_map 104 = .ok (.bipush 8, 2) := by decide +kernel
theorem dX3_map_106 : decode cX3_map 106 = .ok (.if_icmp .gt 24, 3) := by decide +kernel
theorem dX3_map_109 : decode cX3_map 109 = .ok (.aload_n 0, 1) := by decide +kernel
theorem dX3_map_110 : decode cX3_map 110 = .ok (.getfield 26, 3) := by decide +kernel
theorem dX3_map_113 : decode cX3_map 113 = .ok (.iload_n 3, 1) := by decide +kernel
theorem dX3_map_114 : decode cX3_map 114 = .ok (.iconst 1, 1) := by decide +kernel
theorem dX3_map_115 : decode cX3_map 115 = .ok (.iastore, 1) := by decide +kernel
theorem dX3_map_116 : decode cX3_map 116 = .ok (.aload_n 0, 1) := by decide +kernel
theorem dX3_map_117 : decode cX3_map 117 = .ok (.getfield 29, 3) := by decide +kernel
theorem dX3_map_120 : decode cX3_map 120 = .ok (.iload_n 3, 1) := by decide +kernel
theorem dX3_map_121 : decode cX3_map 121 = .ok (.aload_n 0, 1) := by decide +kernel
theorem dX3_map_122 : decode cX3_map 122 = .ok (.iload_n 2, 1) := by decide +kernel
theorem dX3_map_123 : decode cX3_map 123 = .ok (.invokevirtual 73, 3) := by decide +kernel
theorem dX3_map_126 : decode cX3_map 126 = .ok (.iastore, 1) := by decide +kernel
theorem dX3_map_127 : decode cX3_map 127 = .ok (.goto 68, 3) := by decide +kernel
theorem dX3_map_130 : decode cX3_map 130 = .ok (.aload_n 0, 1) := by decide +kernel
theorem dX3_map_131 : decode cX3_map 131 = .ok (.iload_n 2, 1) := by decide +kernel
theorem dX3_map_132 : decode cX3_map 132 = .ok (.invokevirtual 76, 3) := by decide +kernel
theorem dX3_map_135 : decode cX3_map 135 = .ok (.istore 4, 2) := by decide +kernel
theorem dX3_map_137 : decode cX3_map 137 = .ok (.iconst 0, 1) := by decide +kernel
theorem dX3_map_138 : decode cX3_map 138 = .ok (.istore 5, 2) := by decide +kernel
theorem dX3_map_140 : decode cX3_map 140 = .ok (.iload 5, 2) := by decide +kernel
theorem dX3_map_142 : decode cX3_map 142 = .ok (.iconst 1, 1) := by decide +kernel
theorem dX3_map_143 : decode cX3_map 143 = .ok (.iload 4, 2) := by decide +kernel
theorem dX3_map_145 : decode cX3_map 145 = .ok (.ishl, 1) := by decide +kernel
theorem dX3_map_146 : decode cX3_map 146 = .ok (.if_icmp .ge 49, 3) := by decide +kernel
theorem dX3_map_149 : decode cX3_map 149 = .ok (.aload_n 0, 1) := by decide +kernel
theorem dX3_map_150 : decode cX3_map 150 = .ok (.getfield 26, 3) := by decide +kernel
theorem dX3_map_153 : decode cX3_map 153 = .ok (.iload_n 3, 1) := by decide +kernel
theorem dX3_map_154 : decode cX3_map 154 = .ok (.iload 5, 2) := by decide +kernel
theorem dX3_map_156 : decode cX3_map 156 = .ok (.iadd, 1) := by decide +kernel
theorem dX3_map_157 : decode cX3_map 157 = .ok (.iload 5, 2) := by decide +kernel
theorem dX3_map_159 : decode cX3_map 159 = .ok (.ifCond .ne 7, 3) := by decide +kernel
theorem dX3_map_162 : decode cX3_map 162 = .ok (.iconst 2, 1) := by decide +kernel
theorem dX3_map_163 : decode cX3_map 163 = .ok (.goto 4, 3) := by decide +kernel
theorem dX3_map_166 : decode cX3_map 166 = .ok (.iconst 3, 1) := by decide +kernel
theorem dX3_map_167 : decode cX3_map 167 = .ok (.iastore, 1) := by decide +kernel
theorem dX3_map_168 : decode cX3_map 168 = .ok (.aload_n 0, 1) := by decide +kernel
theorem dX3_map_169 : decode cX3_map 169 = .ok (.getfield 29, 3) := by decide +kernel
theorem dX3_map_172 : decode cX3_map 172 = .ok (.iload_n 3, 1) := by decide +kernel
theorem dX3_map_173 : decode cX3_map 173 = .ok (.iload 5, 2) := by decide +kernel
theorem dX3_map_175 : decode cX3_map 175 = .ok (.iadd, 1) := by decide +kernel
theorem dX3_map_176 : decode cX3_map 176 = .ok (.iload 4, 2) := by decide +kernel
theorem dX3_map_178 : decode cX3_map 178 = .ok (.iastore, 1) := by decide +kernel
theorem dX3_map_179 : decode cX3_map 179 = .ok (.aload_n 0, 1) := by decide +kernel
theorem dX3_map_180 : decode cX3_map 180 = .ok (.getfield 32, 3) := by decide +kernel
theorem dX3_map_183 : decode cX3_map 183 = .ok (.iload_n 3, 1) := by decide +kernel
theorem dX3_map_184 : decode cX3_map 184 = .ok (.iload 5, 2) := by decide +kernel
theorem dX3_map_186 : decode cX3_map 186 = .ok (.iadd, 1) := by decide +kernel
theorem dX3_map_187 : decode cX3_map 187 = .ok (.iload_n 3, 1) := by decide +kernel
theorem dX3_map_188 : decode cX3_map 188 = .ok (.iastore, 1) := by decide +kernel
theorem dX3_map_189 : decode cX3_map 189 = .ok (.iinc 5 1, 3) := by decide +kernel
theorem dX3_map_192 : decode cX3_map 192 = .ok (.goto (-52), 3) := by decide +kernel
theorem dX3_map_195 : decode cX3_map 195 = .ok (.iinc 1 1, 3) := by decide +kernel
theorem dX3_map_198 : decode cX3_map 198 = .ok (.goto (-137), 3) := by decide +kernel
theorem dX3_map_201 : decode cX3_map 201 = .ok (.bipush 8, 2) := by decide +kernel
theorem dX3_map_203 : decode cX3_map 203 = .ok (.istore_n 1, 1) := by decide +kernel
theorem dX3_map_204 : decode cX3_map 204 = .ok (.iload_n 1, 1) := by decide +kernel
theorem dX3_map_205 : decode cX3_map 205 = .ok (.ifCond .lt 93, 3) := by decide +kernel
theorem dX3_map_208 : decode cX3_map 208 = .ok (.iconst 0, 1) := by decide +kernel
theorem dX3_map_209 : decode cX3_map 209 = .ok (.istore_n 2, 1) := by decide +kernel
theorem dX3_map_210 : decode cX3_map 210 = .ok (.iload_n 2, 1) := by decide +kernel
theorem dX3_map_211 : decode cX3_map 211 = .ok (.sipush 256, 3) := by decide +kernel
theorem dX3_map_214 : decode cX3_map 214 = .ok (.if_icmp .ge 78, 3) := by decide +kernel
theorem dX3_map_217 : decode cX3_map 217 = .ok (.aload_n 0, 1) := by decide +kernel
theorem dX3_map_218 : decode cX3_map 218 = .ok (.iload_n 2, 1) := by decide +kernel
theorem dX3_map_219 : decode cX3_map 219 = .ok (.iconst 1, 1) := by decide +kernel
theorem dX3_map_220 : decode cX3_map 220 = .ok (.iload_n 1, 1) := by decide +kernel
theorem dX3_map_221 : decode cX3_map 221 = .ok (.ishl, 1) := by decide +kernel
theorem dX3_map_222 : decode cX3_map 222 = .ok (.invokevirtual 79, 3) := by decide +kernel
theorem dX3_map_225 : decode cX3_map 225 = .ok (.ifCond .eq 58, 3) := by decide +kernel
theorem dX3_map_228 : decode cX3_map 228 = .ok (.aload_n 0, 1) := by decide +kernel
theorem dX3_map_229 : decode cX3_map 229 = .ok (.getfield 38, 3) := by decide +kernel
theorem dX3_map_232 : decode cX3_map 232 = .ok (.iload_n 2, 1) := by decide +kernel
theorem dX3_map_233 : decode cX3_map 233 = .ok (.iaload, 1) := by decide +kernel
theorem dX3_map_234 : decode cX3_map 234 = .ok (.iconst (-1), 1) := by decide +kernel
theorem dX3_map_235 : decode cX3_map 235 = .ok (.if_icmp .eq 6, 3) := by decide +kernel
theorem dX3_map_238 : decode cX3_map 238 = .ok (.goto 45, 3) := by decide +kernel
theorem dX3_map_241 : decode cX3_map 241 = .ok (.iconst 0, 1) := by decide +kernel
theorem dX3_map_242 : decode cX3_map 242 = .ok (.istore_n 3, 1) := by decide +kernel
theorem dX3_map_243 : decode cX3_map 243 = .ok (.iload_n 3, 1) := by decide +kernel
theorem dX3_map_244 : decode cX3_map 244 = .ok (.iconst 1, 1) := by decide +kernel
theorem dX3_map_245 : decode cX3_map 245 = .ok (.iload_n 1, 1) := by decide +kernel
theorem dX3_map_246 : decode cX3_map 246 = .ok (.ishl, 1) := by decide +kernel
theorem dX3_map_247 : decode cX3_map 247 = .ok (.if_icmp .ge 36, 3) := by decide +kernel
theorem dX3_map_250 : decode cX3_map 250 = .ok (.aload_n 0, 1) := by decide +kernel
theorem dX3_map_251 : decode cX3_map 251 = .ok (.getfield 38, 3) := by decide +kernel
theorem dX3_map_254 : decode cX3_map 254 = .ok (.iload_n 2, 1) := by decide +kernel
theorem dX3_map_255 : decode cX3_map 255 = .ok (.iload_n 3, 1) := by decide +kernel
theorem dX3_map_256 : decode cX3_map 256 = .ok (.iadd, 1) := by decide +kernel
theorem dX3_map_257 : decode cX3_map 257 = .ok (.iload_n 1, 1) := by decide +kernel
theorem dX3_map_258 : decode cX3_map 258 = .ok (.iastore, 1) := by decide +kernel
theorem dX3_map_259 : decode cX3_map 259 = .ok (.aload_n 0, 1) := by decide +kernel
theorem dX3_map_260 : decode cX3_map 260 = .ok (.getfield 29, 3) := by decide +kernel
theorem dX3_map_263 : decode cX3_map 263 = .ok (.iload_n 2, 1) := by decide +kernel
theorem dX3_map_264 : decode cX3_map 264 = .ok (.iload_n 3, 1) := by decide +kernel
theorem dX3_map_265 : decode cX3_map 265 = .ok (.iadd, 1) := by decide +kernel
theorem dX3_map_266 : decode cX3_map 266 = .ok (.iload_n 1, 1) := by decide +kernel
theorem dX3_map_267 : decode cX3_map 267 = .ok (.iastore, 1) := by decide +kernel
theorem dX3_map_268 : decode cX3_map 268 = .ok (.aload_n 0, 1) := by decide +kernel
theorem dX3_map_269 : decode cX3_map 269 = .ok (.getfield 32, 3) := by decide +kernel
theorem dX3_map_272 : decode cX3_map 272 = .ok (.iload_n 2, 1) := by decide +kernel
theorem dX3_map_273 : decode cX3_map 273 = .ok (.iload_n 3, 1) := by decide +kernel
theorem dX3_map_274 : decode cX3_map 274 = .ok (.iadd, 1) := by decide +kernel
theorem dX3_map_275 : decode cX3_map 275 = .ok (.iload_n 2, 1) := by decide +kernel
theorem dX3_map_276 : decode cX3_map 276 = .ok (.iastore, 1) := by decide +kernel
theorem dX3_map_277 : decode cX3_map 277 = .ok (.iinc 3 1, 3) := by decide +kernel
theorem dX3_map_280 : decode cX3_map 280 = .ok (.goto (-37), 3) := by decide +kernel
theorem dX3_map_283 : decode cX3_map 283 = .ok (.iload_n 2, 1) := by decide +kernel
theorem dX3_map_284 : decode cX3_map 284 = .ok (.iconst 1, 1) := by decide +kernel
theorem dX3_map_285 : decode cX3_map 285 = .ok (.iload_n 1, 1) := by decide +kernel
theorem dX3_map_286 : decode cX3_map 286 = .ok (.ishl, 1) := by decide +kernel
theorem dX3_map_287 : decode cX3_map 287 = .ok (.iadd, 1) := by decide +kernel
theorem dX3_map_288 : decode cX3_map 288 = .ok (.istore_n 2, 1) := by decide +kernel
theorem dX3_map_289 : decode cX3_map 289 = .ok (.goto (-79), 3) := by decide +kernel
theorem dX3_map_292 : decode cX3_map 292 = .ok (.iinc 1 (-1), 3) := by decide +kernel
theorem dX3_map_295 : decode cX3_map 295 = .ok (.goto (-91), 3) := by decide +kernel
theorem dX3_map_298 : decode cX3_map 298 = .ok (.return_, 1) := by decide +kernel
theorem dX3_areFree_0 : decode cX3_areFree 0 = .ok (.iload_n 1, 1) := by decide +kernel
theorem dX3_areFree_1 : decode cX3_areFree 1 = .ok (.iload_n 2, 1) := by decide +kernel
theorem dX3_areFree_2 : decode cX3_areFree 2 = .ok (.iadd, 1) := by decide +kernel
theorem dX3_areFree_3 : decode cX3_areFree 3 = .ok (.sipush 256, 3) := by decide +kernel
theorem dX3_areFree_6 : decode cX3_areFree 6 = .ok (.if_icmp .le 5, 3) := by decide +kernel
theorem dX3_areFree_9 : decode cX3_areFree 9 = .ok (.iconst 0, 1) := by decide +kernel
theorem dX3_areFree_10 : decode cX3_areFree 10 = .ok (.ireturn, 1) := by decide +kernel
theorem dX3_areFree_11 : decode cX3_areFree 11 = .ok (.iconst 0, 1) := by decide +kernel
theorem dX3_areFree_12 : decode cX3_areFree 12 = .ok (.istore_n 3, 1) := by decide +kernel
theorem dX3_areFree_13 : decode cX3_areFree 13 = .ok (.iload_n 3, 1) := by decide +kernel
theorem dX3_areFree_14 : decode cX3_areFree 14 = .ok (.iload_n 2, 1) := by decide +kernel
theorem dX3_areFree_15 : decode cX3_areFree 15 = .ok (.if_icmp .ge 22, 3) := by decide +kernel
theorem dX3_areFree_18 : decode cX3_areFree 18 = .ok (.aload_n 0, 1) := by decide +kernel
theorem dX3_areFree_19 : decode cX3_areFree 19 = .ok (.getfield 26, 3) := by decide +kernel
theorem dX3_areFree_22 : decode cX3_areFree 22 = .ok (.iload_n 1, 1) := by decide +kernel
theorem dX3_areFree_23 : decode cX3_areFree 23 = .ok (.iload_n 3, 1) := by decide +kernel
theorem dX3_areFree_24 : decode cX3_areFree 24 = .ok (.iadd, 1) := by decide +kernel
theorem dX3_areFree_25 : decode cX3_areFree 25 = .ok (.iaload, 1) := by decide +kernel
theorem dX3_areFree_26 : decode cX3_areFree 26 = .ok (.ifCond .eq 5, 3) := by decide +kernel
theorem dX3_areFree_29 : decode cX3_areFree 29 = .ok (.iconst 0, 1) := by decide +kernel
theorem dX3_areFree_30 : decode cX3_areFree 30 = .ok (.ireturn, 1) := by decide +kernel
theorem dX3_areFree_31 : decode cX3_areFree 31 = .ok (.iinc 3 1, 3) := by decide +kernel
theorem dX3_areFree_34 : decode cX3_areFree 34 = .ok (.goto (-21), 3) := by decide +kernel
theorem dX3_areFree_37 : decode cX3_areFree 37 = .ok (.iconst 1, 1) := by decide +kernel
theorem dX3_areFree_38 : decode cX3_areFree 38 = .ok (.ireturn, 1) := by decide +kernel
theorem dX3_taken_0 : decode cX3_taken 0 = .ok (.iload_n 1, 1) := by decide +kernel
theorem dX3_taken_1 : decode cX3_taken 1 = .ok (.istore_n 2, 1) := by decide +kernel
theorem dX3_taken_2 : decode cX3_taken 2 = .ok (.iload_n 2, 1) := by decide +kernel
theorem dX3_taken_3 : decode cX3_taken 3 = .ok (.bipush 8, 2) := by decide +kernel
theorem dX3_taken_5 : decode cX3_taken 5 = .ok (.if_icmp .gt 46, 3) := by decide +kernel
theorem dX3_taken_8 : decode cX3_taken 8 = .ok (.iconst 0, 1) := by decide +kernel
theorem dX3_taken_9 : decode cX3_taken 9 = .ok (.istore_n 3, 1) := by decide +kernel
theorem dX3_taken_10 : decode cX3_taken 10 = .ok (.iload_n 3, 1) := by decide +kernel
theorem dX3_taken_11 : decode cX3_taken 11 = .ok (.sipush 256, 3) := by decide +kernel
theorem dX3_taken_14 : decode cX3_taken 14 = .ok (.if_icmp .ge 31, 3) := by decide +kernel
theorem dX3_taken_17 : decode cX3_taken 17 = .ok (.aload_n 0, 1) := by decide +kernel
theorem dX3_taken_18 : decode cX3_taken 18 = .ok (.getfield 38, 3) := by decide +kernel
theorem dX3_taken_21 : decode cX3_taken 21 = .ok (.iload_n 3, 1) := by decide +kernel
theorem dX3_taken_22 : decode cX3_taken 22 = .ok (.iaload, 1) := by decide +kernel
theorem dX3_taken_23 : decode cX3_taken 23 = .ok (.iload_n 2, 1) := by decide +kernel
theorem dX3_taken_24 : decode cX3_taken 24 = .ok (.if_icmp .ne 15, 3) := by decide +kernel
theorem dX3_taken_27 : decode cX3_taken 27 = .ok (.aload_n 0, 1) := by decide +kernel
theorem dX3_taken_28 : decode cX3_taken 28 = .ok (.getfield 32, 3) := by decide +kernel
theorem dX3_taken_31 : decode cX3_taken 31 = .ok (.iload_n 3, 1) := by decide +kernel
theorem dX3_taken_32 : decode cX3_taken 32 = .ok (.iaload, 1) := by decide +kernel
theorem dX3_taken_33 : decode cX3_taken 33 = .ok (.iload_n 3, 1) := by decide +kernel
theorem dX3_taken_34 : decode cX3_taken 34 = .ok (.if_icmp .ne 5, 3) := by decide +kernel
theorem dX3_taken_37 : decode cX3_taken 37 = .ok (.iload_n 3, 1) := by decide +kernel
theorem dX3_taken_38 : decode cX3_taken 38 = .ok (.ireturn, 1) := by decide +kernel
theorem dX3_taken_39 : decode cX3_taken 39 = .ok (.iinc 3 1, 3) := by decide +kernel
theorem dX3_taken_42 : decode cX3_taken 42 = .ok (.goto (-32), 3) := by decide +kernel
theorem dX3_taken_45 : decode cX3_taken 45 = .ok (.iinc 2 1, 3) := by decide +kernel
theorem dX3_taken_48 : decode cX3_taken 48 = .ok (.goto (-46), 3) := by decide +kernel
theorem dX3_taken_51 : decode cX3_taken 51 = .ok (.iconst (-1), 1) := by decide +kernel
theorem dX3_taken_52 : decode cX3_taken 52 = .ok (.ireturn, 1) := by decide +kernel
theorem dX3_slots_0 : decode cX3_slots 0 = .ok (.bipush 16, 2) := by decide +kernel
theorem dX3_slots_2 : decode cX3_slots 2 = .ok (.aload_n 0, 1) := by decide +kernel
theorem dX3_slots_3 : decode cX3_slots 3 = .ok (.getfield 29, 3) := by decide +kernel
theorem dX3_slots_6 : decode cX3_slots 6 = .ok (.iload_n 1, 1) := by decide +kernel
theorem dX3_slots_7 : decode cX3_slots 7 = .ok (.iaload, 1) := by decide +kernel
theorem dX3_slots_8 : decode cX3_slots 8 = .ok (.idiv, 1) := by decide +kernel
theorem dX3_slots_9 : decode cX3_slots 9 = .ok (.ireturn, 1) := by decide +kernel
set_option maxRecDepth 20000 in
theorem ggX3_placeFor_X3_map : GoodIn wsX3_placeFor wsX3_map := goodIn_r _ [8, 1, 2, 9, 10, 11, 3, 12, 13, 14, 7, 15, 16, 17, 18, 19, 20, 21, 22, 23, 24, 25, 26, 27, 28, 37, 38, 39, 40, 41, 42, 43, 44, 45, 46, 47, 48, 49, 50, 51, 52, 53, 54] (by decide +kernel) (by decide +kernel)
set_option maxRecDepth 20000 in
theorem gX3_placeFor_X3_map : GoodIn wsX3_placeFor (wsV RX3 83 RX3 yX3_map wsX3_map) := goodIn_app (goodIn_of _ (by decide +kernel)) ggX3_placeFor_X3_map
set_option maxRecDepth 20000 in
theorem ggX3_placeFor_X3_classOf : GoodIn wsX3_placeFor wsX3_classOf := goodIn_r _ [20] (by decide +kernel) (by decide +kernel)
set_option maxRecDepth 20000 in
theorem gX3_placeFor_X3_classOf : GoodIn wsX3_placeFor (wsV RX3 73 RX3 yX3_classOf wsX3_classOf) := goodIn_app (goodIn_of _ (by decide +kernel)) ggX3_placeFor_X3_classOf
set_option maxRecDepth 20000 in
theorem ggX3_placeFor_X3_orderOf : GoodIn wsX3_placeFor wsX3_orderOf := goodIn_r _ [24] (by decide +kernel) (by decide +kernel)
set_option maxRecDepth 20000 in
theorem gX3_placeFor_X3_orderOf : GoodIn wsX3_placeFor (wsV RX3 76 RX3 yX3_orderOf wsX3_orderOf) := goodIn_app (goodIn_of _ (by decide +kernel)) ggX3_placeFor_X3_orderOf
set_option maxRecDepth 20000 in
theorem ggX3_placeFor_X3_taken : GoodIn wsX3_placeFor wsX3_taken := goodIn_r _ [32, 11, 9, 37, 38, 39, 40, 41, 42, 43, 44, 45, 46, 47, 48, 49, 50, 51, 52, 53, 54] (by decide +kernel) (by decide +kernel)
set_option maxRecDepth 20000 in
theorem gX3_placeFor_X3_taken : GoodIn wsX3_placeFor (wsV RX3 86 RX3 yX3_taken wsX3_taken) := goodIn_app (goodIn_of _ (by decide +kernel)) ggX3_placeFor_X3_taken
set_option maxRecDepth 20000 in
theorem ggX3_placeFor_X3_slots : GoodIn wsX3_placeFor wsX3_slots := goodIn_r _ [36, 2, 37, 38, 39, 40, 41, 42, 43, 44, 45, 46, 47, 48, 49, 50, 51, 52, 53, 54] (by decide +kernel) (by decide +kernel)
set_option maxRecDepth 20000 in
theorem gX3_placeFor_X3_slots : GoodIn wsX3_placeFor (wsV RX3 89 RX3 yX3_slots wsX3_slots) := goodIn_app (goodIn_of _ (by decide +kernel)) ggX3_placeFor_X3_slots
theorem dX3_placeFor_0 : decode cX3_placeFor 0 = .ok (.aload_n 0, 1) := by decide +kernel
theorem dX3_placeFor_1 : decode cX3_placeFor 1 = .ok (.invokevirtual 83, 3) := by decide +kernel
theorem dX3_placeFor_4 : decode cX3_placeFor 4 = .ok (.aload_n 0, 1) := by decide +kernel
theorem dX3_placeFor_5 : decode cX3_placeFor 5 = .ok (.iload_n 1, 1) := by decide +kernel
theorem dX3_placeFor_6 : decode cX3_placeFor 6 = .ok (.invokevirtual 73, 3) := by decide +kernel
theorem dX3_placeFor_9 : decode cX3_placeFor 9 = .ok (.istore_n 2, 1) := by decide +kernel
theorem dX3_placeFor_10 : decode cX3_placeFor 10 = .ok (.iload_n 2, 1) := by decide +kernel
theorem dX3_placeFor_11 : decode cX3_placeFor 11 = .ok (.ifCond .ne 27, 3) := by decide +kernel
theorem dX3_placeFor_14 : decode cX3_placeFor 14 = .ok (.aload_n 0, 1) := by decide +kernel
theorem dX3_placeFor_15 : decode cX3_placeFor 15 = .ok (.aload_n 0, 1) := by decide +kernel
theorem dX3_placeFor_16 : decode cX3_placeFor 16 = .ok (.iload_n 1, 1) := by decide +kernel
theorem dX3_placeFor_17 : decode cX3_placeFor 17 = .ok (.invokevirtual 76, 3) := by decide +kernel
theorem dX3_placeFor_20 : decode cX3_placeFor 20 = .ok (.invokevirtual 86, 3) := by decide +kernel
theorem dX3_placeFor_23 : decode cX3_placeFor 23 = .ok (.istore_n 3, 1) := by decide +kernel
theorem dX3_placeFor_24 : decode cX3_placeFor 24 = .ok (.iload_n 3, 1) := by decide +kernel
theorem dX3_placeFor_25 : decode cX3_placeFor 25 = .ok (.iconst (-1), 1) := by decide +kernel
theorem dX3_placeFor_26 : decode cX3_placeFor 26 = .ok (.if_icmp .ne 7, 3) := by decide +kernel
theorem dX3_placeFor_29 : decode cX3_placeFor 29 = .ok (.iconst (-1), 1) := by decide +kernel
theorem dX3_placeFor_30 : decode cX3_placeFor 30 = .ok (.goto 7, 3) := by decide +kernel
theorem dX3_placeFor_33 : decode cX3_placeFor 33 = .ok (.bipush 16, 2) := by decide +kernel
theorem dX3_placeFor_35 : decode cX3_placeFor 35 = .ok (.iload_n 3, 1) := by decide +kernel
theorem dX3_placeFor_36 : decode cX3_placeFor 36 = .ok (.imul, 1) := by decide +kernel
theorem dX3_placeFor_37 : decode cX3_placeFor 37 = .ok (.ireturn, 1) := by decide +kernel
theorem dX3_placeFor_38 : decode cX3_placeFor 38 = .ok (.iconst 1, 1) := by decide +kernel
theorem dX3_placeFor_39 : decode cX3_placeFor 39 = .ok (.istore_n 3, 1) := by decide +kernel
theorem dX3_placeFor_40 : decode cX3_placeFor 40 = .ok (.iload_n 3, 1) := by decide +kernel
theorem dX3_placeFor_41 : decode cX3_placeFor 41 = .ok (.sipush 256, 3) := by decide +kernel
theorem dX3_placeFor_44 : decode cX3_placeFor 44 = .ok (.if_icmp .ge 78, 3) := by decide +kernel
theorem dX3_placeFor_47 : decode cX3_placeFor 47 = .ok (.aload_n 0, 1) := by decide +kernel
theorem dX3_placeFor_48 : decode cX3_placeFor 48 = .ok (.getfield 26, 3) := by decide +kernel
theorem dX3_placeFor_51 : decode cX3_placeFor 51 = .ok (.iload_n 3, 1) := by decide +kernel
theorem dX3_placeFor_52 : decode cX3_placeFor 52 = .ok (.iaload, 1) := by decide +kernel
theorem dX3_placeFor_53 : decode cX3_placeFor 53 = .ok (.iconst 1, 1) := by decide +kernel
theorem dX3_placeFor_54 : decode cX3_placeFor 54 = .ok (.if_icmp .ne 62, 3) := by decide +kernel
theorem dX3_placeFor_57 : decode cX3_placeFor 57 = .ok (.aload_n 0, 1) := by decide +kernel
theorem dX3_placeFor_58 : decode cX3_placeFor 58 = .ok (.getfield 29, 3) := by decide +kernel
theorem dX3_placeFor_61 : decode cX3_placeFor 61 = .ok (.iload_n 3, 1) := by decide +kernel
theorem dX3_placeFor_62 : decode cX3_placeFor 62 = .ok (.iaload, 1) := by decide +kernel
theorem dX3_placeFor_63 : decode cX3_placeFor 63 = .ok (.iload_n 2, 1) := by decide +kernel
theorem dX3_placeFor_64 : decode cX3_placeFor 64 = .ok (.if_icmp .eq 6, 3) := by decide +kernel
theorem dX3_placeFor_67 : decode cX3_placeFor 67 = .ok (.goto 49, 3) := by decide +kernel
theorem dX3_placeFor_70 : decode cX3_placeFor 70 = .ok (.iconst 0, 1) := by decide +kernel
theorem dX3_placeFor_71 : decode cX3_placeFor 71 = .ok (.istore 4, 2) := by decide +kernel
theorem dX3_placeFor_73 : decode cX3_placeFor 73 = .ok (.iload 4, 2) := by decide +kernel
theorem dX3_placeFor_75 : decode cX3_placeFor 75 = .ok (.aload_n 0, 1) := by decide +kernel
theorem dX3_placeFor_76 : decode cX3_placeFor 76 = .ok (.iload_n 3, 1) := by decide +kernel
theorem dX3_placeFor_77 : decode cX3_placeFor 77 = .ok (.invokevirtual 89, 3) := by decide +kernel
theorem dX3_placeFor_80 : decode cX3_placeFor 80 = .ok (.if_icmp .ge 36, 3) := by decide +kernel
theorem dX3_placeFor_83 : decode cX3_placeFor 83 = .ok (.aload_n 0, 1) := by decide +kernel
theorem dX3_placeFor_84 : decode cX3_placeFor 84 = .ok (.getfield 16, 3) := by decide +kernel
theorem dX3_placeFor_87 : decode cX3_placeFor 87 = .ok (.bipush 16, 2) := by decide +kernel
theorem dX3_placeFor_89 : decode cX3_placeFor 89 = .ok (.iload_n 3, 1) := by decide +kernel
theorem dX3_placeFor_90 : decode cX3_placeFor 90 = .ok (.imul, 1) := by decide +kernel
theorem dX3_placeFor_91 : decode cX3_placeFor 91 = .ok (.iload_n 2, 1) := by decide +kernel
theorem dX3_placeFor_92 : decode cX3_placeFor 92 = .ok (.iload 4, 2) := by decide +kernel
theorem dX3_placeFor_94 : decode cX3_placeFor 94 = .ok (.imul, 1) := by decide +kernel
theorem dX3_placeFor_95 : decode cX3_placeFor 95 = .ok (.iadd, 1) := by decide +kernel
theorem dX3_placeFor_96 : decode cX3_placeFor 96 = .ok (.baload, 1) := by decide +kernel
theorem dX3_placeFor_97 : decode cX3_placeFor 97 = .ok (.ifCond .ne 13, 3) := by decide +kernel
theorem dX3_placeFor_100 : decode cX3_placeFor 100 = .ok (.bipush 16, 2) := by decide +kernel
theorem dX3_placeFor_102 : decode cX3_placeFor 102 = .ok (.iload_n 3, 1) := by decide +kernel
theorem dX3_placeFor_103 : decode cX3_placeFor 103 = .ok (.imul, 1) := by decide +kernel
theorem dX3_placeFor_104 : decode cX3_placeFor 104 = .ok (.iload_n 2, 1) := by decide +kernel
theorem dX3_placeFor_105 : decode cX3_placeFor 105 = .ok (.iload 4, 2) := by decide +kernel
theorem dX3_placeFor_107 : decode cX3_placeFor 107 = .ok (.imul, 1) := by decide +kernel
theorem dX3_placeFor_108 : decode cX3_placeFor 108 = .ok (.iadd, 1) := by decide +kernel
theorem dX3_placeFor_109 : decode cX3_placeFor 109 = .ok (.ireturn, 1) := by decide +kernel
theorem dX3_placeFor_110 : decode cX3_placeFor 110 = .ok (.iinc 4 1, 3) := by decide +kernel
theorem dX3_placeFor_113 : decode cX3_placeFor 113 = .ok (.goto (-40), 3) := by decide +kernel
theorem dX3_placeFor_116 : decode cX3_placeFor 116 = .ok (.iinc 3 1, 3) := by decide +kernel
theorem dX3_placeFor_119 : decode cX3_placeFor 119 = .ok (.goto (-79), 3) := by decide +kernel
theorem dX3_placeFor_122 : decode cX3_placeFor 122 = .ok (.aload_n 0, 1) := by decide +kernel
theorem dX3_placeFor_123 : decode cX3_placeFor 123 = .ok (.iconst 0, 1) := by decide +kernel
theorem dX3_placeFor_124 : decode cX3_placeFor 124 = .ok (.invokevirtual 86, 3) := by decide +kernel
theorem dX3_placeFor_127 : decode cX3_placeFor 127 = .ok (.istore_n 3, 1) := by decide +kernel
theorem dX3_placeFor_128 : decode cX3_placeFor 128 = .ok (.iload_n 3, 1) := by decide +kernel
theorem dX3_placeFor_129 : decode cX3_placeFor 129 = .ok (.iconst (-1), 1) := by decide +kernel
theorem dX3_placeFor_130 : decode cX3_placeFor 130 = .ok (.if_icmp .ne 7, 3) := by decide +kernel
theorem dX3_placeFor_133 : decode cX3_placeFor 133 = .ok (.iconst (-1), 1) := by decide +kernel
theorem dX3_placeFor_134 : decode cX3_placeFor 134 = .ok (.goto 7, 3) := by decide +kernel
theorem dX3_placeFor_137 : decode cX3_placeFor 137 = .ok (.bipush 16, 2) := by decide +kernel
theorem dX3_placeFor_139 : decode cX3_placeFor 139 = .ok (.iload_n 3, 1) := by decide +kernel
theorem dX3_placeFor_140 : decode cX3_placeFor 140 = .ok (.imul, 1) := by decide +kernel
theorem dX3_placeFor_141 : decode cX3_placeFor 141 = .ok (.ireturn, 1) := by decide +kernel
set_option maxRecDepth 20000 in
theorem ggX3_alloc_X3_is : GoodIn wsX3_alloc wsX3_is := goodIn_r _ [8] (by decide +kernel) (by decide +kernel)
set_option maxRecDepth 20000 in
theorem gX3_alloc_X3_is : GoodIn wsX3_alloc (wsV RX3 69 RX3 yX3_is wsX3_is) := goodIn_app (goodIn_of _ (by decide +kernel)) ggX3_alloc_X3_is
set_option maxRecDepth 20000 in
theorem ggX3_alloc_X3_no : GoodIn wsX3_alloc wsX3_no := goodIn_r _ [12, 3, 63, 64, 65, 66, 67, 68, 69, 70, 71, 72, 73, 74, 75, 76, 77, 78, 79, 80] (by decide +kernel) (by decide +kernel)
set_option maxRecDepth 20000 in
theorem gX3_alloc_X3_no : GoodIn wsX3_alloc (wsV RX3 92 RX3 yX3_no wsX3_no) := goodIn_app (goodIn_of _ (by decide +kernel)) ggX3_alloc_X3_no
set_option maxRecDepth 20000 in
theorem ggX3_alloc_X3_placeFor : GoodIn wsX3_alloc wsX3_placeFor := goodIn_r _ [16, 17, 18, 2, 19, 20, 21, 7, 22, 23, 24, 25, 26, 27, 28, 29, 30, 31, 32, 33, 34, 35, 36, 37, 38, 39, 40, 41, 42, 43, 44, 45, 46, 47, 48, 49, 50, 63, 64, 65, 66, 67, 68, 69, 70, 71, 72, 73, 74, 75, 76, 77, 78, 79, 80] (by decide +kernel) (by decide +kernel)
set_option maxRecDepth 20000 in
theorem gX3_alloc_X3_placeFor : GoodIn wsX3_alloc (wsV RX3 95 RX3 yX3_placeFor wsX3_placeFor) := goodIn_app (goodIn_of _ (by decide +kernel)) ggX3_alloc_X3_placeFor
set_option maxRecDepth 20000 in
theorem ggX3_alloc_X3_headOf : GoodIn wsX3_alloc wsX3_headOf := goodIn_r _ [54, 55] (by decide +kernel) (by decide +kernel)
set_option maxRecDepth 20000 in
theorem gX3_alloc_X3_headOf : GoodIn wsX3_alloc (wsV RX3 65 RX3 yX3_headOf wsX3_headOf) := goodIn_app (goodIn_of _ (by decide +kernel)) ggX3_alloc_X3_headOf
set_option maxRecDepth 20000 in
theorem ggX3_alloc_X3_write : GoodIn wsX3_alloc wsX3_write := goodIn_r _ [59, 30, 60, 61, 62, 63, 64, 65, 66, 67, 68, 69, 70, 71, 72, 73, 74, 75, 76, 77, 78, 79, 80] (by decide +kernel) (by decide +kernel)
set_option maxRecDepth 20000 in
theorem gX3_alloc_X3_write : GoodIn wsX3_alloc (wsV RX3 98 RX3 yX3_write wsX3_write) := goodIn_app (goodIn_of _ (by decide +kernel)) ggX3_alloc_X3_write
theorem dX3_alloc_0 : decode cX3_alloc 0 = .ok (.aload_n 0, 1) := by decide +kernel
theorem dX3_alloc_1 : decode cX3_alloc 1 = .ok (.iconst 0, 1) := by decide +kernel
theorem dX3_alloc_2 : decode cX3_alloc 2 = .ok (.putfield 47, 3) := by decide +kernel
theorem dX3_alloc_5 : decode cX3_alloc 5 = .ok (.aload_n 0, 1) := by decide +kernel
theorem dX3_alloc_6 : decode cX3_alloc 6 = .ok (.iload_n 1, 1) := by decide +kernel
theorem dX3_alloc_7 : decode cX3_alloc 7 = .ok (.iconst 1, 1) := by decide +kernel
theorem dX3_alloc_8 : decode cX3_alloc 8 = .ok (.sipush 2047, 3) := by decide +kernel
theorem dX3_alloc_11 : decode cX3_alloc 11 = .ok (.invokevirtual 69, 3) := by decide +kernel
theorem dX3_alloc_14 : decode cX3_alloc 14 = .ok (.ifCond .eq 13, 3) := by decide +kernel
theorem dX3_alloc_17 : decode cX3_alloc 17 = .ok (.aload_n 0, 1) := by decide +kernel
theorem dX3_alloc_18 : decode cX3_alloc 18 = .ok (.iload_n 2, 1) := by decide +kernel
theorem dX3_alloc_19 : decode cX3_alloc 19 = .ok (.iconst 0, 1) := by decide +kernel
theorem dX3_alloc_20 : decode cX3_alloc 20 = .ok (.iload_n 1, 1) := by decide +kernel
theorem dX3_alloc_21 : decode cX3_alloc 21 = .ok (.invokevirtual 69, 3) := by decide +kernel
theorem dX3_alloc_24 : decode cX3_alloc 24 = .ok (.ifCond .ne 9, 3) := by decide +kernel
theorem dX3_alloc_27 : decode cX3_alloc 27 = .ok (.aload_n 0, 1) := by decide +kernel
theorem dX3_alloc_28 : decode cX3_alloc 28 = .ok (.iconst 3, 1) := by decide +kernel
theorem dX3_alloc_29 : decode cX3_alloc 29 = .ok (.invokevirtual 92, 3) := by decide +kernel
theorem dX3_alloc_32 : decode cX3_alloc 32 = .ok (.ireturn, 1) := by decide +kernel
theorem dX3_alloc_33 : decode cX3_alloc 33 = .ok (.aload_n 0, 1) := by decide +kernel
theorem dX3_alloc_34 : decode cX3_alloc 34 = .ok (.iload_n 1, 1) := by decide +kernel
theorem dX3_alloc_35 : decode cX3_alloc 35 = .ok (.iconst 1, 1) := by decide +kernel
theorem dX3_alloc_36 : decode cX3_alloc 36 = .ok (.iadd, 1) := by decide +kernel
theorem dX3_alloc_37 : decode cX3_alloc 37 = .ok (.invokevirtual 95, 3) := by decide +kernel
theorem dX3_alloc_40 : decode cX3_alloc 40 = .ok (.istore_n 3, 1) := by decide +kernel
theorem dX3_alloc_41 : decode cX3_alloc 41 = .ok (.iload_n 3, 1) := by decide +kernel
theorem dX3_alloc_42 : decode cX3_alloc 42 = .ok (.iconst (-1), 1) := by decide +kernel
theorem dX3_alloc_43 : decode cX3_alloc 43 = .ok (.if_icmp .ne 9, 3) := by decide +kernel
theorem dX3_alloc_46 : decode cX3_alloc 46 = .ok (.aload_n 0, 1) := by decide +kernel
theorem dX3_alloc_47 : decode cX3_alloc 47 = .ok (.iconst 1, 1) := by decide +kernel
theorem dX3_alloc_48 : decode cX3_alloc 48 = .ok (.invokevirtual 92, 3) := by decide +kernel
theorem dX3_alloc_51 : decode cX3_alloc 51 = .ok (.ireturn, 1) := by decide +kernel
theorem dX3_alloc_52 : decode cX3_alloc 52 = .ok (.aload_n 0, 1) := by decide +kernel
theorem dX3_alloc_53 : decode cX3_alloc 53 = .ok (.getfield 16, 3) := by decide +kernel
theorem dX3_alloc_56 : decode cX3_alloc 56 = .ok (.iload_n 3, 1) := by decide +kernel
theorem dX3_alloc_57 : decode cX3_alloc 57 = .ok (.iconst 1, 1) := by decide +kernel
theorem dX3_alloc_58 : decode cX3_alloc 58 = .ok (.bastore, 1) := by decide +kernel
theorem dX3_alloc_59 : decode cX3_alloc 59 = .ok (.aload_n 0, 1) := by decide +kernel
theorem dX3_alloc_60 : decode cX3_alloc 60 = .ok (.iload_n 3, 1) := by decide +kernel
theorem dX3_alloc_61 : decode cX3_alloc 61 = .ok (.aload_n 0, 1) := by decide +kernel
theorem dX3_alloc_62 : decode cX3_alloc 62 = .ok (.iload_n 3, 1) := by decide +kernel
theorem dX3_alloc_63 : decode cX3_alloc 63 = .ok (.iload_n 1, 1) := by decide +kernel
theorem dX3_alloc_64 : decode cX3_alloc 64 = .ok (.iload_n 2, 1) := by decide +kernel
theorem dX3_alloc_65 : decode cX3_alloc 65 = .ok (.invokevirtual 65, 3) := by decide +kernel
theorem dX3_alloc_68 : decode cX3_alloc 68 = .ok (.invokevirtual 98, 3) := by decide +kernel
theorem dX3_alloc_71 : decode cX3_alloc 71 = .ok (.iconst 0, 1) := by decide +kernel
theorem dX3_alloc_72 : decode cX3_alloc 72 = .ok (.istore 4, 2) := by decide +kernel
theorem dX3_alloc_74 : decode cX3_alloc 74 = .ok (.iload 4, 2) := by decide +kernel
theorem dX3_alloc_76 : decode cX3_alloc 76 = .ok (.iload_n 1, 1) := by decide +kernel
theorem dX3_alloc_77 : decode cX3_alloc 77 = .ok (.if_icmp .ge 20, 3) := by decide +kernel
theorem dX3_alloc_80 : decode cX3_alloc 80 = .ok (.aload_n 0, 1) := by decide +kernel
theorem dX3_alloc_81 : decode cX3_alloc 81 = .ok (.iload_n 3, 1) := by decide +kernel
theorem dX3_alloc_82 : decode cX3_alloc 82 = .ok (.iconst 1, 1) := by decide +kernel
theorem dX3_alloc_83 : decode cX3_alloc 83 = .ok (.iadd, 1) := by decide +kernel
theorem dX3_alloc_84 : decode cX3_alloc 84 = .ok (.iload 4, 2) := by decide +kernel
theorem dX3_alloc_86 : decode cX3_alloc 86 = .ok (.iadd, 1) := by decide +kernel
theorem dX3_alloc_87 : decode cX3_alloc 87 = .ok (.iconst 0, 1) := by decide +kernel
theorem dX3_alloc_88 : decode cX3_alloc 88 = .ok (.invokevirtual 98, 3) := by decide +kernel
theorem dX3_alloc_91 : decode cX3_alloc 91 = .ok (.iinc 4 1, 3) := by decide +kernel
theorem dX3_alloc_94 : decode cX3_alloc 94 = .ok (.goto (-20), 3) := by decide +kernel
theorem dX3_alloc_97 : decode cX3_alloc 97 = .ok (.aload_n 0, 1) := by decide +kernel
theorem dX3_alloc_98 : decode cX3_alloc 98 = .ok (.iconst 0, 1) := by decide +kernel
theorem dX3_alloc_99 : decode cX3_alloc 99 = .ok (.putfield 51, 3) := by decide +kernel
theorem dX3_alloc_102 : decode cX3_alloc 102 = .ok (.iload_n 3, 1) := by decide +kernel
theorem dX3_alloc_103 : decode cX3_alloc 103 = .ok (.ireturn, 1) := by decide +kernel
set_option maxRecDepth 20000 in
theorem ggX3_leading_X3_refsAt : GoodIn wsX3_leading wsX3_refsAt := goodIn_r _ [7, 1, 8, 9, 10, 11, 12, 13, 14, 15, 16, 17, 18, 19, 20, 21, 22, 23, 24, 25] (by decide +kernel) (by decide +kernel)
set_option maxRecDepth 20000 in
theorem gX3_leading_X3_refsAt : GoodIn wsX3_leading (wsV RX3 62 RX3 yX3_refsAt wsX3_refsAt) := goodIn_app (goodIn_of _ (by decide +kernel)) ggX3_leading_X3_refsAt
theorem dX3_leading_0 : decode cX3_leading 0 = .ok (.iconst 0, 1) := by decide +kernel
theorem dX3_leading_1 : decode cX3_leading 1 = .ok (.istore_n 2, 1) := by decide +kernel
theorem dX3_leading_2 : decode cX3_leading 2 = .ok (.iconst 1, 1) := by decide +kernel
theorem dX3_leading_3 : decode cX3_leading 3 = .ok (.istore_n 3, 1) := by decide +kernel
theorem dX3_leading_4 : decode cX3_leading 4 = .ok (.iload_n 3, 1) := by decide +kernel
theorem dX3_leading_5 : decode cX3_leading 5 = .ok (.bipush 8, 2) := by decide +kernel
theorem dX3_leading_7 : decode cX3_leading 7 = .ok (.if_icmp .gt 27, 3) := by decide +kernel
theorem dX3_leading_10 : decode cX3_leading 10 = .ok (.iload_n 2, 1) := by decide +kernel
theorem dX3_leading_11 : decode cX3_leading 11 = .ok (.aload_n 0, 1) := by decide +kernel
theorem dX3_leading_12 : decode cX3_leading 12 = .ok (.getfield 7, 3) := by decide +kernel
theorem dX3_leading_15 : decode cX3_leading 15 = .ok (.iload_n 3, 1) := by decide +kernel
theorem dX3_leading_16 : decode cX3_leading 16 = .ok (.iaload, 1) := by decide +kernel
theorem dX3_leading_17 : decode cX3_leading 17 = .ok (.iload_n 1, 1) := by decide +kernel
theorem dX3_leading_18 : decode cX3_leading 18 = .ok (.if_icmp .ne 7, 3) := by decide +kernel
theorem dX3_leading_21 : decode cX3_leading 21 = .ok (.iconst 1, 1) := by decide +kernel
theorem dX3_leading_22 : decode cX3_leading 22 = .ok (.goto 4, 3) := by decide +kernel
theorem dX3_leading_25 : decode cX3_leading 25 = .ok (.iconst 0, 1) := by decide +kernel
theorem dX3_leading_26 : decode cX3_leading 26 = .ok (.iadd, 1) := by decide +kernel
theorem dX3_leading_27 : decode cX3_leading 27 = .ok (.istore_n 2, 1) := by decide +kernel
theorem dX3_leading_28 : decode cX3_leading 28 = .ok (.iinc 3 1, 3) := by decide +kernel
theorem dX3_leading_31 : decode cX3_leading 31 = .ok (.goto (-27), 3) := by decide +kernel
theorem dX3_leading_34 : decode cX3_leading 34 = .ok (.bipush 16, 2) := by decide +kernel
theorem dX3_leading_36 : decode cX3_leading 36 = .ok (.istore_n 3, 1) := by decide +kernel
theorem dX3_leading_37 : decode cX3_leading 37 = .ok (.iload_n 3, 1) := by decide +kernel
theorem dX3_leading_38 : decode cX3_leading 38 = .ok (.sipush 4096, 3) := by decide +kernel
theorem dX3_leading_41 : decode cX3_leading 41 = .ok (.if_icmp .ge 63, 3) := by decide +kernel
theorem dX3_leading_44 : decode cX3_leading 44 = .ok (.aload_n 0, 1) := by decide +kernel
theorem dX3_leading_45 : decode cX3_leading 45 = .ok (.getfield 16, 3) := by decide +kernel
theorem dX3_leading_48 : decode cX3_leading 48 = .ok (.iload_n 3, 1) := by decide +kernel
theorem dX3_leading_49 : decode cX3_leading 49 = .ok (.baload, 1) := by decide +kernel
theorem dX3_leading_50 : decode cX3_leading 50 = .ok (.ifCond .ne 6, 3) := by decide +kernel
theorem dX3_leading_53 : decode cX3_leading 53 = .ok (.goto 45, 3) := by decide +kernel
theorem dX3_leading_56 : decode cX3_leading 56 = .ok (.iconst 0, 1) := by decide +kernel
theorem dX3_leading_57 : decode cX3_leading 57 = .ok (.istore 4, 2) := by decide +kernel
theorem dX3_leading_59 : decode cX3_leading 59 = .ok (.iload 4, 2) := by decide +kernel
theorem dX3_leading_61 : decode cX3_leading 61 = .ok (.aload_n 0, 1) := by decide +kernel
theorem dX3_leading_62 : decode cX3_leading 62 = .ok (.iload_n 3, 1) := by decide +kernel
theorem dX3_leading_63 : decode cX3_leading 63 = .ok (.invokevirtual 62, 3) := by decide +kernel
theorem dX3_leading_66 : decode cX3_leading 66 = .ok (.if_icmp .ge 32, 3) := by decide +kernel
theorem dX3_leading_69 : decode cX3_leading 69 = .ok (.iload_n 2, 1) := by decide +kernel
theorem dX3_leading_70 : decode cX3_leading 70 = .ok (.aload_n 0, 1) := by decide +kernel
theorem dX3_leading_71 : decode cX3_leading 71 = .ok (.getfield 7, 3) := by decide +kernel
theorem dX3_leading_74 : decode cX3_leading 74 = .ok (.iload_n 3, 1) := by decide +kernel
theorem dX3_leading_75 : decode cX3_leading 75 = .ok (.iconst 1, 1) := by decide +kernel
theorem dX3_leading_76 : decode cX3_leading 76 = .ok (.iadd, 1) := by decide +kernel
theorem dX3_leading_77 : decode cX3_leading 77 = .ok (.iload 4, 2) := by decide +kernel
theorem dX3_leading_79 : decode cX3_leading 79 = .ok (.iadd, 1) := by decide +kernel
theorem dX3_leading_80 : decode cX3_leading 80 = .ok (.iaload, 1) := by decide +kernel
theorem dX3_leading_81 : decode cX3_leading 81 = .ok (.iload_n 1, 1) := by decide +kernel
theorem dX3_leading_82 : decode cX3_leading 82 = .ok (.if_icmp .ne 7, 3) := by decide +kernel
theorem dX3_leading_85 : decode cX3_leading 85 = .ok (.iconst 1, 1) := by decide +kernel
theorem dX3_leading_86 : decode cX3_leading 86 = .ok (.goto 4, 3) := by decide +kernel
theorem dX3_leading_89 : decode cX3_leading 89 = .ok (.iconst 0, 1) := by decide +kernel
theorem dX3_leading_90 : decode cX3_leading 90 = .ok (.iadd, 1) := by decide +kernel
theorem dX3_leading_91 : decode cX3_leading 91 = .ok (.istore_n 2, 1) := by decide +kernel
theorem dX3_leading_92 : decode cX3_leading 92 = .ok (.iinc 4 1, 3) := by decide +kernel
theorem dX3_leading_95 : decode cX3_leading 95 = .ok (.goto (-36), 3) := by decide +kernel
theorem dX3_leading_98 : decode cX3_leading 98 = .ok (.iinc 3 1, 3) := by decide +kernel
theorem dX3_leading_101 : decode cX3_leading 101 = .ok (.goto (-64), 3) := by decide +kernel
theorem dX3_leading_104 : decode cX3_leading 104 = .ok (.iload_n 2, 1) := by decide +kernel
theorem dX3_leading_105 : decode cX3_leading 105 = .ok (.ireturn, 1) := by decide +kernel
set_option maxRecDepth 20000 in
theorem ggX3_freed_X3_sizeAt : GoodIn wsX3_freed wsX3_sizeAt := goodIn_r _ [6, 7, 15, 16, 17, 18, 19, 20, 21, 22, 23, 24, 25, 26, 27, 28, 29, 30, 31, 32] (by decide +kernel) (by decide +kernel)
set_option maxRecDepth 20000 in
theorem gX3_freed_X3_sizeAt : GoodIn wsX3_freed (wsV RX3 58 RX3 yX3_sizeAt wsX3_sizeAt) := goodIn_app (goodIn_of _ (by decide +kernel)) ggX3_freed_X3_sizeAt
set_option maxRecDepth 20000 in
theorem ggX3_freed_X3_write : GoodIn wsX3_freed wsX3_write := goodIn_r _ [11, 7, 12, 13, 14, 15, 16, 17, 18, 19, 20, 21, 22, 23, 24, 25, 26, 27, 28, 29, 30, 31, 32] (by decide +kernel) (by decide +kernel)
set_option maxRecDepth 20000 in
theorem gX3_freed_X3_write : GoodIn wsX3_freed (wsV RX3 98 RX3 yX3_write wsX3_write) := goodIn_app (goodIn_of _ (by decide +kernel)) ggX3_freed_X3_write
theorem dX3_freed_0 : decode cX3_freed 0 = .ok (.aload_n 0, 1) := by decide +kernel
theorem dX3_freed_1 : decode cX3_freed 1 = .ok (.iload_n 1, 1) := by decide +kernel
theorem dX3_freed_2 : decode cX3_freed 2 = .ok (.invokevirtual 58, 3) := by decide +kernel
theorem dX3_freed_5 : decode cX3_freed 5 = .ok (.iconst 1, 1) := by decide +kernel
theorem dX3_freed_6 : decode cX3_freed 6 = .ok (.iadd, 1) := by decide +kernel
theorem dX3_freed_7 : decode cX3_freed 7 = .ok (.istore_n 2, 1) := by decide +kernel
theorem dX3_freed_8 : decode cX3_freed 8 = .ok (.aload_n 0, 1) := by decide +kernel
theorem dX3_freed_9 : decode cX3_freed 9 = .ok (.getfield 16, 3) := by decide +kernel
theorem dX3_freed_12 : decode cX3_freed 12 = .ok (.iload_n 1, 1) := by decide +kernel
theorem dX3_freed_13 : decode cX3_freed 13 = .ok (.iconst 0, 1) := by decide +kernel
theorem dX3_freed_14 : decode cX3_freed 14 = .ok (.bastore, 1) := by decide +kernel
theorem dX3_freed_15 : decode cX3_freed 15 = .ok (.aload_n 0, 1) := by decide +kernel
theorem dX3_freed_16 : decode cX3_freed 16 = .ok (.iload_n 1, 1) := by decide +kernel
theorem dX3_freed_17 : decode cX3_freed 17 = .ok (.iconst 0, 1) := by decide +kernel
theorem dX3_freed_18 : decode cX3_freed 18 = .ok (.invokevirtual 98, 3) := by decide +kernel
theorem dX3_freed_21 : decode cX3_freed 21 = .ok (.iload_n 2, 1) := by decide +kernel
theorem dX3_freed_22 : decode cX3_freed 22 = .ok (.ireturn, 1) := by decide +kernel
set_option maxRecDepth 20000 in
theorem ggX3_free_X3_isBlock : GoodIn wsX3_free wsX3_isBlock := goodIn_r _ [7, 8, 9, 10, 11, 6, 12, 41, 42, 43, 44, 45, 46, 47, 48, 49, 50, 51, 52, 53, 54, 55, 56, 57, 58] (by decide +kernel) (by decide +kernel)
set_option maxRecDepth 20000 in
theorem gX3_free_X3_isBlock : GoodIn wsX3_free (wsV RX3 102 RX3 yX3_isBlock wsX3_isBlock) := goodIn_app (goodIn_of _ (by decide +kernel)) ggX3_free_X3_isBlock
set_option maxRecDepth 20000 in
theorem ggX3_free_X3_no : GoodIn wsX3_free wsX3_no := goodIn_r _ [16, 2, 41, 42, 43, 44, 45, 46, 47, 48, 49, 50, 51, 52, 53, 54, 55, 56, 57, 58] (by decide +kernel) (by decide +kernel)
set_option maxRecDepth 20000 in
theorem gX3_free_X3_no : GoodIn wsX3_free (wsV RX3 92 RX3 yX3_no wsX3_no) := goodIn_app (goodIn_of _ (by decide +kernel)) ggX3_free_X3_no
set_option maxRecDepth 20000 in
theorem ggX3_free_X3_leading : GoodIn wsX3_free wsX3_leading := goodIn_r _ [20, 21, 8, 22, 23, 24, 6, 25, 41, 42, 43, 44, 45, 46, 47, 48, 49, 50, 51, 52, 53, 54, 55, 56, 57, 58] (by decide +kernel) (by decide +kernel)
set_option maxRecDepth 20000 in
theorem gX3_free_X3_leading : GoodIn wsX3_free (wsV RX3 106 RX3 yX3_leading wsX3_leading) := goodIn_app (goodIn_of _ (by decide +kernel)) ggX3_free_X3_leading
set_option maxRecDepth 20000 in
theorem ggX3_free_X3_freed : GoodIn wsX3_free wsX3_freed := goodIn_r _ [29, 8, 30, 31, 32, 6, 33, 21, 34, 35, 36, 37, 38, 39, 40, 41, 42, 43, 44, 45, 46, 47, 48, 49, 50, 51, 52, 53, 54, 55, 56, 57, 58] (by decide +kernel) (by decide +kernel)
set_option maxRecDepth 20000 in
theorem gX3_free_X3_freed : GoodIn wsX3_free (wsV RX3 109 RX3 yX3_freed wsX3_freed) := goodIn_app (goodIn_of _ (by decide +kernel)) ggX3_free_X3_freed
theorem dX3_free_0 : decode cX3_free 0 = .ok (.aload_n 0, 1) := by decide +kernel
theorem dX3_free_1 : decode cX3_free 1 = .ok (.iconst 0, 1) := by decide +kernel
theorem dX3_free_2 : decode cX3_free 2 = .ok (.putfield 47, 3) := by decide +kernel
theorem dX3_free_5 : decode cX3_free 5 = .ok (.aload_n 0, 1) := by decide +kernel
theorem dX3_free_6 : decode cX3_free 6 = .ok (.iload_n 1, 1) := by decide +kernel
theorem dX3_free_7 : decode cX3_free 7 = .ok (.invokevirtual 102, 3) := by decide +kernel
theorem dX3_free_10 : decode cX3_free 10 = .ok (.ifCond .ne 9, 3) := by decide +kernel
theorem dX3_free_13 : decode cX3_free 13 = .ok (.aload_n 0, 1) := by decide +kernel
theorem dX3_free_14 : decode cX3_free 14 = .ok (.iconst 2, 1) := by decide +kernel
theorem dX3_free_15 : decode cX3_free 15 = .ok (.invokevirtual 92, 3) := by decide +kernel
theorem dX3_free_18 : decode cX3_free 18 = .ok (.ireturn, 1) := by decide +kernel
theorem dX3_free_19 : decode cX3_free 19 = .ok (.aload_n 0, 1) := by decide +kernel
theorem dX3_free_20 : decode cX3_free 20 = .ok (.iload_n 1, 1) := by decide +kernel
theorem dX3_free_21 : decode cX3_free 21 = .ok (.invokevirtual 106, 3) := by decide +kernel
theorem dX3_free_24 : decode cX3_free 24 = .ok (.ifCond .le 9, 3) := by decide +kernel
theorem dX3_free_27 : decode cX3_free 27 = .ok (.aload_n 0, 1) := by decide +kernel
theorem dX3_free_28 : decode cX3_free 28 = .ok (.iconst 4, 1) := by decide +kernel
theorem dX3_free_29 : decode cX3_free 29 = .ok (.invokevirtual 92, 3) := by decide +kernel
theorem dX3_free_32 : decode cX3_free 32 = .ok (.ireturn, 1) := by decide +kernel
theorem dX3_free_33 : decode cX3_free 33 = .ok (.aload_n 0, 1) := by decide +kernel
theorem dX3_free_34 : decode cX3_free 34 = .ok (.iconst 0, 1) := by decide +kernel
theorem dX3_free_35 : decode cX3_free 35 = .ok (.putfield 51, 3) := by decide +kernel
theorem dX3_free_38 : decode cX3_free 38 = .ok (.aload_n 0, 1) := by decide +kernel
theorem dX3_free_39 : decode cX3_free 39 = .ok (.iload_n 1, 1) := by decide +kernel
theorem dX3_free_40 : decode cX3_free 40 = .ok (.invokevirtual 109, 3) := by decide +kernel
theorem dX3_free_43 : decode cX3_free 43 = .ok (.ireturn, 1) := by decide +kernel
set_option maxRecDepth 20000 in
theorem ggX3_put_X3_isBlock : GoodIn wsX3_put wsX3_isBlock := goodIn_r _ [7, 8, 9, 10, 11, 6, 12, 33, 34, 35, 36, 37, 38, 39, 40, 41, 42, 43, 44, 45, 46, 47, 48, 49, 50] (by decide +kernel) (by decide +kernel)
set_option maxRecDepth 20000 in
theorem gX3_put_X3_isBlock : GoodIn wsX3_put (wsV RX3 102 RX3 yX3_isBlock wsX3_isBlock) := goodIn_app (goodIn_of _ (by decide +kernel)) ggX3_put_X3_isBlock
set_option maxRecDepth 20000 in
theorem ggX3_put_X3_refsAt : GoodIn wsX3_put wsX3_refsAt := goodIn_r _ [16, 17, 33, 34, 35, 36, 37, 38, 39, 40, 41, 42, 43, 44, 45, 46, 47, 48, 49, 50] (by decide +kernel) (by decide +kernel)
set_option maxRecDepth 20000 in
theorem gX3_put_X3_refsAt : GoodIn wsX3_put (wsV RX3 62 RX3 yX3_refsAt wsX3_refsAt) := goodIn_app (goodIn_of _ (by decide +kernel)) ggX3_put_X3_refsAt
set_option maxRecDepth 20000 in
theorem ggX3_put_X3_sizeAt : GoodIn wsX3_put wsX3_sizeAt := goodIn_r _ [21, 17, 33, 34, 35, 36, 37, 38, 39, 40, 41, 42, 43, 44, 45, 46, 47, 48, 49, 50] (by decide +kernel) (by decide +kernel)
set_option maxRecDepth 20000 in
theorem gX3_put_X3_sizeAt : GoodIn wsX3_put (wsV RX3 58 RX3 yX3_sizeAt wsX3_sizeAt) := goodIn_app (goodIn_of _ (by decide +kernel)) ggX3_put_X3_sizeAt
set_option maxRecDepth 20000 in
theorem ggX3_put_X3_is : GoodIn wsX3_put wsX3_is := goodIn_r _ [12] (by decide +kernel) (by decide +kernel)
set_option maxRecDepth 20000 in
theorem gX3_put_X3_is : GoodIn wsX3_put (wsV RX3 69 RX3 yX3_is wsX3_is) := goodIn_app (goodIn_of _ (by decide +kernel)) ggX3_put_X3_is
set_option maxRecDepth 20000 in
theorem ggX3_put_X3_not : GoodIn wsX3_put wsX3_not := goodIn_r _ [25, 2, 33, 34, 35, 36, 37, 38, 39, 40, 41, 42, 43, 44, 45, 46, 47, 48, 49, 50] (by decide +kernel) (by decide +kernel)
set_option maxRecDepth 20000 in
theorem gX3_put_X3_not : GoodIn wsX3_put (wsV RX3 112 RX3 yX3_not wsX3_not) := goodIn_app (goodIn_of _ (by decide +kernel)) ggX3_put_X3_not
set_option maxRecDepth 20000 in
theorem ggX3_put_X3_write : GoodIn wsX3_put wsX3_write := goodIn_r _ [29, 17, 30, 31, 32, 33, 34, 35, 36, 37, 38, 39, 40, 41, 42, 43, 44, 45, 46, 47, 48, 49, 50] (by decide +kernel) (by decide +kernel)
set_option maxRecDepth 20000 in
theorem gX3_put_X3_write : GoodIn wsX3_put (wsV RX3 98 RX3 yX3_write wsX3_write) := goodIn_app (goodIn_of _ (by decide +kernel)) ggX3_put_X3_write
theorem dX3_put_0 : decode cX3_put 0 = .ok (.aload_n 0, 1) := by decide +kernel
theorem dX3_put_1 : decode cX3_put 1 = .ok (.iconst 0, 1) := by decide +kernel
theorem dX3_put_2 : decode cX3_put 2 = .ok (.putfield 47, 3) := by decide +kernel
theorem dX3_put_5 : decode cX3_put 5 = .ok (.aload_n 0, 1) := by decide +kernel
theorem dX3_put_6 : decode cX3_put 6 = .ok (.iload_n 1, 1) := by decide +kernel
theorem dX3_put_7 : decode cX3_put 7 = .ok (.invokevirtual 102, 3) := by decide +kernel
theorem dX3_put_10 : decode cX3_put 10 = .ok (.ifCond .eq 23, 3) := by decide +kernel
theorem dX3_put_13 : decode cX3_put 13 = .ok (.aload_n 0, 1) := by decide +kernel
theorem dX3_put_14 : decode cX3_put 14 = .ok (.iload_n 2, 1) := by decide +kernel
theorem dX3_put_15 : decode cX3_put 15 = .ok (.aload_n 0, 1) := by decide +kernel
theorem dX3_put_16 : decode cX3_put 16 = .ok (.iload_n 1, 1) := by decide +kernel
theorem dX3_put_17 : decode cX3_put 17 = .ok (.invokevirtual 62, 3) := by decide +kernel
theorem dX3_put_20 : decode cX3_put 20 = .ok (.aload_n 0, 1) := by decide +kernel
theorem dX3_put_21 : decode cX3_put 21 = .ok (.iload_n 1, 1) := by decide +kernel
theorem dX3_put_22 : decode cX3_put 22 = .ok (.invokevirtual 58, 3) := by decide +kernel
theorem dX3_put_25 : decode cX3_put 25 = .ok (.iconst 1, 1) := by decide +kernel
theorem dX3_put_26 : decode cX3_put 26 = .ok (.isub, 1) := by decide +kernel
theorem dX3_put_27 : decode cX3_put 27 = .ok (.invokevirtual 69, 3) := by decide +kernel
theorem dX3_put_30 : decode cX3_put 30 = .ok (.ifCond .ne 9, 3) := by decide +kernel
theorem dX3_put_33 : decode cX3_put 33 = .ok (.aload_n 0, 1) := by decide +kernel
theorem dX3_put_34 : decode cX3_put 34 = .ok (.iconst 2, 1) := by decide +kernel
theorem dX3_put_35 : decode cX3_put 35 = .ok (.invokevirtual 112, 3) := by decide +kernel
theorem dX3_put_38 : decode cX3_put 38 = .ok (.ireturn, 1) := by decide +kernel
theorem dX3_put_39 : decode cX3_put 39 = .ok (.aload_n 0, 1) := by decide +kernel
theorem dX3_put_40 : decode cX3_put 40 = .ok (.iload_n 1, 1) := by decide +kernel
theorem dX3_put_41 : decode cX3_put 41 = .ok (.iconst 1, 1) := by decide +kernel
theorem dX3_put_42 : decode cX3_put 42 = .ok (.iadd, 1) := by decide +kernel
theorem dX3_put_43 : decode cX3_put 43 = .ok (.iload_n 2, 1) := by decide +kernel
theorem dX3_put_44 : decode cX3_put 44 = .ok (.iadd, 1) := by decide +kernel
theorem dX3_put_45 : decode cX3_put 45 = .ok (.iload_n 3, 1) := by decide +kernel
theorem dX3_put_46 : decode cX3_put 46 = .ok (.invokevirtual 98, 3) := by decide +kernel
theorem dX3_put_49 : decode cX3_put 49 = .ok (.aload_n 0, 1) := by decide +kernel
theorem dX3_put_50 : decode cX3_put 50 = .ok (.iconst 0, 1) := by decide +kernel
theorem dX3_put_51 : decode cX3_put 51 = .ok (.putfield 51, 3) := by decide +kernel
theorem dX3_put_54 : decode cX3_put 54 = .ok (.iconst 1, 1) := by decide +kernel
theorem dX3_put_55 : decode cX3_put 55 = .ok (.ireturn, 1) := by decide +kernel
set_option maxRecDepth 20000 in
theorem ggX3_refer_X3_isBlock : GoodIn wsX3_refer wsX3_isBlock := goodIn_r _ [7, 8, 9, 10, 11, 6, 12, 29, 30, 31, 32, 33, 34, 35, 36, 37, 38, 39, 40, 41, 42, 43, 44, 45, 46] (by decide +kernel) (by decide +kernel)
set_option maxRecDepth 20000 in
theorem gX3_refer_X3_isBlock : GoodIn wsX3_refer (wsV RX3 102 RX3 yX3_isBlock wsX3_isBlock) := goodIn_app (goodIn_of _ (by decide +kernel)) ggX3_refer_X3_isBlock
set_option maxRecDepth 20000 in
theorem ggX3_refer_X3_refsAt : GoodIn wsX3_refer wsX3_refsAt := goodIn_r _ [16, 17, 29, 30, 31, 32, 33, 34, 35, 36, 37, 38, 39, 40, 41, 42, 43, 44, 45, 46] (by decide +kernel) (by decide +kernel)
set_option maxRecDepth 20000 in
theorem gX3_refer_X3_refsAt : GoodIn wsX3_refer (wsV RX3 62 RX3 yX3_refsAt wsX3_refsAt) := goodIn_app (goodIn_of _ (by decide +kernel)) ggX3_refer_X3_refsAt
set_option maxRecDepth 20000 in
theorem ggX3_refer_X3_is : GoodIn wsX3_refer wsX3_is := goodIn_r _ [12] (by decide +kernel) (by decide +kernel)
set_option maxRecDepth 20000 in
theorem gX3_refer_X3_is : GoodIn wsX3_refer (wsV RX3 69 RX3 yX3_is wsX3_is) := goodIn_app (goodIn_of _ (by decide +kernel)) ggX3_refer_X3_is
set_option maxRecDepth 20000 in
theorem ggX3_refer_X3_not : GoodIn wsX3_refer wsX3_not := goodIn_r _ [21, 2, 29, 30, 31, 32, 33, 34, 35, 36, 37, 38, 39, 40, 41, 42, 43, 44, 45, 46] (by decide +kernel) (by decide +kernel)
set_option maxRecDepth 20000 in
theorem gX3_refer_X3_not : GoodIn wsX3_refer (wsV RX3 112 RX3 yX3_not wsX3_not) := goodIn_app (goodIn_of _ (by decide +kernel)) ggX3_refer_X3_not
set_option maxRecDepth 20000 in
theorem ggX3_refer_X3_write : GoodIn wsX3_refer wsX3_write := goodIn_r _ [25, 17, 26, 27, 28, 29, 30, 31, 32, 33, 34, 35, 36, 37, 38, 39, 40, 41, 42, 43, 44, 45, 46] (by decide +kernel) (by decide +kernel)
set_option maxRecDepth 20000 in
theorem gX3_refer_X3_write : GoodIn wsX3_refer (wsV RX3 98 RX3 yX3_write wsX3_write) := goodIn_app (goodIn_of _ (by decide +kernel)) ggX3_refer_X3_write
theorem dX3_refer_0 : decode cX3_refer 0 = .ok (.aload_n 0, 1) := by decide +kernel
theorem dX3_refer_1 : decode cX3_refer 1 = .ok (.iconst 0, 1) := by decide +kernel
theorem dX3_refer_2 : decode cX3_refer 2 = .ok (.putfield 47, 3) := by decide +kernel
theorem dX3_refer_5 : decode cX3_refer 5 = .ok (.aload_n 0, 1) := by decide +kernel
theorem dX3_refer_6 : decode cX3_refer 6 = .ok (.iload_n 1, 1) := by decide +kernel
theorem dX3_refer_7 : decode cX3_refer 7 = .ok (.invokevirtual 102, 3) := by decide +kernel
theorem dX3_refer_10 : decode cX3_refer 10 = .ok (.ifCond .eq 31, 3) := by decide +kernel
theorem dX3_refer_13 : decode cX3_refer 13 = .ok (.aload_n 0, 1) := by decide +kernel
theorem dX3_refer_14 : decode cX3_refer 14 = .ok (.iload_n 2, 1) := by decide +kernel
theorem dX3_refer_15 : decode cX3_refer 15 = .ok (.iconst 0, 1) := by decide +kernel
theorem dX3_refer_16 : decode cX3_refer 16 = .ok (.aload_n 0, 1) := by decide +kernel
theorem dX3_refer_17 : decode cX3_refer 17 = .ok (.iload_n 1, 1) := by decide +kernel
theorem dX3_refer_18 : decode cX3_refer 18 = .ok (.invokevirtual 62, 3) := by decide +kernel
theorem dX3_refer_21 : decode cX3_refer 21 = .ok (.iconst 1, 1) := by decide +kernel
theorem dX3_refer_22 : decode cX3_refer 22 = .ok (.isub, 1) := by decide +kernel
theorem dX3_refer_23 : decode cX3_refer 23 = .ok (.invokevirtual 69, 3) := by decide +kernel
theorem dX3_refer_26 : decode cX3_refer 26 = .ok (.ifCond .eq 15, 3) := by decide +kernel
theorem dX3_refer_29 : decode cX3_refer 29 = .ok (.iload_n 3, 1) := by decide +kernel
theorem dX3_refer_30 : decode cX3_refer 30 = .ok (.ifCond .eq 17, 3) := by decide +kernel
theorem dX3_refer_33 : decode cX3_refer 33 = .ok (.aload_n 0, 1) := by decide +kernel
theorem dX3_refer_34 : decode cX3_refer 34 = .ok (.iload_n 3, 1) := by decide +kernel
theorem dX3_refer_35 : decode cX3_refer 35 = .ok (.invokevirtual 102, 3) := by decide +kernel
theorem dX3_refer_38 : decode cX3_refer 38 = .ok (.ifCond .ne 9, 3) := by decide +kernel
theorem dX3_refer_41 : decode cX3_refer 41 = .ok (.aload_n 0, 1) := by decide +kernel
theorem dX3_refer_42 : decode cX3_refer 42 = .ok (.iconst 2, 1) := by decide +kernel
theorem dX3_refer_43 : decode cX3_refer 43 = .ok (.invokevirtual 112, 3) := by decide +kernel
theorem dX3_refer_46 : decode cX3_refer 46 = .ok (.ireturn, 1) := by decide +kernel
theorem dX3_refer_47 : decode cX3_refer 47 = .ok (.aload_n 0, 1) := by decide +kernel
theorem dX3_refer_48 : decode cX3_refer 48 = .ok (.iload_n 1, 1) := by decide +kernel
theorem dX3_refer_49 : decode cX3_refer 49 = .ok (.iconst 1, 1) := by decide +kernel
theorem dX3_refer_50 : decode cX3_refer 50 = .ok (.iadd, 1) := by decide +kernel
theorem dX3_refer_51 : decode cX3_refer 51 = .ok (.iload_n 2, 1) := by decide +kernel
theorem dX3_refer_52 : decode cX3_refer 52 = .ok (.iadd, 1) := by decide +kernel
theorem dX3_refer_53 : decode cX3_refer 53 = .ok (.iload_n 3, 1) := by decide +kernel
theorem dX3_refer_54 : decode cX3_refer 54 = .ok (.invokevirtual 98, 3) := by decide +kernel
theorem dX3_refer_57 : decode cX3_refer 57 = .ok (.aload_n 0, 1) := by decide +kernel
theorem dX3_refer_58 : decode cX3_refer 58 = .ok (.iconst 0, 1) := by decide +kernel
theorem dX3_refer_59 : decode cX3_refer 59 = .ok (.putfield 51, 3) := by decide +kernel
theorem dX3_refer_62 : decode cX3_refer 62 = .ok (.iconst 1, 1) := by decide +kernel
theorem dX3_refer_63 : decode cX3_refer 63 = .ok (.ireturn, 1) := by decide +kernel
set_option maxRecDepth 20000 in
theorem ggX3_get_X3_isBlock : GoodIn wsX3_get wsX3_isBlock := goodIn_r _ [7, 8, 9, 10, 11, 6, 12, 17, 18, 19, 20, 21, 22, 23, 24, 25, 26, 27, 28, 29, 30, 31, 32, 33, 34] (by decide +kernel) (by decide +kernel)
set_option maxRecDepth 20000 in
theorem gX3_get_X3_isBlock : GoodIn wsX3_get (wsV RX3 102 RX3 yX3_isBlock wsX3_isBlock) := goodIn_app (goodIn_of _ (by decide +kernel)) ggX3_get_X3_isBlock
set_option maxRecDepth 20000 in
theorem ggX3_get_X3_sizeAt : GoodIn wsX3_get wsX3_sizeAt := goodIn_r _ [16, 2, 17, 18, 19, 20, 21, 22, 23, 24, 25, 26, 27, 28, 29, 30, 31, 32, 33, 34] (by decide +kernel) (by decide +kernel)
set_option maxRecDepth 20000 in
theorem gX3_get_X3_sizeAt : GoodIn wsX3_get (wsV RX3 58 RX3 yX3_sizeAt wsX3_sizeAt) := goodIn_app (goodIn_of _ (by decide +kernel)) ggX3_get_X3_sizeAt
set_option maxRecDepth 20000 in
theorem ggX3_get_X3_is : GoodIn wsX3_get wsX3_is := goodIn_r _ [12] (by decide +kernel) (by decide +kernel)
set_option maxRecDepth 20000 in
theorem gX3_get_X3_is : GoodIn wsX3_get (wsV RX3 69 RX3 yX3_is wsX3_is) := goodIn_app (goodIn_of _ (by decide +kernel)) ggX3_get_X3_is
theorem dX3_get_0 : decode cX3_get 0 = .ok (.aload_n 0, 1) := by decide +kernel
theorem dX3_get_1 : decode cX3_get 1 = .ok (.iconst 0, 1) := by decide +kernel
theorem dX3_get_2 : decode cX3_get 2 = .ok (.putfield 47, 3) := by decide +kernel
theorem dX3_get_5 : decode cX3_get 5 = .ok (.aload_n 0, 1) := by decide +kernel
theorem dX3_get_6 : decode cX3_get 6 = .ok (.iload_n 1, 1) := by decide +kernel
theorem dX3_get_7 : decode cX3_get 7 = .ok (.invokevirtual 102, 3) := by decide +kernel
theorem dX3_get_10 : decode cX3_get 10 = .ok (.ifCond .eq 32, 3) := by decide +kernel
theorem dX3_get_13 : decode cX3_get 13 = .ok (.aload_n 0, 1) := by decide +kernel
theorem dX3_get_14 : decode cX3_get 14 = .ok (.iload_n 2, 1) := by decide +kernel
theorem dX3_get_15 : decode cX3_get 15 = .ok (.iconst 0, 1) := by decide +kernel
theorem dX3_get_16 : decode cX3_get 16 = .ok (.aload_n 0, 1) := by decide +kernel
theorem dX3_get_17 : decode cX3_get 17 = .ok (.iload_n 1, 1) := by decide +kernel
theorem dX3_get_18 : decode cX3_get 18 = .ok (.invokevirtual 58, 3) := by decide +kernel
theorem dX3_get_21 : decode cX3_get 21 = .ok (.iconst 1, 1) := by decide +kernel
theorem dX3_get_22 : decode cX3_get 22 = .ok (.isub, 1) := by decide +kernel
theorem dX3_get_23 : decode cX3_get 23 = .ok (.invokevirtual 69, 3) := by decide +kernel
theorem dX3_get_26 : decode cX3_get 26 = .ok (.ifCond .eq 16, 3) := by decide +kernel
theorem dX3_get_29 : decode cX3_get 29 = .ok (.aload_n 0, 1) := by decide +kernel
theorem dX3_get_30 : decode cX3_get 30 = .ok (.getfield 7, 3) := by decide +kernel
theorem dX3_get_33 : decode cX3_get 33 = .ok (.iload_n 1, 1) := by decide +kernel
theorem dX3_get_34 : decode cX3_get 34 = .ok (.iconst 1, 1) := by decide +kernel
theorem dX3_get_35 : decode cX3_get 35 = .ok (.iadd, 1) := by decide +kernel
theorem dX3_get_36 : decode cX3_get 36 = .ok (.iload_n 2, 1) := by decide +kernel
theorem dX3_get_37 : decode cX3_get 37 = .ok (.iadd, 1) := by decide +kernel
theorem dX3_get_38 : decode cX3_get 38 = .ok (.iaload, 1) := by decide +kernel
theorem dX3_get_39 : decode cX3_get 39 = .ok (.goto 4, 3) := by decide +kernel
theorem dX3_get_42 : decode cX3_get 42 = .ok (.iconst 0, 1) := by decide +kernel
theorem dX3_get_43 : decode cX3_get 43 = .ok (.ireturn, 1) := by decide +kernel
set_option maxRecDepth 20000 in
theorem ggX3_root_X3_is : GoodIn wsX3_root wsX3_is := goodIn_r _ [7] (by decide +kernel) (by decide +kernel)
set_option maxRecDepth 20000 in
theorem gX3_root_X3_is : GoodIn wsX3_root (wsV RX3 69 RX3 yX3_is wsX3_is) := goodIn_app (goodIn_of _ (by decide +kernel)) ggX3_root_X3_is
set_option maxRecDepth 20000 in
theorem ggX3_root_X3_isBlock : GoodIn wsX3_root wsX3_isBlock := goodIn_r _ [11, 12, 3, 4, 5, 6, 7, 25, 26, 27, 28, 29, 30, 31, 32, 33, 34, 35, 36, 37, 38, 39, 40, 41, 42] (by decide +kernel) (by decide +kernel)
set_option maxRecDepth 20000 in
theorem gX3_root_X3_isBlock : GoodIn wsX3_root (wsV RX3 102 RX3 yX3_isBlock wsX3_isBlock) := goodIn_app (goodIn_of _ (by decide +kernel)) ggX3_root_X3_isBlock
set_option maxRecDepth 20000 in
theorem ggX3_root_X3_not : GoodIn wsX3_root wsX3_not := goodIn_r _ [16, 2, 25, 26, 27, 28, 29, 30, 31, 32, 33, 34, 35, 36, 37, 38, 39, 40, 41, 42] (by decide +kernel) (by decide +kernel)
set_option maxRecDepth 20000 in
theorem gX3_root_X3_not : GoodIn wsX3_root (wsV RX3 112 RX3 yX3_not wsX3_not) := goodIn_app (goodIn_of _ (by decide +kernel)) ggX3_root_X3_not
set_option maxRecDepth 20000 in
theorem ggX3_root_X3_write : GoodIn wsX3_root wsX3_write := goodIn_r _ [20, 21, 22, 23, 24, 25, 26, 27, 28, 29, 30, 31, 32, 33, 34, 35, 36, 37, 38, 39, 40, 41, 42] (by decide +kernel) (by decide +kernel)
set_option maxRecDepth 20000 in
theorem gX3_root_X3_write : GoodIn wsX3_root (wsV RX3 98 RX3 yX3_write wsX3_write) := goodIn_app (goodIn_of _ (by decide +kernel)) ggX3_root_X3_write
theorem dX3_root_0 : decode cX3_root 0 = .ok (.aload_n 0, 1) := by decide +kernel
theorem dX3_root_1 : decode cX3_root 1 = .ok (.iconst 0, 1) := by decide +kernel
theorem dX3_root_2 : decode cX3_root 2 = .ok (.putfield 47, 3) := by decide +kernel
theorem dX3_root_5 : decode cX3_root 5 = .ok (.aload_n 0, 1) := by decide +kernel
theorem dX3_root_6 : decode cX3_root 6 = .ok (.iload_n 1, 1) := by decide +kernel
theorem dX3_root_7 : decode cX3_root 7 = .ok (.iconst 0, 1) := by decide +kernel
theorem dX3_root_8 : decode cX3_root 8 = .ok (.bipush 7, 2) := by decide +kernel
theorem dX3_root_10 : decode cX3_root 10 = .ok (.invokevirtual 69, 3) := by decide +kernel
theorem dX3_root_13 : decode cX3_root 13 = .ok (.ifCond .eq 15, 3) := by decide +kernel
theorem dX3_root_16 : decode cX3_root 16 = .ok (.iload_n 2, 1) := by decide +kernel
theorem dX3_root_17 : decode cX3_root 17 = .ok (.ifCond .eq 17, 3) := by decide +kernel
theorem dX3_root_20 : decode cX3_root 20 = .ok (.aload_n 0, 1) := by decide +kernel
theorem dX3_root_21 : decode cX3_root 21 = .ok (.iload_n 2, 1) := by decide +kernel
theorem dX3_root_22 : decode cX3_root 22 = .ok (.invokevirtual 102, 3) := by decide +kernel
theorem dX3_root_25 : decode cX3_root 25 = .ok (.ifCond .ne 9, 3) := by decide +kernel
theorem dX3_root_28 : decode cX3_root 28 = .ok (.aload_n 0, 1) := by decide +kernel
theorem dX3_root_29 : decode cX3_root 29 = .ok (.iconst 2, 1) := by decide +kernel
theorem dX3_root_30 : decode cX3_root 30 = .ok (.invokevirtual 112, 3) := by decide +kernel
theorem dX3_root_33 : decode cX3_root 33 = .ok (.ireturn, 1) := by decide +kernel
theorem dX3_root_34 : decode cX3_root 34 = .ok (.aload_n 0, 1) := by decide +kernel
theorem dX3_root_35 : decode cX3_root 35 = .ok (.iconst 1, 1) := by decide +kernel
theorem dX3_root_36 : decode cX3_root 36 = .ok (.iload_n 1, 1) := by decide +kernel
theorem dX3_root_37 : decode cX3_root 37 = .ok (.iadd, 1) := by decide +kernel
theorem dX3_root_38 : decode cX3_root 38 = .ok (.iload_n 2, 1) := by decide +kernel
theorem dX3_root_39 : decode cX3_root 39 = .ok (.invokevirtual 98, 3) := by decide +kernel
theorem dX3_root_42 : decode cX3_root 42 = .ok (.aload_n 0, 1) := by decide +kernel
theorem dX3_root_43 : decode cX3_root 43 = .ok (.iconst 0, 1) := by decide +kernel
theorem dX3_root_44 : decode cX3_root 44 = .ok (.putfield 51, 3) := by decide +kernel
theorem dX3_root_47 : decode cX3_root 47 = .ok (.iconst 1, 1) := by decide +kernel
theorem dX3_root_48 : decode cX3_root 48 = .ok (.ireturn, 1) := by decide +kernel
set_option maxRecDepth 20000 in
theorem ggX3_rootOf_X3_is : GoodIn wsX3_rootOf wsX3_is := goodIn_r _ [7] (by decide +kernel) (by decide +kernel)
set_option maxRecDepth 20000 in
theorem gX3_rootOf_X3_is : GoodIn wsX3_rootOf (wsV RX3 69 RX3 yX3_is wsX3_is) := goodIn_app (goodIn_of _ (by decide +kernel)) ggX3_rootOf_X3_is
theorem dX3_rootOf_0 : decode cX3_rootOf 0 = .ok (.aload_n 0, 1) := by decide +kernel
theorem dX3_rootOf_1 : decode cX3_rootOf 1 = .ok (.iconst 0, 1) := by decide +kernel
theorem dX3_rootOf_2 : decode cX3_rootOf 2 = .ok (.putfield 47, 3) := by decide +kernel
theorem dX3_rootOf_5 : decode cX3_rootOf 5 = .ok (.aload_n 0, 1) := by decide +kernel
theorem dX3_rootOf_6 : decode cX3_rootOf 6 = .ok (.iload_n 1, 1) := by decide +kernel
theorem dX3_rootOf_7 : decode cX3_rootOf 7 = .ok (.iconst 0, 1) := by decide +kernel
theorem dX3_rootOf_8 : decode cX3_rootOf 8 = .ok (.bipush 7, 2) := by decide +kernel
theorem dX3_rootOf_10 : decode cX3_rootOf 10 = .ok (.invokevirtual 69, 3) := by decide +kernel
theorem dX3_rootOf_13 : decode cX3_rootOf 13 = .ok (.ifCond .eq 14, 3) := by decide +kernel
theorem dX3_rootOf_16 : decode cX3_rootOf 16 = .ok (.aload_n 0, 1) := by decide +kernel
theorem dX3_rootOf_17 : decode cX3_rootOf 17 = .ok (.getfield 7, 3) := by decide +kernel
theorem dX3_rootOf_20 : decode cX3_rootOf 20 = .ok (.iconst 1, 1) := by decide +kernel
theorem dX3_rootOf_21 : decode cX3_rootOf 21 = .ok (.iload_n 1, 1) := by decide +kernel
theorem dX3_rootOf_22 : decode cX3_rootOf 22 = .ok (.iadd, 1) := by decide +kernel
theorem dX3_rootOf_23 : decode cX3_rootOf 23 = .ok (.iaload, 1) := by decide +kernel
theorem dX3_rootOf_24 : decode cX3_rootOf 24 = .ok (.goto 4, 3) := by decide +kernel
theorem dX3_rootOf_27 : decode cX3_rootOf 27 = .ok (.iconst (-1), 1) := by decide +kernel
theorem dX3_rootOf_28 : decode cX3_rootOf 28 = .ok (.ireturn, 1) := by decide +kernel
theorem dX3_keepLine_0 : decode cX3_keepLine 0 = .ok (.bipush 8, 2) := by decide +kernel
theorem dX3_keepLine_2 : decode cX3_keepLine 2 = .ok (.iload_n 1, 1) := by decide +kernel
theorem dX3_keepLine_3 : decode cX3_keepLine 3 = .ok (.imul, 1) := by decide +kernel
theorem dX3_keepLine_4 : decode cX3_keepLine 4 = .ok (.istore_n 2, 1) := by decide +kernel
theorem dX3_keepLine_5 : decode cX3_keepLine 5 = .ok (.iload_n 2, 1) := by decide +kernel
theorem dX3_keepLine_6 : decode cX3_keepLine 6 = .ok (.bipush 8, 2) := by decide +kernel
theorem dX3_keepLine_8 : decode cX3_keepLine 8 = .ok (.iload_n 1, 1) := by decide +kernel
theorem dX3_keepLine_9 : decode cX3_keepLine 9 = .ok (.imul, 1) := by decide +kernel
theorem dX3_keepLine_10 : decode cX3_keepLine 10 = .ok (.bipush 8, 2) := by decide +kernel
theorem dX3_keepLine_12 : decode cX3_keepLine 12 = .ok (.iadd, 1) := by decide +kernel
theorem dX3_keepLine_13 : decode cX3_keepLine 13 = .ok (.if_icmp .ge 21, 3) := by decide +kernel
theorem dX3_keepLine_16 : decode cX3_keepLine 16 = .ok (.aload_n 0, 1) := by decide +kernel
theorem dX3_keepLine_17 : decode cX3_keepLine 17 = .ok (.getfield 13, 3) := by decide +kernel
theorem dX3_keepLine_20 : decode cX3_keepLine 20 = .ok (.iload_n 2, 1) := by decide +kernel
theorem dX3_keepLine_21 : decode cX3_keepLine 21 = .ok (.aload_n 0, 1) := by decide +kernel
theorem dX3_keepLine_22 : decode cX3_keepLine 22 = .ok (.getfield 7, 3) := by decide +kernel
theorem dX3_keepLine_25 : decode cX3_keepLine 25 = .ok (.iload_n 2, 1) := by decide +kernel
theorem dX3_keepLine_26 : decode cX3_keepLine 26 = .ok (.iaload, 1) := by decide +kernel
theorem dX3_keepLine_27 : decode cX3_keepLine 27 = .ok (.iastore, 1) := by decide +kernel
theorem dX3_keepLine_28 : decode cX3_keepLine 28 = .ok (.iinc 2 1, 3) := by decide +kernel
theorem dX3_keepLine_31 : decode cX3_keepLine 31 = .ok (.goto (-26), 3) := by decide +kernel
theorem dX3_keepLine_34 : decode cX3_keepLine 34 = .ok (.return_, 1) := by decide +kernel
theorem dX3_nothingWaits_0 : decode cX3_nothingWaits 0 = .ok (.iconst 0, 1) := by decide +kernel
theorem dX3_nothingWaits_1 : decode cX3_nothingWaits 1 = .ok (.istore_n 1, 1) := by decide +kernel
theorem dX3_nothingWaits_2 : decode cX3_nothingWaits 2 = .ok (.iload_n 1, 1) := by decide +kernel
theorem dX3_nothingWaits_3 : decode cX3_nothingWaits 3 = .ok (.sipush 512, 3) := by decide +kernel
theorem dX3_nothingWaits_6 : decode cX3_nothingWaits 6 = .ok (.if_icmp .ge 16, 3) := by decide +kernel
theorem dX3_nothingWaits_9 : decode cX3_nothingWaits 9 = .ok (.aload_n 0, 1) := by decide +kernel
theorem dX3_nothingWaits_10 : decode cX3_nothingWaits 10 = .ok (.getfield 20, 3) := by decide +kernel
theorem dX3_nothingWaits_13 : decode cX3_nothingWaits 13 = .ok (.iload_n 1, 1) := by decide +kernel
theorem dX3_nothingWaits_14 : decode cX3_nothingWaits 14 = .ok (.iconst 0, 1) := by decide +kernel
theorem dX3_nothingWaits_15 : decode cX3_nothingWaits 15 = .ok (.bastore, 1) := by decide +kernel
theorem dX3_nothingWaits_16 : decode cX3_nothingWaits 16 = .ok (.iinc 1 1, 3) := by decide +kernel
theorem dX3_nothingWaits_19 : decode cX3_nothingWaits 19 = .ok (.goto (-17), 3) := by decide +kernel
theorem dX3_nothingWaits_22 : decode cX3_nothingWaits 22 = .ok (.aload_n 0, 1) := by decide +kernel
theorem dX3_nothingWaits_23 : decode cX3_nothingWaits 23 = .ok (.iconst 0, 1) := by decide +kernel
theorem dX3_nothingWaits_24 : decode cX3_nothingWaits 24 = .ok (.putfield 54, 3) := by decide +kernel
theorem dX3_nothingWaits_27 : decode cX3_nothingWaits 27 = .ok (.return_, 1) := by decide +kernel
set_option maxRecDepth 20000 in
theorem ggX3_fence_X3_keepLine : GoodIn wsX3_fence wsX3_keepLine := goodIn_r _ [8, 9, 10, 16, 17, 18, 19, 20, 21, 22, 23, 24, 25, 26, 27, 28, 29, 30, 31, 32, 33] (by decide +kernel) (by decide +kernel)
set_option maxRecDepth 20000 in
theorem gX3_fence_X3_keepLine : GoodIn wsX3_fence (wsV RX3 115 RX3 yX3_keepLine wsX3_keepLine) := goodIn_app (goodIn_of _ (by decide +kernel)) ggX3_fence_X3_keepLine
set_option maxRecDepth 20000 in
theorem ggX3_fence_X3_nothingWaits : GoodIn wsX3_fence wsX3_nothingWaits := goodIn_r _ [14, 15, 2, 16, 17, 18, 19, 20, 21, 22, 23, 24, 25, 26, 27, 28, 29, 30, 31, 32, 33] (by decide +kernel) (by decide +kernel)
set_option maxRecDepth 20000 in
theorem gX3_fence_X3_nothingWaits : GoodIn wsX3_fence (wsV RX3 119 RX3 yX3_nothingWaits wsX3_nothingWaits) := goodIn_app (goodIn_of _ (by decide +kernel)) ggX3_fence_X3_nothingWaits
theorem dX3_fence_0 : decode cX3_fence 0 = .ok (.aload_n 0, 1) := by decide +kernel
theorem dX3_fence_1 : decode cX3_fence 1 = .ok (.iconst 0, 1) := by decide +kernel
theorem dX3_fence_2 : decode cX3_fence 2 = .ok (.putfield 47, 3) := by decide +kernel
theorem dX3_fence_5 : decode cX3_fence 5 = .ok (.aload_n 0, 1) := by decide +kernel
theorem dX3_fence_6 : decode cX3_fence 6 = .ok (.getfield 54, 3) := by decide +kernel
theorem dX3_fence_9 : decode cX3_fence 9 = .ok (.istore_n 1, 1) := by decide +kernel
theorem dX3_fence_10 : decode cX3_fence 10 = .ok (.iconst 0, 1) := by decide +kernel
theorem dX3_fence_11 : decode cX3_fence 11 = .ok (.istore_n 2, 1) := by decide +kernel
theorem dX3_fence_12 : decode cX3_fence 12 = .ok (.iload_n 2, 1) := by decide +kernel
theorem dX3_fence_13 : decode cX3_fence 13 = .ok (.aload_n 0, 1) := by decide +kernel
theorem dX3_fence_14 : decode cX3_fence 14 = .ok (.getfield 54, 3) := by decide +kernel
theorem dX3_fence_17 : decode cX3_fence 17 = .ok (.if_icmp .ge 19, 3) := by decide +kernel
theorem dX3_fence_20 : decode cX3_fence 20 = .ok (.aload_n 0, 1) := by decide +kernel
theorem dX3_fence_21 : decode cX3_fence 21 = .ok (.aload_n 0, 1) := by decide +kernel
theorem dX3_fence_22 : decode cX3_fence 22 = .ok (.getfield 23, 3) := by decide +kernel
theorem dX3_fence_25 : decode cX3_fence 25 = .ok (.iload_n 2, 1) := by decide +kernel
theorem dX3_fence_26 : decode cX3_fence 26 = .ok (.iaload, 1) := by decide +kernel
theorem dX3_fence_27 : decode cX3_fence 27 = .ok (.invokevirtual 115, 3) := by decide +kernel
theorem dX3_fence_30 : decode cX3_fence 30 = .ok (.iinc 2 1, 3) := by decide +kernel
theorem dX3_fence_33 : decode cX3_fence 33 = .ok (.goto (-21), 3) := by decide +kernel
theorem dX3_fence_36 : decode cX3_fence 36 = .ok (.aload_n 0, 1) := by decide +kernel
theorem dX3_fence_37 : decode cX3_fence 37 = .ok (.invokevirtual 119, 3) := by decide +kernel
theorem dX3_fence_40 : decode cX3_fence 40 = .ok (.iload_n 1, 1) := by decide +kernel
theorem dX3_fence_41 : decode cX3_fence 41 = .ok (.ireturn, 1) := by decide +kernel
set_option maxRecDepth 20000 in
theorem ggX3_crash_X3_keepLine : GoodIn wsX3_crash wsX3_keepLine := goodIn_r _ [15, 5, 4, 79, 80, 81, 82, 83, 84, 85, 86, 87, 88, 89, 90, 91, 92, 93, 94, 95, 96] (by decide +kernel) (by decide +kernel)
set_option maxRecDepth 20000 in
theorem gX3_crash_X3_keepLine : GoodIn wsX3_crash (wsV RX3 115 RX3 yX3_keepLine wsX3_keepLine) := goodIn_app (goodIn_of _ (by decide +kernel)) ggX3_crash_X3_keepLine
set_option maxRecDepth 20000 in
theorem ggX3_crash_X3_nothingWaits : GoodIn wsX3_crash wsX3_nothingWaits := goodIn_r _ [19, 20, 2, 79, 80, 81, 82, 83, 84, 85, 86, 87, 88, 89, 90, 91, 92, 93, 94, 95, 96] (by decide +kernel) (by decide +kernel)
set_option maxRecDepth 20000 in
theorem gX3_crash_X3_nothingWaits : GoodIn wsX3_crash (wsV RX3 119 RX3 yX3_nothingWaits wsX3_nothingWaits) := goodIn_app (goodIn_of _ (by decide +kernel)) ggX3_crash_X3_nothingWaits
set_option maxRecDepth 20000 in
theorem ggX3_crash_X3_look : GoodIn wsX3_crash wsX3_look := goodIn_r _ [24, 4, 6, 10, 9, 8, 25, 26, 27, 14, 28, 29, 30, 31, 32, 33, 34, 35, 36, 37, 38, 39, 40, 41, 42, 43, 44, 45, 46, 47, 48, 49, 50, 51, 52, 53, 54, 55, 56, 57, 58, 59, 60, 61, 62, 63, 64, 65, 66, 67, 68, 69, 70, 71, 72, 73, 74, 75, 76, 77, 78, 20, 3, 2, 79, 80, 81, 82, 83, 84, 85, 86, 87, 88, 89, 90, 91, 92, 93, 94, 95, 96] (by decide +kernel) (by decide +kernel)
set_option maxRecDepth 20000 in
theorem gX3_crash_X3_look : GoodIn wsX3_crash (wsV RX3 131 RX3 yX3_look wsX3_look) := goodIn_app (goodIn_of _ (by decide +kernel)) ggX3_crash_X3_look
set_option maxRecDepth 20000 in
theorem ggX3_crash_X3_refsAt : GoodIn wsX3_crash wsX3_refsAt := goodIn_r _ [50, 4, 79, 80, 81, 82, 83, 84, 85, 86, 87, 88, 89, 90, 91, 92, 93, 94, 95, 96] (by decide +kernel) (by decide +kernel)
set_option maxRecDepth 20000 in
theorem gX3_crash_X3_refsAt : GoodIn wsX3_crash (wsV RX3 62 RX3 yX3_refsAt wsX3_refsAt) := goodIn_app (goodIn_of _ (by decide +kernel)) ggX3_crash_X3_refsAt
theorem dX3_crash_0 : decode cX3_crash 0 = .ok (.aload_n 0, 1) := by decide +kernel
theorem dX3_crash_1 : decode cX3_crash 1 = .ok (.iconst 0, 1) := by decide +kernel
theorem dX3_crash_2 : decode cX3_crash 2 = .ok (.putfield 47, 3) := by decide +kernel
theorem dX3_crash_5 : decode cX3_crash 5 = .ok (.iconst 0, 1) := by decide +kernel
theorem dX3_crash_6 : decode cX3_crash 6 = .ok (.istore_n 2, 1) := by decide +kernel
theorem dX3_crash_7 : decode cX3_crash 7 = .ok (.iload_n 2, 1) := by decide +kernel
theorem dX3_crash_8 : decode cX3_crash 8 = .ok (.aload_n 0, 1) := by decide +kernel
theorem dX3_crash_9 : decode cX3_crash 9 = .ok (.getfield 54, 3) := by decide +kernel
theorem dX3_crash_12 : decode cX3_crash 12 = .ok (.if_icmp .ge 31, 3) := by decide +kernel
theorem dX3_crash_15 : decode cX3_crash 15 = .ok (.iload_n 1, 1) := by decide +kernel
theorem dX3_crash_16 : decode cX3_crash 16 = .ok (.iload_n 2, 1) := by decide +kernel
theorem dX3_crash_17 : decode cX3_crash 17 = .ok (.bipush 32, 2) := by decide +kernel
theorem dX3_crash_19 : decode cX3_crash 19 = .ok (.irem, 1) := by decide +kernel
theorem dX3_crash_20 : decode cX3_crash 20 = .ok (.ishr, 1) := by decide +kernel
theorem dX3_crash_21 : decode cX3_crash 21 = .ok (.iconst 1, 1) := by decide +kernel
theorem dX3_crash_22 : decode cX3_crash 22 = .ok (.iand, 1) := by decide +kernel
theorem dX3_crash_23 : decode cX3_crash 23 = .ok (.iconst 1, 1) := by decide +kernel
theorem dX3_crash_24 : decode cX3_crash 24 = .ok (.if_icmp .ne 13, 3) := by decide +kernel
theorem dX3_crash_27 : decode cX3_crash 27 = .ok (.aload_n 0, 1) := by decide +kernel
theorem dX3_crash_28 : decode cX3_crash 28 = .ok (.aload_n 0, 1) := by decide +kernel
theorem dX3_crash_29 : decode cX3_crash 29 = .ok (.getfield 23, 3) := by decide +kernel
theorem dX3_crash_32 : decode cX3_crash 32 = .ok (.iload_n 2, 1) := by decide +kernel
theorem dX3_crash_33 : decode cX3_crash 33 = .ok (.iaload, 1) := by decide +kernel
theorem dX3_crash_34 : decode cX3_crash 34 = .ok (.invokevirtual 115, 3) := by decide +kernel
theorem dX3_crash_37 : decode cX3_crash 37 = .ok (.iinc 2 1, 3) := by decide +kernel
theorem dX3_crash_40 : decode cX3_crash 40 = .ok (.goto (-33), 3) := by decide +kernel
theorem dX3_crash_43 : decode cX3_crash 43 = .ok (.iconst 0, 1) := by decide +kernel
theorem dX3_crash_44 : decode cX3_crash 44 = .ok (.istore_n 2, 1) := by decide +kernel
theorem dX3_crash_45 : decode cX3_crash 45 = .ok (.iload_n 2, 1) := by decide +kernel
theorem dX3_crash_46 : decode cX3_crash 46 = .ok (.sipush 4096, 3) := by decide +kernel
theorem dX3_crash_49 : decode cX3_crash 49 = .ok (.if_icmp .ge 28, 3) := by decide +kernel
theorem dX3_crash_52 : decode cX3_crash 52 = .ok (.aload_n 0, 1) := by decide +kernel
theorem dX3_crash_53 : decode cX3_crash 53 = .ok (.getfield 7, 3) := by decide +kernel
theorem dX3_crash_56 : decode cX3_crash 56 = .ok (.iload_n 2, 1) := by decide +kernel
theorem dX3_crash_57 : decode cX3_crash 57 = .ok (.aload_n 0, 1) := by decide +kernel
theorem dX3_crash_58 : decode cX3_crash 58 = .ok (.getfield 13, 3) := by decide +kernel
theorem dX3_crash_61 : decode cX3_crash 61 = .ok (.iload_n 2, 1) := by decide +kernel
theorem dX3_crash_62 : decode cX3_crash 62 = .ok (.iaload, 1) := by decide +kernel
theorem dX3_crash_63 : decode cX3_crash 63 = .ok (.iastore, 1) := by decide +kernel
theorem dX3_crash_64 : decode cX3_crash 64 = .ok (.aload_n 0, 1) := by decide +kernel
theorem dX3_crash_65 : decode cX3_crash 65 = .ok (.getfield 16, 3) := by decide +kernel
theorem dX3_crash_68 : decode cX3_crash 68 = .ok (.iload_n 2, 1) := by decide +kernel
theorem dX3_crash_69 : decode cX3_crash 69 = .ok (.iconst 0, 1) := by decide +kernel
theorem dX3_crash_70 : decode cX3_crash 70 = .ok (.bastore, 1) := by decide +kernel
theorem dX3_crash_71 : decode cX3_crash 71 = .ok (.iinc 2 1, 3) := by decide +kernel
theorem dX3_crash_74 : decode cX3_crash 74 = .ok (.goto (-29), 3) := by decide +kernel
theorem dX3_crash_77 : decode cX3_crash 77 = .ok (.aload_n 0, 1) := by decide +kernel
theorem dX3_crash_78 : decode cX3_crash 78 = .ok (.invokevirtual 119, 3) := by decide +kernel
theorem dX3_crash_81 : decode cX3_crash 81 = .ok (.aload_n 0, 1) := by decide +kernel
theorem dX3_crash_82 : decode cX3_crash 82 = .ok (.dup, 1) := by decide +kernel
theorem dX3_crash_83 : decode cX3_crash 83 = .ok (.getfield 122, 3) := by decide +kernel
theorem dX3_crash_86 : decode cX3_crash 86 = .ok (.iconst 1, 1) := by decide +kernel
theorem dX3_crash_87 : decode cX3_crash 87 = .ok (.iadd, 1) := by decide +kernel
theorem dX3_crash_88 : decode cX3_crash 88 = .ok (.putfield 122, 3) := by decide +kernel
theorem dX3_crash_91 : decode cX3_crash 91 = .ok (.aload_n 0, 1) := by decide +kernel
theorem dX3_crash_92 : decode cX3_crash 92 = .ok (.iconst 0, 1) := by decide +kernel
theorem dX3_crash_93 : decode cX3_crash 93 = .ok (.putfield 125, 3) := by decide +kernel
theorem dX3_crash_96 : decode cX3_crash 96 = .ok (.aload_n 0, 1) := by decide +kernel
theorem dX3_crash_97 : decode cX3_crash 97 = .ok (.iconst 0, 1) := by decide +kernel
theorem dX3_crash_98 : decode cX3_crash 98 = .ok (.putfield 128, 3) := by decide +kernel
theorem dX3_crash_101 : decode cX3_crash 101 = .ok (.iconst 1, 1) := by decide +kernel
theorem dX3_crash_102 : decode cX3_crash 102 = .ok (.istore_n 2, 1) := by decide +kernel
theorem dX3_crash_103 : decode cX3_crash 103 = .ok (.iload_n 2, 1) := by decide +kernel
theorem dX3_crash_104 : decode cX3_crash 104 = .ok (.bipush 8, 2) := by decide +kernel
theorem dX3_crash_106 : decode cX3_crash 106 = .ok (.if_icmp .gt 14, 3) := by decide +kernel
theorem dX3_crash_109 : decode cX3_crash 109 = .ok (.aload_n 0, 1) := by decide +kernel
theorem dX3_crash_110 : decode cX3_crash 110 = .ok (.iload_n 2, 1) := by decide +kernel
theorem dX3_crash_111 : decode cX3_crash 111 = .ok (.invokevirtual 131, 3) := by decide +kernel
theorem dX3_crash_114 : decode cX3_crash 114 = .ok (.iinc 2 1, 3) := by decide +kernel
theorem dX3_crash_117 : decode cX3_crash 117 = .ok (.goto (-14), 3) := by decide +kernel
theorem dX3_crash_120 : decode cX3_crash 120 = .ok (.iconst 0, 1) := by decide +kernel
theorem dX3_crash_121 : decode cX3_crash 121 = .ok (.istore_n 2, 1) := by decide +kernel
theorem dX3_crash_122 : decode cX3_crash 122 = .ok (.iload_n 2, 1) := by decide +kernel
theorem dX3_crash_123 : decode cX3_crash 123 = .ok (.aload_n 0, 1) := by decide +kernel
theorem dX3_crash_124 : decode cX3_crash 124 = .ok (.getfield 128, 3) := by decide +kernel
theorem dX3_crash_127 : decode cX3_crash 127 = .ok (.if_icmp .ge 45, 3) := by decide +kernel
theorem dX3_crash_130 : decode cX3_crash 130 = .ok (.iconst 0, 1) := by decide +kernel
theorem dX3_crash_131 : decode cX3_crash 131 = .ok (.istore_n 3, 1) := by decide +kernel
theorem dX3_crash_132 : decode cX3_crash 132 = .ok (.iload_n 3, 1) := by decide +kernel
theorem dX3_crash_133 : decode cX3_crash 133 = .ok (.aload_n 0, 1) := by decide +kernel
theorem dX3_crash_134 : decode cX3_crash 134 = .ok (.aload_n 0, 1) := by decide +kernel
theorem dX3_crash_135 : decode cX3_crash 135 = .ok (.getfield 41, 3) := by decide +kernel
theorem dX3_crash_138 : decode cX3_crash 138 = .ok (.iload_n 2, 1) := by decide +kernel
theorem dX3_crash_139 : decode cX3_crash 139 = .ok (.iaload, 1) := by decide +kernel
theorem dX3_crash_140 : decode cX3_crash 140 = .ok (.invokevirtual 62, 3) := by decide +kernel
theorem dX3_crash_143 : decode cX3_crash 143 = .ok (.if_icmp .ge 23, 3) := by decide +kernel
theorem dX3_crash_146 : decode cX3_crash 146 = .ok (.aload_n 0, 1) := by decide +kernel
theorem dX3_crash_147 : decode cX3_crash 147 = .ok (.aload_n 0, 1) := by decide +kernel
theorem dX3_crash_148 : decode cX3_crash 148 = .ok (.getfield 41, 3) := by decide +kernel
theorem dX3_crash_151 : decode cX3_crash 151 = .ok (.iload_n 2, 1) := by decide +kernel
theorem dX3_crash_152 : decode cX3_crash 152 = .ok (.iaload, 1) := by decide +kernel
theorem dX3_crash_153 : decode cX3_crash 153 = .ok (.iconst 1, 1) := by decide +kernel
theorem dX3_crash_154 : decode cX3_crash 154 = .ok (.iadd, 1) := by decide +kernel
theorem dX3_crash_155 : decode cX3_crash 155 = .ok (.iload_n 3, 1) := by decide +kernel
theorem dX3_crash_156 : decode cX3_crash 156 = .ok (.iadd, 1) := by decide +kernel
theorem dX3_crash_157 : decode cX3_crash 157 = .ok (.invokevirtual 131, 3) := by decide +kernel
theorem dX3_crash_160 : decode cX3_crash 160 = .ok (.iinc 3 1, 3) := by decide +kernel
theorem dX3_crash_163 : decode cX3_crash 163 = .ok (.goto (-31), 3) := by decide +kernel
theorem dX3_crash_166 : decode cX3_crash 166 = .ok (.iinc 2 1, 3) := by decide +kernel
theorem dX3_crash_169 : decode cX3_crash 169 = .ok (.goto (-47), 3) := by decide +kernel
theorem dX3_crash_172 : decode cX3_crash 172 = .ok (.aload_n 0, 1) := by decide +kernel
theorem dX3_crash_173 : decode cX3_crash 173 = .ok (.getfield 128, 3) := by decide +kernel
theorem dX3_crash_176 : decode cX3_crash 176 = .ok (.ireturn, 1) := by decide +kernel
set_option maxRecDepth 20000 in
theorem ggX3_look_X3_isBlock : GoodIn wsX3_look wsX3_isBlock := goodIn_r _ [10, 2, 11, 12, 13, 9, 14, 64, 65, 66, 67, 68, 69, 70, 71, 72, 73, 74, 75, 76, 77, 78, 79, 80, 81] (by decide +kernel) (by decide +kernel)
set_option maxRecDepth 20000 in
theorem gX3_look_X3_isBlock : GoodIn wsX3_look (wsV RX3 102 RX3 yX3_isBlock wsX3_isBlock) := goodIn_app (goodIn_of _ (by decide +kernel)) ggX3_look_X3_isBlock
set_option maxRecDepth 20000 in
theorem ggX3_look_X3_fits : GoodIn wsX3_look wsX3_fits := goodIn_r _ [18, 19, 20, 11, 12, 13, 9, 14, 21, 22, 23, 24, 1, 25, 26, 27, 28, 29, 30, 31, 32, 33, 34, 35, 36, 37, 38, 39, 40, 41, 42, 43, 44, 2, 45, 46, 47, 48, 49, 50, 51, 52, 53, 54, 55, 56, 64, 65, 66, 67, 68, 69, 70, 71, 72, 73, 74, 75, 76, 77, 78, 79, 80, 81] (by decide +kernel) (by decide +kernel)
set_option maxRecDepth 20000 in
theorem gX3_look_X3_fits : GoodIn wsX3_look (wsV RX3 134 RX3 yX3_fits wsX3_fits) := goodIn_app (goodIn_of _ (by decide +kernel)) ggX3_look_X3_fits
set_option maxRecDepth 20000 in
theorem ggX3_look_X3_write : GoodIn wsX3_look wsX3_write := goodIn_r _ [60, 1, 61, 62, 63, 64, 65, 66, 67, 68, 69, 70, 71, 72, 73, 74, 75, 76, 77, 78, 79, 80, 81] (by decide +kernel) (by decide +kernel)
set_option maxRecDepth 20000 in
theorem gX3_look_X3_write : GoodIn wsX3_look (wsV RX3 98 RX3 yX3_write wsX3_write) := goodIn_app (goodIn_of _ (by decide +kernel)) ggX3_look_X3_write
theorem dX3_look_0 : decode cX3_look 0 = .ok (.aload_n 0, 1) := by decide +kernel
theorem dX3_look_1 : decode cX3_look 1 = .ok (.getfield 7, 3) := by decide +kernel
theorem dX3_look_4 : decode cX3_look 4 = .ok (.iload_n 1, 1) := by decide +kernel
theorem dX3_look_5 : decode cX3_look 5 = .ok (.iaload, 1) := by decide +kernel
theorem dX3_look_6 : decode cX3_look 6 = .ok (.istore_n 2, 1) := by decide +kernel
theorem dX3_look_7 : decode cX3_look 7 = .ok (.iload_n 2, 1) := by decide +kernel
theorem dX3_look_8 : decode cX3_look 8 = .ok (.ifCond .eq 11, 3) := by decide +kernel
theorem dX3_look_11 : decode cX3_look 11 = .ok (.aload_n 0, 1) := by decide +kernel
theorem dX3_look_12 : decode cX3_look 12 = .ok (.iload_n 2, 1) := by decide +kernel
theorem dX3_look_13 : decode cX3_look 13 = .ok (.invokevirtual 102, 3) := by decide +kernel
theorem dX3_look_16 : decode cX3_look 16 = .ok (.ifCond .eq 4, 3) := by decide +kernel
theorem dX3_look_19 : decode cX3_look 19 = .ok (.return_, 1) := by decide +kernel
theorem dX3_look_20 : decode cX3_look 20 = .ok (.aload_n 0, 1) := by decide +kernel
theorem dX3_look_21 : decode cX3_look 21 = .ok (.iload_n 2, 1) := by decide +kernel
theorem dX3_look_22 : decode cX3_look 22 = .ok (.invokevirtual 134, 3) := by decide +kernel
theorem dX3_look_25 : decode cX3_look 25 = .ok (.ifCond .eq 31, 3) := by decide +kernel
theorem dX3_look_28 : decode cX3_look 28 = .ok (.aload_n 0, 1) := by decide +kernel
theorem dX3_look_29 : decode cX3_look 29 = .ok (.getfield 16, 3) := by decide +kernel
theorem dX3_look_32 : decode cX3_look 32 = .ok (.iload_n 2, 1) := by decide +kernel
theorem dX3_look_33 : decode cX3_look 33 = .ok (.iconst 1, 1) := by decide +kernel
theorem dX3_look_34 : decode cX3_look 34 = .ok (.bastore, 1) := by decide +kernel
theorem dX3_look_35 : decode cX3_look 35 = .ok (.aload_n 0, 1) := by decide +kernel
theorem dX3_look_36 : decode cX3_look 36 = .ok (.getfield 41, 3) := by decide +kernel
theorem dX3_look_39 : decode cX3_look 39 = .ok (.aload_n 0, 1) := by decide +kernel
theorem dX3_look_40 : decode cX3_look 40 = .ok (.getfield 128, 3) := by decide +kernel
theorem dX3_look_43 : decode cX3_look 43 = .ok (.iload_n 2, 1) := by decide +kernel
theorem dX3_look_44 : decode cX3_look 44 = .ok (.iastore, 1) := by decide +kernel
theorem dX3_look_45 : decode cX3_look 45 = .ok (.aload_n 0, 1) := by decide +kernel
theorem dX3_look_46 : decode cX3_look 46 = .ok (.dup, 1) := by decide +kernel
theorem dX3_look_47 : decode cX3_look 47 = .ok (.getfield 128, 3) := by decide +kernel
theorem dX3_look_50 : decode cX3_look 50 = .ok (.iconst 1, 1) := by decide +kernel
theorem dX3_look_51 : decode cX3_look 51 = .ok (.iadd, 1) := by decide +kernel
theorem dX3_look_52 : decode cX3_look 52 = .ok (.putfield 128, 3) := by decide +kernel
theorem dX3_look_55 : decode cX3_look 55 = .ok (.return_, 1) := by decide +kernel
theorem dX3_look_56 : decode cX3_look 56 = .ok (.aload_n 0, 1) := by decide +kernel
theorem dX3_look_57 : decode cX3_look 57 = .ok (.iload_n 1, 1) := by decide +kernel
theorem dX3_look_58 : decode cX3_look 58 = .ok (.iconst 0, 1) := by decide +kernel
theorem dX3_look_59 : decode cX3_look 59 = .ok (.invokevirtual 98, 3) := by decide +kernel
theorem dX3_look_62 : decode cX3_look 62 = .ok (.aload_n 0, 1) := by decide +kernel
theorem dX3_look_63 : decode cX3_look 63 = .ok (.dup, 1) := by decide +kernel
theorem dX3_look_64 : decode cX3_look 64 = .ok (.getfield 125, 3) := by decide +kernel
theorem dX3_look_67 : decode cX3_look 67 = .ok (.iconst 1, 1) := by decide +kernel
theorem dX3_look_68 : decode cX3_look 68 = .ok (.iadd, 1) := by decide +kernel
theorem dX3_look_69 : decode cX3_look 69 = .ok (.putfield 125, 3) := by decide +kernel
theorem dX3_look_72 : decode cX3_look 72 = .ok (.return_, 1) := by decide +kernel
set_option maxRecDepth 20000 in
theorem ggX3_fits_X3_is : GoodIn wsX3_fits wsX3_is := goodIn_r _ [7] (by decide +kernel) (by decide +kernel)
set_option maxRecDepth 20000 in
theorem gX3_fits_X3_is : GoodIn wsX3_fits (wsV RX3 69 RX3 yX3_is wsX3_is) := goodIn_app (goodIn_of _ (by decide +kernel)) ggX3_fits_X3_is
set_option maxRecDepth 20000 in
theorem ggX3_fits_X3_isHead : GoodIn wsX3_fits wsX3_isHead := goodIn_r _ [11, 12, 13, 14, 15, 6, 16, 17, 18, 19, 20, 21, 22, 23, 24, 25, 46, 47, 48, 49, 50, 51, 52, 53, 54, 55, 56, 57, 58, 59, 60, 61, 62, 63] (by decide +kernel) (by decide +kernel)
set_option maxRecDepth 20000 in
theorem gX3_fits_X3_isHead : GoodIn wsX3_fits (wsV RX3 137 RX3 yX3_isHead wsX3_isHead) := goodIn_app (goodIn_of _ (by decide +kernel)) ggX3_fits_X3_isHead
set_option maxRecDepth 20000 in
theorem ggX3_fits_X3_map : GoodIn wsX3_fits wsX3_map := goodIn_r _ [29, 1, 2, 30, 31, 32, 33, 13, 14, 15, 6, 16, 12, 34, 35, 36, 37, 38, 39, 40, 41, 42, 43, 44, 45, 46, 47, 48, 49, 50, 51, 52, 53, 54, 55, 56, 57, 58, 59, 60, 61, 62, 63] (by decide +kernel) (by decide +kernel)
set_option maxRecDepth 20000 in
theorem gX3_fits_X3_map : GoodIn wsX3_fits (wsV RX3 83 RX3 yX3_map wsX3_map) := goodIn_app (goodIn_of _ (by decide +kernel)) ggX3_fits_X3_map
set_option maxRecDepth 20000 in
theorem ggX3_fits_X3_sizeAt : GoodIn wsX3_fits wsX3_sizeAt := goodIn_r _ [16, 12, 46, 47, 48, 49, 50, 51, 52, 53, 54, 55, 56, 57, 58, 59, 60, 61, 62, 63] (by decide +kernel) (by decide +kernel)
set_option maxRecDepth 20000 in
theorem gX3_fits_X3_sizeAt : GoodIn wsX3_fits (wsV RX3 58 RX3 yX3_sizeAt wsX3_sizeAt) := goodIn_app (goodIn_of _ (by decide +kernel)) ggX3_fits_X3_sizeAt
set_option maxRecDepth 20000 in
theorem ggX3_fits_X3_classOf : GoodIn wsX3_fits wsX3_classOf := goodIn_r _ [37] (by decide +kernel) (by decide +kernel)
set_option maxRecDepth 20000 in
theorem gX3_fits_X3_classOf : GoodIn wsX3_fits (wsV RX3 73 RX3 yX3_classOf wsX3_classOf) := goodIn_app (goodIn_of _ (by decide +kernel)) ggX3_fits_X3_classOf
set_option maxRecDepth 20000 in
theorem ggX3_fits_X3_orderOf : GoodIn wsX3_fits wsX3_orderOf := goodIn_r _ [41] (by decide +kernel) (by decide +kernel)
set_option maxRecDepth 20000 in
theorem gX3_fits_X3_orderOf : GoodIn wsX3_fits (wsV RX3 76 RX3 yX3_orderOf wsX3_orderOf) := goodIn_app (goodIn_of _ (by decide +kernel)) ggX3_fits_X3_orderOf
set_option maxRecDepth 20000 in
theorem ggX3_fits_X3_areFree : GoodIn wsX3_fits wsX3_areFree := goodIn_r _ [45, 1, 46, 47, 48, 49, 50, 51, 52, 53, 54, 55, 56, 57, 58, 59, 60, 61, 62, 63] (by decide +kernel) (by decide +kernel)
set_option maxRecDepth 20000 in
theorem gX3_fits_X3_areFree : GoodIn wsX3_fits (wsV RX3 79 RX3 yX3_areFree wsX3_areFree) := goodIn_app (goodIn_of _ (by decide +kernel)) ggX3_fits_X3_areFree
theorem dX3_fits_0 : decode cX3_fits 0 = .ok (.aload_n 0, 1) := by decide +kernel
theorem dX3_fits_1 : decode cX3_fits 1 = .ok (.iload_n 1, 1) := by decide +kernel
theorem dX3_fits_2 : decode cX3_fits 2 = .ok (.bipush 16, 2) := by decide +kernel
theorem dX3_fits_4 : decode cX3_fits 4 = .ok (.sipush 4095, 3) := by decide +kernel
theorem dX3_fits_7 : decode cX3_fits 7 = .ok (.invokevirtual 69, 3) := by decide +kernel
theorem dX3_fits_10 : decode cX3_fits 10 = .ok (.ifCond .eq 11, 3) := by decide +kernel
theorem dX3_fits_13 : decode cX3_fits 13 = .ok (.aload_n 0, 1) := by decide +kernel
theorem dX3_fits_14 : decode cX3_fits 14 = .ok (.iload_n 1, 1) := by decide +kernel
theorem dX3_fits_15 : decode cX3_fits 15 = .ok (.invokevirtual 137, 3) := by decide +kernel
theorem dX3_fits_18 : decode cX3_fits 18 = .ok (.ifCond .ne 5, 3) := by decide +kernel
theorem dX3_fits_21 : decode cX3_fits 21 = .ok (.iconst 0, 1) := by decide +kernel
theorem dX3_fits_22 : decode cX3_fits 22 = .ok (.ireturn, 1) := by decide +kernel
theorem dX3_fits_23 : decode cX3_fits 23 = .ok (.aload_n 0, 1) := by decide +kernel
theorem dX3_fits_24 : decode cX3_fits 24 = .ok (.invokevirtual 83, 3) := by decide +kernel
theorem dX3_fits_27 : decode cX3_fits 27 = .ok (.aload_n 0, 1) := by decide +kernel
theorem dX3_fits_28 : decode cX3_fits 28 = .ok (.iload_n 1, 1) := by decide +kernel
theorem dX3_fits_29 : decode cX3_fits 29 = .ok (.invokevirtual 58, 3) := by decide +kernel
theorem dX3_fits_32 : decode cX3_fits 32 = .ok (.iconst 1, 1) := by decide +kernel
theorem dX3_fits_33 : decode cX3_fits 33 = .ok (.iadd, 1) := by decide +kernel
theorem dX3_fits_34 : decode cX3_fits 34 = .ok (.istore_n 2, 1) := by decide +kernel
theorem dX3_fits_35 : decode cX3_fits 35 = .ok (.iload_n 1, 1) := by decide +kernel
theorem dX3_fits_36 : decode cX3_fits 36 = .ok (.bipush 16, 2) := by decide +kernel
theorem dX3_fits_38 : decode cX3_fits 38 = .ok (.idiv, 1) := by decide +kernel
theorem dX3_fits_39 : decode cX3_fits 39 = .ok (.istore_n 3, 1) := by decide +kernel
theorem dX3_fits_40 : decode cX3_fits 40 = .ok (.aload_n 0, 1) := by decide +kernel
theorem dX3_fits_41 : decode cX3_fits 41 = .ok (.iload_n 2, 1) := by decide +kernel
theorem dX3_fits_42 : decode cX3_fits 42 = .ok (.invokevirtual 73, 3) := by decide +kernel
theorem dX3_fits_45 : decode cX3_fits 45 = .ok (.istore 4, 2) := by decide +kernel
theorem dX3_fits_47 : decode cX3_fits 47 = .ok (.iload 4, 2) := by decide +kernel
theorem dX3_fits_49 : decode cX3_fits 49 = .ok (.ifCond .le 64, 3) := by decide +kernel
theorem dX3_fits_52 : decode cX3_fits 52 = .ok (.iload_n 1, 1) := by decide +kernel
theorem dX3_fits_53 : decode cX3_fits 53 = .ok (.bipush 16, 2) := by decide +kernel
theorem dX3_fits_55 : decode cX3_fits 55 = .ok (.irem, 1) := by decide +kernel
theorem dX3_fits_56 : decode cX3_fits 56 = .ok (.iload 4, 2) := by decide +kernel
theorem dX3_fits_58 : decode cX3_fits 58 = .ok (.irem, 1) := by decide +kernel
theorem dX3_fits_59 : decode cX3_fits 59 = .ok (.ifCond .ne 52, 3) := by decide +kernel
theorem dX3_fits_62 : decode cX3_fits 62 = .ok (.iload_n 1, 1) := by decide +kernel
theorem dX3_fits_63 : decode cX3_fits 63 = .ok (.bipush 16, 2) := by decide +kernel
theorem dX3_fits_65 : decode cX3_fits 65 = .ok (.irem, 1) := by decide +kernel
theorem dX3_fits_66 : decode cX3_fits 66 = .ok (.iload 4, 2) := by decide +kernel
theorem dX3_fits_68 : decode cX3_fits 68 = .ok (.idiv, 1) := by decide +kernel
theorem dX3_fits_69 : decode cX3_fits 69 = .ok (.bipush 16, 2) := by decide +kernel
theorem dX3_fits_71 : decode cX3_fits 71 = .ok (.iload 4, 2) := by decide +kernel
theorem dX3_fits_73 : decode cX3_fits 73 = .ok (.idiv, 1) := by decide +kernel
theorem dX3_fits_74 : decode cX3_fits 74 = .ok (.if_icmp .ge 37, 3) := by decide +kernel
theorem dX3_fits_77 : decode cX3_fits 77 = .ok (.aload_n 0, 1) := by decide +kernel
theorem dX3_fits_78 : decode cX3_fits 78 = .ok (.getfield 26, 3) := by decide +kernel
theorem dX3_fits_81 : decode cX3_fits 81 = .ok (.iload_n 3, 1) := by decide +kernel
theorem dX3_fits_82 : decode cX3_fits 82 = .ok (.iaload, 1) := by decide +kernel
theorem dX3_fits_83 : decode cX3_fits 83 = .ok (.ifCond .eq 24, 3) := by decide +kernel
theorem dX3_fits_86 : decode cX3_fits 86 = .ok (.aload_n 0, 1) := by decide +kernel
theorem dX3_fits_87 : decode cX3_fits 87 = .ok (.getfield 26, 3) := by decide +kernel
theorem dX3_fits_90 : decode cX3_fits 90 = .ok (.iload_n 3, 1) := by decide +kernel
theorem dX3_fits_91 : decode cX3_fits 91 = .ok (.iaload, 1) := by decide +kernel
theorem dX3_fits_92 : decode cX3_fits 92 = .ok (.iconst 1, 1) := by decide +kernel
theorem dX3_fits_93 : decode cX3_fits 93 = .ok (.if_icmp .ne 18, 3) := by decide +kernel
theorem dX3_fits_96 : decode cX3_fits 96 = .ok (.aload_n 0, 1) := by decide +kernel
theorem dX3_fits_97 : decode cX3_fits 97 = .ok (.getfield 29, 3) := by decide +kernel
theorem dX3_fits_100 : decode cX3_fits 100 = .ok (.iload_n 3, 1) := by decide +kernel
theorem dX3_fits_101 : decode cX3_fits 101 = .ok (.iaload, 1) := by decide +kernel
theorem dX3_fits_102 : decode cX3_fits 102 = .ok (.iload 4, 2) := by decide +kernel
theorem dX3_fits_104 : decode cX3_fits 104 = .ok (.if_icmp .ne 7, 3) := by decide +kernel
theorem dX3_fits_107 : decode cX3_fits 107 = .ok (.iconst 1, 1) := by decide +kernel
theorem dX3_fits_108 : decode cX3_fits 108 = .ok (.goto 4, 3) := by decide +kernel
theorem dX3_fits_111 : decode cX3_fits 111 = .ok (.iconst 0, 1) := by decide +kernel
theorem dX3_fits_112 : decode cX3_fits 112 = .ok (.ireturn, 1) := by decide +kernel
theorem dX3_fits_113 : decode cX3_fits 113 = .ok (.aload_n 0, 1) := by decide +kernel
theorem dX3_fits_114 : decode cX3_fits 114 = .ok (.iload_n 2, 1) := by decide +kernel
theorem dX3_fits_115 : decode cX3_fits 115 = .ok (.invokevirtual 76, 3) := by decide +kernel
theorem dX3_fits_118 : decode cX3_fits 118 = .ok (.istore 5, 2) := by decide +kernel
theorem dX3_fits_120 : decode cX3_fits 120 = .ok (.iload_n 1, 1) := by decide +kernel
theorem dX3_fits_121 : decode cX3_fits 121 = .ok (.bipush 16, 2) := by decide +kernel
theorem dX3_fits_123 : decode cX3_fits 123 = .ok (.irem, 1) := by decide +kernel
theorem dX3_fits_124 : decode cX3_fits 124 = .ok (.ifCond .ne 28, 3) := by decide +kernel
theorem dX3_fits_127 : decode cX3_fits 127 = .ok (.iload_n 3, 1) := by decide +kernel
theorem dX3_fits_128 : decode cX3_fits 128 = .ok (.iconst 1, 1) := by decide +kernel
theorem dX3_fits_129 : decode cX3_fits 129 = .ok (.iload 5, 2) := by decide +kernel
theorem dX3_fits_131 : decode cX3_fits 131 = .ok (.ishl, 1) := by decide +kernel
theorem dX3_fits_132 : decode cX3_fits 132 = .ok (.irem, 1) := by decide +kernel
theorem dX3_fits_133 : decode cX3_fits 133 = .ok (.ifCond .ne 19, 3) := by decide +kernel
theorem dX3_fits_136 : decode cX3_fits 136 = .ok (.aload_n 0, 1) := by decide +kernel
theorem dX3_fits_137 : decode cX3_fits 137 = .ok (.iload_n 3, 1) := by decide +kernel
theorem dX3_fits_138 : decode cX3_fits 138 = .ok (.iconst 1, 1) := by decide +kernel
theorem dX3_fits_139 : decode cX3_fits 139 = .ok (.iload 5, 2) := by decide +kernel
theorem dX3_fits_141 : decode cX3_fits 141 = .ok (.ishl, 1) := by decide +kernel
theorem dX3_fits_142 : decode cX3_fits 142 = .ok (.invokevirtual 79, 3) := by decide +kernel
theorem dX3_fits_145 : decode cX3_fits 145 = .ok (.ifCond .eq 7, 3) := by decide +kernel
theorem dX3_fits_148 : decode cX3_fits 148 = .ok (.iconst 1, 1) := by decide +kernel
theorem dX3_fits_149 : decode cX3_fits 149 = .ok (.goto 4, 3) := by decide +kernel
theorem dX3_fits_152 : decode cX3_fits 152 = .ok (.iconst 0, 1) := by decide +kernel
theorem dX3_fits_153 : decode cX3_fits 153 = .ok (.ireturn, 1) := by decide +kernel
set_option maxRecDepth 20000 in
theorem ggX3_collect_X3_see : GoodIn wsX3_collect wsX3_see := goodIn_r _ [11, 2, 5, 3, 12, 13, 14, 10, 15, 6, 16, 17, 18, 19, 39, 40, 41, 42, 43, 44, 45, 46, 47, 48, 49, 50, 51, 52, 53, 54, 55, 56] (by decide +kernel) (by decide +kernel)
set_option maxRecDepth 20000 in
theorem gX3_collect_X3_see : GoodIn wsX3_collect (wsV RX3 140 RX3 yX3_see wsX3_see) := goodIn_app (goodIn_of _ (by decide +kernel)) ggX3_collect_X3_see
set_option maxRecDepth 20000 in
theorem ggX3_collect_X3_refsAt : GoodIn wsX3_collect wsX3_refsAt := goodIn_r _ [23, 4, 39, 40, 41, 42, 43, 44, 45, 46, 47, 48, 49, 50, 51, 52, 53, 54, 55, 56] (by decide +kernel) (by decide +kernel)
set_option maxRecDepth 20000 in
theorem gX3_collect_X3_refsAt : GoodIn wsX3_collect (wsV RX3 62 RX3 yX3_refsAt wsX3_refsAt) := goodIn_app (goodIn_of _ (by decide +kernel)) ggX3_collect_X3_refsAt
set_option maxRecDepth 20000 in
theorem ggX3_collect_X3_freed : GoodIn wsX3_collect wsX3_freed := goodIn_r _ [27, 6, 28, 29, 30, 10, 31, 4, 32, 33, 34, 35, 36, 37, 38, 39, 40, 41, 42, 43, 44, 45, 46, 47, 48, 49, 50, 51, 52, 53, 54, 55, 56] (by decide +kernel) (by decide +kernel)
set_option maxRecDepth 20000 in
theorem gX3_collect_X3_freed : GoodIn wsX3_collect (wsV RX3 109 RX3 yX3_freed wsX3_freed) := goodIn_app (goodIn_of _ (by decide +kernel)) ggX3_collect_X3_freed
theorem dX3_collect_0 : decode cX3_collect 0 = .ok (.aload_n 0, 1) := by decide +kernel
theorem dX3_collect_1 : decode cX3_collect 1 = .ok (.iconst 0, 1) := by decide +kernel
theorem dX3_collect_2 : decode cX3_collect 2 = .ok (.putfield 47, 3) := by decide +kernel
theorem dX3_collect_5 : decode cX3_collect 5 = .ok (.iconst 0, 1) := by decide +kernel
theorem dX3_collect_6 : decode cX3_collect 6 = .ok (.istore_n 1, 1) := by decide +kernel
theorem dX3_collect_7 : decode cX3_collect 7 = .ok (.iload_n 1, 1) := by decide +kernel
theorem dX3_collect_8 : decode cX3_collect 8 = .ok (.sipush 4096, 3) := by decide +kernel
theorem dX3_collect_11 : decode cX3_collect 11 = .ok (.if_icmp .ge 16, 3) := by decide +kernel
theorem dX3_collect_14 : decode cX3_collect 14 = .ok (.aload_n 0, 1) := by decide +kernel
theorem dX3_collect_15 : decode cX3_collect 15 = .ok (.getfield 44, 3) := by decide +kernel
theorem dX3_collect_18 : decode cX3_collect 18 = .ok (.iload_n 1, 1) := by decide +kernel
theorem dX3_collect_19 : decode cX3_collect 19 = .ok (.iconst 0, 1) := by decide +kernel
theorem dX3_collect_20 : decode cX3_collect 20 = .ok (.bastore, 1) := by decide +kernel
theorem dX3_collect_21 : decode cX3_collect 21 = .ok (.iinc 1 1, 3) := by decide +kernel
theorem dX3_collect_24 : decode cX3_collect 24 = .ok (.goto (-17), 3) := by decide +kernel
theorem dX3_collect_27 : decode cX3_collect 27 = .ok (.aload_n 0, 1) := by decide +kernel
theorem dX3_collect_28 : decode cX3_collect 28 = .ok (.iconst 0, 1) := by decide +kernel
theorem dX3_collect_29 : decode cX3_collect 29 = .ok (.putfield 128, 3) := by decide +kernel
theorem dX3_collect_32 : decode cX3_collect 32 = .ok (.iconst 1, 1) := by decide +kernel
theorem dX3_collect_33 : decode cX3_collect 33 = .ok (.istore_n 1, 1) := by decide +kernel
theorem dX3_collect_34 : decode cX3_collect 34 = .ok (.iload_n 1, 1) := by decide +kernel
theorem dX3_collect_35 : decode cX3_collect 35 = .ok (.bipush 8, 2) := by decide +kernel
theorem dX3_collect_37 : decode cX3_collect 37 = .ok (.if_icmp .gt 19, 3) := by decide +kernel
theorem dX3_collect_40 : decode cX3_collect 40 = .ok (.aload_n 0, 1) := by decide +kernel
theorem dX3_collect_41 : decode cX3_collect 41 = .ok (.aload_n 0, 1) := by decide +kernel
theorem dX3_collect_42 : decode cX3_collect 42 = .ok (.getfield 7, 3) := by decide +kernel
theorem dX3_collect_45 : decode cX3_collect 45 = .ok (.iload_n 1, 1) := by decide +kernel
theorem dX3_collect_46 : decode cX3_collect 46 = .ok (.iaload, 1) := by decide +kernel
theorem dX3_collect_47 : decode cX3_collect 47 = .ok (.invokevirtual 140, 3) := by decide +kernel
theorem dX3_collect_50 : decode cX3_collect 50 = .ok (.iinc 1 1, 3) := by decide +kernel
theorem dX3_collect_53 : decode cX3_collect 53 = .ok (.goto (-19), 3) := by decide +kernel
theorem dX3_collect_56 : decode cX3_collect 56 = .ok (.iconst 0, 1) := by decide +kernel
theorem dX3_collect_57 : decode cX3_collect 57 = .ok (.istore_n 1, 1) := by decide +kernel
theorem dX3_collect_58 : decode cX3_collect 58 = .ok (.iload_n 1, 1) := by decide +kernel
theorem dX3_collect_59 : decode cX3_collect 59 = .ok (.aload_n 0, 1) := by decide +kernel
theorem dX3_collect_60 : decode cX3_collect 60 = .ok (.getfield 128, 3) := by decide +kernel
theorem dX3_collect_63 : decode cX3_collect 63 = .ok (.if_icmp .ge 50, 3) := by decide +kernel
theorem dX3_collect_66 : decode cX3_collect 66 = .ok (.iconst 0, 1) := by decide +kernel
theorem dX3_collect_67 : decode cX3_collect 67 = .ok (.istore_n 2, 1) := by decide +kernel
theorem dX3_collect_68 : decode cX3_collect 68 = .ok (.iload_n 2, 1) := by decide +kernel
theorem dX3_collect_69 : decode cX3_collect 69 = .ok (.aload_n 0, 1) := by decide +kernel
theorem dX3_collect_70 : decode cX3_collect 70 = .ok (.aload_n 0, 1) := by decide +kernel
theorem dX3_collect_71 : decode cX3_collect 71 = .ok (.getfield 41, 3) := by decide +kernel
theorem dX3_collect_74 : decode cX3_collect 74 = .ok (.iload_n 1, 1) := by decide +kernel
theorem dX3_collect_75 : decode cX3_collect 75 = .ok (.iaload, 1) := by decide +kernel
theorem dX3_collect_76 : decode cX3_collect 76 = .ok (.invokevirtual 62, 3) := by decide +kernel
theorem dX3_collect_79 : decode cX3_collect 79 = .ok (.if_icmp .ge 28, 3) := by decide +kernel
theorem dX3_collect_82 : decode cX3_collect 82 = .ok (.aload_n 0, 1) := by decide +kernel
theorem dX3_collect_83 : decode cX3_collect 83 = .ok (.aload_n 0, 1) := by decide +kernel
theorem dX3_collect_84 : decode cX3_collect 84 = .ok (.getfield 7, 3) := by decide +kernel
theorem dX3_collect_87 : decode cX3_collect 87 = .ok (.aload_n 0, 1) := by decide +kernel
theorem dX3_collect_88 : decode cX3_collect 88 = .ok (.getfield 41, 3) := by decide +kernel
theorem dX3_collect_91 : decode cX3_collect 91 = .ok (.iload_n 1, 1) := by decide +kernel
theorem dX3_collect_92 : decode cX3_collect 92 = .ok (.iaload, 1) := by decide +kernel
theorem dX3_collect_93 : decode cX3_collect 93 = .ok (.iconst 1, 1) := by decide +kernel
theorem dX3_collect_94 : decode cX3_collect 94 = .ok (.iadd, 1) := by decide +kernel
theorem dX3_collect_95 : decode cX3_collect 95 = .ok (.iload_n 2, 1) := by decide +kernel
theorem dX3_collect_96 : decode cX3_collect 96 = .ok (.iadd, 1) := by decide +kernel
theorem dX3_collect_97 : decode cX3_collect 97 = .ok (.iaload, 1) := by decide +kernel
theorem dX3_collect_98 : decode cX3_collect 98 = .ok (.invokevirtual 140, 3) := by decide +kernel
theorem dX3_collect_101 : decode cX3_collect 101 = .ok (.iinc 2 1, 3) := by decide +kernel
theorem dX3_collect_104 : decode cX3_collect 104 = .ok (.goto (-36), 3) := by decide +kernel
theorem dX3_collect_107 : decode cX3_collect 107 = .ok (.iinc 1 1, 3) := by decide +kernel
theorem dX3_collect_110 : decode cX3_collect 110 = .ok (.goto (-52), 3) := by decide +kernel
theorem dX3_collect_113 : decode cX3_collect 113 = .ok (.iconst 0, 1) := by decide +kernel
theorem dX3_collect_114 : decode cX3_collect 114 = .ok (.istore_n 1, 1) := by decide +kernel
theorem dX3_collect_115 : decode cX3_collect 115 = .ok (.bipush 16, 2) := by decide +kernel
theorem dX3_collect_117 : decode cX3_collect 117 = .ok (.istore_n 2, 1) := by decide +kernel
theorem dX3_collect_118 : decode cX3_collect 118 = .ok (.iload_n 2, 1) := by decide +kernel
theorem dX3_collect_119 : decode cX3_collect 119 = .ok (.sipush 4096, 3) := by decide +kernel
theorem dX3_collect_122 : decode cX3_collect 122 = .ok (.if_icmp .ge 39, 3) := by decide +kernel
theorem dX3_collect_125 : decode cX3_collect 125 = .ok (.aload_n 0, 1) := by decide +kernel
theorem dX3_collect_126 : decode cX3_collect 126 = .ok (.getfield 16, 3) := by decide +kernel
theorem dX3_collect_129 : decode cX3_collect 129 = .ok (.iload_n 2, 1) := by decide +kernel
theorem dX3_collect_130 : decode cX3_collect 130 = .ok (.baload, 1) := by decide +kernel
theorem dX3_collect_131 : decode cX3_collect 131 = .ok (.ifCond .eq 24, 3) := by decide +kernel
theorem dX3_collect_134 : decode cX3_collect 134 = .ok (.aload_n 0, 1) := by decide +kernel
theorem dX3_collect_135 : decode cX3_collect 135 = .ok (.getfield 44, 3) := by decide +kernel
theorem dX3_collect_138 : decode cX3_collect 138 = .ok (.iload_n 2, 1) := by decide +kernel
theorem dX3_collect_139 : decode cX3_collect 139 = .ok (.baload, 1) := by decide +kernel
theorem dX3_collect_140 : decode cX3_collect 140 = .ok (.ifCond .eq 6, 3) := by decide +kernel
theorem dX3_collect_143 : decode cX3_collect 143 = .ok (.goto 12, 3) := by decide +kernel
theorem dX3_collect_146 : decode cX3_collect 146 = .ok (.aload_n 0, 1) := by decide +kernel
theorem dX3_collect_147 : decode cX3_collect 147 = .ok (.iload_n 2, 1) := by decide +kernel
theorem dX3_collect_148 : decode cX3_collect 148 = .ok (.invokevirtual 109, 3) := by decide +kernel
theorem dX3_collect_151 : decode cX3_collect 151 = .ok (.istore_n 3, 1) := by decide +kernel
theorem dX3_collect_152 : decode cX3_collect 152 = .ok (.iinc 1 1, 3) := by decide +kernel
theorem dX3_collect_155 : decode cX3_collect 155 = .ok (.iinc 2 1, 3) := by decide +kernel
theorem dX3_collect_158 : decode cX3_collect 158 = .ok (.goto (-40), 3) := by decide +kernel
theorem dX3_collect_161 : decode cX3_collect 161 = .ok (.iload_n 1, 1) := by decide +kernel
theorem dX3_collect_162 : decode cX3_collect 162 = .ok (.ireturn, 1) := by decide +kernel
set_option maxRecDepth 20000 in
theorem ggX3_see_X3_isBlock : GoodIn wsX3_see wsX3_isBlock := goodIn_r _ [8, 9, 10, 11, 12, 7, 13, 14, 15, 16, 17, 18, 19, 20, 21, 22, 23, 24, 25, 26, 27, 28, 29, 30, 31] (by decide +kernel) (by decide +kernel)
set_option maxRecDepth 20000 in
theorem gX3_see_X3_isBlock : GoodIn wsX3_see (wsV RX3 102 RX3 yX3_isBlock wsX3_isBlock) := goodIn_app (goodIn_of _ (by decide +kernel)) ggX3_see_X3_isBlock
theorem dX3_see_0 : decode cX3_see 0 = .ok (.aload_n 0, 1) := by decide +kernel
theorem dX3_see_1 : decode cX3_see 1 = .ok (.iload_n 1, 1) := by decide +kernel
theorem dX3_see_2 : decode cX3_see 2 = .ok (.invokevirtual 102, 3) := by decide +kernel
theorem dX3_see_5 : decode cX3_see 5 = .ok (.ifCond .eq 12, 3) := by decide +kernel
theorem dX3_see_8 : decode cX3_see 8 = .ok (.aload_n 0, 1) := by decide +kernel
theorem dX3_see_9 : decode cX3_see 9 = .ok (.getfield 44, 3) := by decide +kernel
theorem dX3_see_12 : decode cX3_see 12 = .ok (.iload_n 1, 1) := by decide +kernel
theorem dX3_see_13 : decode cX3_see 13 = .ok (.baload, 1) := by decide +kernel
theorem dX3_see_14 : decode cX3_see 14 = .ok (.ifCond .eq 4, 3) := by decide +kernel
theorem dX3_see_17 : decode cX3_see 17 = .ok (.return_, 1) := by decide +kernel
theorem dX3_see_18 : decode cX3_see 18 = .ok (.aload_n 0, 1) := by decide +kernel
theorem dX3_see_19 : decode cX3_see 19 = .ok (.getfield 44, 3) := by decide +kernel
theorem dX3_see_22 : decode cX3_see 22 = .ok (.iload_n 1, 1) := by decide +kernel
theorem dX3_see_23 : decode cX3_see 23 = .ok (.iconst 1, 1) := by decide +kernel
theorem dX3_see_24 : decode cX3_see 24 = .ok (.bastore, 1) := by decide +kernel
theorem dX3_see_25 : decode cX3_see 25 = .ok (.aload_n 0, 1) := by decide +kernel
theorem dX3_see_26 : decode cX3_see 26 = .ok (.getfield 41, 3) := by decide +kernel
theorem dX3_see_29 : decode cX3_see 29 = .ok (.aload_n 0, 1) := by decide +kernel
theorem dX3_see_30 : decode cX3_see 30 = .ok (.getfield 128, 3) := by decide +kernel
theorem dX3_see_33 : decode cX3_see 33 = .ok (.iload_n 1, 1) := by decide +kernel
theorem dX3_see_34 : decode cX3_see 34 = .ok (.iastore, 1) := by decide +kernel
theorem dX3_see_35 : decode cX3_see 35 = .ok (.aload_n 0, 1) := by decide +kernel
theorem dX3_see_36 : decode cX3_see 36 = .ok (.dup, 1) := by decide +kernel
theorem dX3_see_37 : decode cX3_see 37 = .ok (.getfield 128, 3) := by decide +kernel
theorem dX3_see_40 : decode cX3_see 40 = .ok (.iconst 1, 1) := by decide +kernel
theorem dX3_see_41 : decode cX3_see 41 = .ok (.iadd, 1) := by decide +kernel
theorem dX3_see_42 : decode cX3_see 42 = .ok (.putfield 128, 3) := by decide +kernel
theorem dX3_see_45 : decode cX3_see 45 = .ok (.return_, 1) := by decide +kernel
set_option maxRecDepth 20000 in
theorem ggX3_word_X3_is : GoodIn wsX3_word wsX3_is := goodIn_r _ [8] (by decide +kernel) (by decide +kernel)
set_option maxRecDepth 20000 in
theorem gX3_word_X3_is : GoodIn wsX3_word (wsV RX3 69 RX3 yX3_is wsX3_is) := goodIn_app (goodIn_of _ (by decide +kernel)) ggX3_word_X3_is
theorem dX3_word_0 : decode cX3_word 0 = .ok (.aload_n 0, 1) := by decide +kernel
theorem dX3_word_1 : decode cX3_word 1 = .ok (.iconst 0, 1) := by decide +kernel
theorem dX3_word_2 : decode cX3_word 2 = .ok (.putfield 47, 3) := by decide +kernel
theorem dX3_word_5 : decode cX3_word 5 = .ok (.aload_n 0, 1) := by decide +kernel
theorem dX3_word_6 : decode cX3_word 6 = .ok (.iload_n 1, 1) := by decide +kernel
theorem dX3_word_7 : decode cX3_word 7 = .ok (.iconst 0, 1) := by decide +kernel
theorem dX3_word_8 : decode cX3_word 8 = .ok (.sipush 4095, 3) := by decide +kernel
theorem dX3_word_11 : decode cX3_word 11 = .ok (.invokevirtual 69, 3) := by decide +kernel
theorem dX3_word_14 : decode cX3_word 14 = .ok (.ifCond .ne 7, 3) := by decide +kernel
theorem dX3_word_17 : decode cX3_word 17 = .ok (.iconst 0, 1) := by decide +kernel
theorem dX3_word_18 : decode cX3_word 18 = .ok (.goto 22, 3) := by decide +kernel
theorem dX3_word_21 : decode cX3_word 21 = .ok (.iload_n 2, 1) := by decide +kernel
theorem dX3_word_22 : decode cX3_word 22 = .ok (.ifCond .eq 12, 3) := by decide +kernel
theorem dX3_word_25 : decode cX3_word 25 = .ok (.aload_n 0, 1) := by decide +kernel
theorem dX3_word_26 : decode cX3_word 26 = .ok (.getfield 13, 3) := by decide +kernel
theorem dX3_word_29 : decode cX3_word 29 = .ok (.iload_n 1, 1) := by decide +kernel
theorem dX3_word_30 : decode cX3_word 30 = .ok (.iaload, 1) := by decide +kernel
theorem dX3_word_31 : decode cX3_word 31 = .ok (.goto 9, 3) := by decide +kernel
theorem dX3_word_34 : decode cX3_word 34 = .ok (.aload_n 0, 1) := by decide +kernel
theorem dX3_word_35 : decode cX3_word 35 = .ok (.getfield 7, 3) := by decide +kernel
theorem dX3_word_38 : decode cX3_word 38 = .ok (.iload_n 1, 1) := by decide +kernel
theorem dX3_word_39 : decode cX3_word 39 = .ok (.iaload, 1) := by decide +kernel
theorem dX3_word_40 : decode cX3_word 40 = .ok (.ireturn, 1) := by decide +kernel
set_option maxRecDepth 20000 in
theorem ggX3_scribble_X3_is : GoodIn wsX3_scribble wsX3_is := goodIn_r _ [8] (by decide +kernel) (by decide +kernel)
set_option maxRecDepth 20000 in
theorem gX3_scribble_X3_is : GoodIn wsX3_scribble (wsV RX3 69 RX3 yX3_is wsX3_is) := goodIn_app (goodIn_of _ (by decide +kernel)) ggX3_scribble_X3_is
set_option maxRecDepth 20000 in
theorem ggX3_scribble_X3_not : GoodIn wsX3_scribble wsX3_not := goodIn_r _ [12, 3, 25, 26, 27, 28, 29, 30, 31, 32, 33, 34, 35, 36, 37, 38, 39, 40, 41, 42] (by decide +kernel) (by decide +kernel)
set_option maxRecDepth 20000 in
theorem gX3_scribble_X3_not : GoodIn wsX3_scribble (wsV RX3 112 RX3 yX3_not wsX3_not) := goodIn_app (goodIn_of _ (by decide +kernel)) ggX3_scribble_X3_not
set_option maxRecDepth 20000 in
theorem ggX3_scribble_X3_sizeAt : GoodIn wsX3_scribble wsX3_sizeAt := goodIn_r _ [16, 17, 25, 26, 27, 28, 29, 30, 31, 32, 33, 34, 35, 36, 37, 38, 39, 40, 41, 42] (by decide +kernel) (by decide +kernel)
set_option maxRecDepth 20000 in
theorem gX3_scribble_X3_sizeAt : GoodIn wsX3_scribble (wsV RX3 58 RX3 yX3_sizeAt wsX3_sizeAt) := goodIn_app (goodIn_of _ (by decide +kernel)) ggX3_scribble_X3_sizeAt
set_option maxRecDepth 20000 in
theorem ggX3_scribble_X3_write : GoodIn wsX3_scribble wsX3_write := goodIn_r _ [21, 17, 22, 23, 24, 25, 26, 27, 28, 29, 30, 31, 32, 33, 34, 35, 36, 37, 38, 39, 40, 41, 42] (by decide +kernel) (by decide +kernel)
set_option maxRecDepth 20000 in
theorem gX3_scribble_X3_write : GoodIn wsX3_scribble (wsV RX3 98 RX3 yX3_write wsX3_write) := goodIn_app (goodIn_of _ (by decide +kernel)) ggX3_scribble_X3_write
theorem dX3_scribble_0 : decode cX3_scribble 0 = .ok (.aload_n 0, 1) := by decide +kernel
theorem dX3_scribble_1 : decode cX3_scribble 1 = .ok (.iconst 0, 1) := by decide +kernel
theorem dX3_scribble_2 : decode cX3_scribble 2 = .ok (.putfield 47, 3) := by decide +kernel
theorem dX3_scribble_5 : decode cX3_scribble 5 = .ok (.aload_n 0, 1) := by decide +kernel
theorem dX3_scribble_6 : decode cX3_scribble 6 = .ok (.iload_n 1, 1) := by decide +kernel
theorem dX3_scribble_7 : decode cX3_scribble 7 = .ok (.bipush 16, 2) := by decide +kernel
theorem dX3_scribble_9 : decode cX3_scribble 9 = .ok (.sipush 4095, 3) := by decide +kernel
theorem dX3_scribble_12 : decode cX3_scribble 12 = .ok (.invokevirtual 69, 3) := by decide +kernel
theorem dX3_scribble_15 : decode cX3_scribble 15 = .ok (.ifCond .ne 9, 3) := by decide +kernel
theorem dX3_scribble_18 : decode cX3_scribble 18 = .ok (.aload_n 0, 1) := by decide +kernel
theorem dX3_scribble_19 : decode cX3_scribble 19 = .ok (.iconst 3, 1) := by decide +kernel
theorem dX3_scribble_20 : decode cX3_scribble 20 = .ok (.invokevirtual 112, 3) := by decide +kernel
theorem dX3_scribble_23 : decode cX3_scribble 23 = .ok (.ireturn, 1) := by decide +kernel
theorem dX3_scribble_24 : decode cX3_scribble 24 = .ok (.bipush 16, 2) := by decide +kernel
theorem dX3_scribble_26 : decode cX3_scribble 26 = .ok (.istore_n 3, 1) := by decide +kernel
theorem dX3_scribble_27 : decode cX3_scribble 27 = .ok (.iload_n 3, 1) := by decide +kernel
theorem dX3_scribble_28 : decode cX3_scribble 28 = .ok (.iload_n 1, 1) := by decide +kernel
theorem dX3_scribble_29 : decode cX3_scribble 29 = .ok (.if_icmp .gt 35, 3) := by decide +kernel
theorem dX3_scribble_32 : decode cX3_scribble 32 = .ok (.aload_n 0, 1) := by decide +kernel
theorem dX3_scribble_33 : decode cX3_scribble 33 = .ok (.getfield 16, 3) := by decide +kernel
theorem dX3_scribble_36 : decode cX3_scribble 36 = .ok (.iload_n 3, 1) := by decide +kernel
theorem dX3_scribble_37 : decode cX3_scribble 37 = .ok (.baload, 1) := by decide +kernel
theorem dX3_scribble_38 : decode cX3_scribble 38 = .ok (.ifCond .eq 20, 3) := by decide +kernel
theorem dX3_scribble_41 : decode cX3_scribble 41 = .ok (.iload_n 1, 1) := by decide +kernel
theorem dX3_scribble_42 : decode cX3_scribble 42 = .ok (.iload_n 3, 1) := by decide +kernel
theorem dX3_scribble_43 : decode cX3_scribble 43 = .ok (.aload_n 0, 1) := by decide +kernel
theorem dX3_scribble_44 : decode cX3_scribble 44 = .ok (.iload_n 3, 1) := by decide +kernel
theorem dX3_scribble_45 : decode cX3_scribble 45 = .ok (.invokevirtual 58, 3) := by decide +kernel
theorem dX3_scribble_48 : decode cX3_scribble 48 = .ok (.iadd, 1) := by decide +kernel
theorem dX3_scribble_49 : decode cX3_scribble 49 = .ok (.if_icmp .gt 9, 3) := by decide +kernel
theorem dX3_scribble_52 : decode cX3_scribble 52 = .ok (.aload_n 0, 1) := by decide +kernel
theorem dX3_scribble_53 : decode cX3_scribble 53 = .ok (.iconst 2, 1) := by decide +kernel
theorem dX3_scribble_54 : decode cX3_scribble 54 = .ok (.invokevirtual 112, 3) := by decide +kernel
theorem dX3_scribble_57 : decode cX3_scribble 57 = .ok (.ireturn, 1) := by decide +kernel
theorem dX3_scribble_58 : decode cX3_scribble 58 = .ok (.iinc 3 1, 3) := by decide +kernel
theorem dX3_scribble_61 : decode cX3_scribble 61 = .ok (.goto (-34), 3) := by decide +kernel
theorem dX3_scribble_64 : decode cX3_scribble 64 = .ok (.aload_n 0, 1) := by decide +kernel
theorem dX3_scribble_65 : decode cX3_scribble 65 = .ok (.iload_n 1, 1) := by decide +kernel
theorem dX3_scribble_66 : decode cX3_scribble 66 = .ok (.iload_n 2, 1) := by decide +kernel
theorem dX3_scribble_67 : decode cX3_scribble 67 = .ok (.invokevirtual 98, 3) := by decide +kernel
theorem dX3_scribble_70 : decode cX3_scribble 70 = .ok (.aload_n 0, 1) := by decide +kernel
theorem dX3_scribble_71 : decode cX3_scribble 71 = .ok (.iconst 0, 1) := by decide +kernel
theorem dX3_scribble_72 : decode cX3_scribble 72 = .ok (.putfield 51, 3) := by decide +kernel
theorem dX3_scribble_75 : decode cX3_scribble 75 = .ok (.iconst 1, 1) := by decide +kernel
theorem dX3_scribble_76 : decode cX3_scribble 76 = .ok (.ireturn, 1) := by decide +kernel
set_option maxRecDepth 20000 in
theorem ggX3_block_X3_isBlock : GoodIn wsX3_block wsX3_isBlock := goodIn_r _ [6, 7, 8, 9, 10, 5, 11, 33, 34, 35, 36, 37, 38, 39, 40, 41, 42, 43, 44, 45, 46, 47, 48, 49, 50] (by decide +kernel) (by decide +kernel)
set_option maxRecDepth 20000 in
theorem gX3_block_X3_isBlock : GoodIn wsX3_block (wsV RX3 102 RX3 yX3_isBlock wsX3_isBlock) := goodIn_app (goodIn_of _ (by decide +kernel)) ggX3_block_X3_isBlock
set_option maxRecDepth 20000 in
theorem ggX3_block_X3_sizeAt : GoodIn wsX3_block wsX3_sizeAt := goodIn_r _ [15, 16, 33, 34, 35, 36, 37, 38, 39, 40, 41, 42, 43, 44, 45, 46, 47, 48, 49, 50] (by decide +kernel) (by decide +kernel)
set_option maxRecDepth 20000 in
theorem gX3_block_X3_sizeAt : GoodIn wsX3_block (wsV RX3 58 RX3 yX3_sizeAt wsX3_sizeAt) := goodIn_app (goodIn_of _ (by decide +kernel)) ggX3_block_X3_sizeAt
set_option maxRecDepth 20000 in
theorem ggX3_block_X3_refsAt : GoodIn wsX3_block wsX3_refsAt := goodIn_r _ [20, 16, 33, 34, 35, 36, 37, 38, 39, 40, 41, 42, 43, 44, 45, 46, 47, 48, 49, 50] (by decide +kernel) (by decide +kernel)
set_option maxRecDepth 20000 in
theorem gX3_block_X3_refsAt : GoodIn wsX3_block (wsV RX3 62 RX3 yX3_refsAt wsX3_refsAt) := goodIn_app (goodIn_of _ (by decide +kernel)) ggX3_block_X3_refsAt
set_option maxRecDepth 20000 in
theorem ggX3_block_X3_classOf : GoodIn wsX3_block wsX3_classOf := goodIn_r _ [24] (by decide +kernel) (by decide +kernel)
set_option maxRecDepth 20000 in
theorem gX3_block_X3_classOf : GoodIn wsX3_block (wsV RX3 73 RX3 yX3_classOf wsX3_classOf) := goodIn_app (goodIn_of _ (by decide +kernel)) ggX3_block_X3_classOf
set_option maxRecDepth 20000 in
theorem ggX3_block_X3_orderOf : GoodIn wsX3_block wsX3_orderOf := goodIn_r _ [28] (by decide +kernel) (by decide +kernel)
set_option maxRecDepth 20000 in
theorem gX3_block_X3_orderOf : GoodIn wsX3_block (wsV RX3 76 RX3 yX3_orderOf wsX3_orderOf) := goodIn_app (goodIn_of _ (by decide +kernel)) ggX3_block_X3_orderOf
set_option maxRecDepth 20000 in
theorem ggX3_block_X3_leading : GoodIn wsX3_block wsX3_leading := goodIn_r _ [32, 16, 7, 17, 18, 19, 5, 20, 33, 34, 35, 36, 37, 38, 39, 40, 41, 42, 43, 44, 45, 46, 47, 48, 49, 50] (by decide +kernel) (by decide +kernel)
set_option maxRecDepth 20000 in
theorem gX3_block_X3_leading : GoodIn wsX3_block (wsV RX3 106 RX3 yX3_leading wsX3_leading) := goodIn_app (goodIn_of _ (by decide +kernel)) ggX3_block_X3_leading
theorem dX3_block_0 : decode cX3_block 0 = .ok (.aload_n 0, 1) := by decide +kernel
theorem dX3_block_1 : decode cX3_block 1 = .ok (.iconst 0, 1) := by decide +kernel
theorem dX3_block_2 : decode cX3_block 2 = .ok (.putfield 47, 3) := by decide +kernel
theorem dX3_block_5 : decode cX3_block 5 = .ok (.aload_n 0, 1) := by decide +kernel
theorem dX3_block_6 : decode cX3_block 6 = .ok (.iload_n 1, 1) := by decide +kernel
theorem dX3_block_7 : decode cX3_block 7 = .ok (.invokevirtual 102, 3) := by decide +kernel
theorem dX3_block_10 : decode cX3_block 10 = .ok (.ifCond .ne 5, 3) := by decide +kernel
theorem dX3_block_13 : decode cX3_block 13 = .ok (.iconst (-1), 1) := by decide +kernel
theorem dX3_block_14 : decode cX3_block 14 = .ok (.ireturn, 1) := by decide +kernel
theorem dX3_block_15 : decode cX3_block 15 = .ok (.aload_n 0, 1) := by decide +kernel
theorem dX3_block_16 : decode cX3_block 16 = .ok (.iload_n 1, 1) := by decide +kernel
theorem dX3_block_17 : decode cX3_block 17 = .ok (.invokevirtual 58, 3) := by decide +kernel
theorem dX3_block_20 : decode cX3_block 20 = .ok (.iconst 1, 1) := by decide +kernel
theorem dX3_block_21 : decode cX3_block 21 = .ok (.iadd, 1) := by decide +kernel
theorem dX3_block_22 : decode cX3_block 22 = .ok (.istore_n 3, 1) := by decide +kernel
theorem dX3_block_23 : decode cX3_block 23 = .ok (.iload_n 2, 1) := by decide +kernel
theorem dX3_block_24 : decode cX3_block 24 = .ok (.tableswitch 74 0 4 #[36, 40, 46, 52, 68], 36) := by decide +kernel
theorem dX3_block_60 : decode cX3_block 60 = .ok (.iload_n 3, 1) := by decide +kernel
theorem dX3_block_61 : decode cX3_block 61 = .ok (.iconst 1, 1) := by decide +kernel
theorem dX3_block_62 : decode cX3_block 62 = .ok (.isub, 1) := by decide +kernel
theorem dX3_block_63 : decode cX3_block 63 = .ok (.ireturn, 1) := by decide +kernel
theorem dX3_block_64 : decode cX3_block 64 = .ok (.aload_n 0, 1) := by decide +kernel
theorem dX3_block_65 : decode cX3_block 65 = .ok (.iload_n 1, 1) := by decide +kernel
theorem dX3_block_66 : decode cX3_block 66 = .ok (.invokevirtual 62, 3) := by decide +kernel
theorem dX3_block_69 : decode cX3_block 69 = .ok (.ireturn, 1) := by decide +kernel
theorem dX3_block_70 : decode cX3_block 70 = .ok (.aload_n 0, 1) := by decide +kernel
theorem dX3_block_71 : decode cX3_block 71 = .ok (.iload_n 3, 1) := by decide +kernel
theorem dX3_block_72 : decode cX3_block 72 = .ok (.invokevirtual 73, 3) := by decide +kernel
theorem dX3_block_75 : decode cX3_block 75 = .ok (.ireturn, 1) := by decide +kernel
theorem dX3_block_76 : decode cX3_block 76 = .ok (.iload_n 3, 1) := by decide +kernel
theorem dX3_block_77 : decode cX3_block 77 = .ok (.bipush 8, 2) := by decide +kernel
theorem dX3_block_79 : decode cX3_block 79 = .ok (.if_icmp .le 11, 3) := by decide +kernel
theorem dX3_block_82 : decode cX3_block 82 = .ok (.aload_n 0, 1) := by decide +kernel
theorem dX3_block_83 : decode cX3_block 83 = .ok (.iload_n 3, 1) := by decide +kernel
theorem dX3_block_84 : decode cX3_block 84 = .ok (.invokevirtual 76, 3) := by decide +kernel
theorem dX3_block_87 : decode cX3_block 87 = .ok (.goto 4, 3) := by decide +kernel
theorem dX3_block_90 : decode cX3_block 90 = .ok (.iconst (-1), 1) := by decide +kernel
theorem dX3_block_91 : decode cX3_block 91 = .ok (.ireturn, 1) := by decide +kernel
theorem dX3_block_92 : decode cX3_block 92 = .ok (.aload_n 0, 1) := by decide +kernel
theorem dX3_block_93 : decode cX3_block 93 = .ok (.iload_n 1, 1) := by decide +kernel
theorem dX3_block_94 : decode cX3_block 94 = .ok (.invokevirtual 106, 3) := by decide +kernel
theorem dX3_block_97 : decode cX3_block 97 = .ok (.ireturn, 1) := by decide +kernel
theorem dX3_block_98 : decode cX3_block 98 = .ok (.iconst (-1), 1) := by decide +kernel
theorem dX3_block_99 : decode cX3_block 99 = .ok (.ireturn, 1) := by decide +kernel
theorem dX3_live_0 : decode cX3_live 0 = .ok (.aload_n 0, 1) := by decide +kernel
theorem dX3_live_1 : decode cX3_live 1 = .ok (.iconst 0, 1) := by decide +kernel
theorem dX3_live_2 : decode cX3_live 2 = .ok (.putfield 47, 3) := by decide +kernel
theorem dX3_live_5 : decode cX3_live 5 = .ok (.iload_n 1, 1) := by decide +kernel
theorem dX3_live_6 : decode cX3_live 6 = .ok (.istore_n 2, 1) := by decide +kernel
theorem dX3_live_7 : decode cX3_live 7 = .ok (.bipush 16, 2) := by decide +kernel
theorem dX3_live_9 : decode cX3_live 9 = .ok (.istore_n 3, 1) := by decide +kernel
theorem dX3_live_10 : decode cX3_live 10 = .ok (.iload_n 3, 1) := by decide +kernel
theorem dX3_live_11 : decode cX3_live 11 = .ok (.sipush 4096, 3) := by decide +kernel
theorem dX3_live_14 : decode cX3_live 14 = .ok (.if_icmp .ge 34, 3) := by decide +kernel
theorem dX3_live_17 : decode cX3_live 17 = .ok (.iload_n 2, 1) := by decide +kernel
theorem dX3_live_18 : decode cX3_live 18 = .ok (.ifCond .lt 30, 3) := by decide +kernel
theorem dX3_live_21 : decode cX3_live 21 = .ok (.aload_n 0, 1) := by decide +kernel
theorem dX3_live_22 : decode cX3_live 22 = .ok (.getfield 16, 3) := by decide +kernel
theorem dX3_live_25 : decode cX3_live 25 = .ok (.iload_n 3, 1) := by decide +kernel
theorem dX3_live_26 : decode cX3_live 26 = .ok (.baload, 1) := by decide +kernel
theorem dX3_live_27 : decode cX3_live 27 = .ok (.ifCond .ne 6, 3) := by decide +kernel
theorem dX3_live_30 : decode cX3_live 30 = .ok (.goto 12, 3) := by decide +kernel
theorem dX3_live_33 : decode cX3_live 33 = .ok (.iload_n 2, 1) := by decide +kernel
theorem dX3_live_34 : decode cX3_live 34 = .ok (.ifCond .ne 5, 3) := by decide +kernel
theorem dX3_live_37 : decode cX3_live 37 = .ok (.iload_n 3, 1) := by decide +kernel
theorem dX3_live_38 : decode cX3_live 38 = .ok (.ireturn, 1) := by decide +kernel
theorem dX3_live_39 : decode cX3_live 39 = .ok (.iinc 2 (-1), 3) := by decide +kernel
theorem dX3_live_42 : decode cX3_live 42 = .ok (.iinc 3 1, 3) := by decide +kernel
theorem dX3_live_45 : decode cX3_live 45 = .ok (.goto (-35), 3) := by decide +kernel
theorem dX3_live_48 : decode cX3_live 48 = .ok (.iconst (-1), 1) := by decide +kernel
theorem dX3_live_49 : decode cX3_live 49 = .ok (.ireturn, 1) := by decide +kernel
set_option maxRecDepth 20000 in
theorem ggX3_page_X3_is : GoodIn wsX3_page wsX3_is := goodIn_r _ [10] (by decide +kernel) (by decide +kernel)
set_option maxRecDepth 20000 in
theorem gX3_page_X3_is : GoodIn wsX3_page (wsV RX3 69 RX3 yX3_is wsX3_is) := goodIn_app (goodIn_of _ (by decide +kernel)) ggX3_page_X3_is
set_option maxRecDepth 20000 in
theorem ggX3_page_X3_map : GoodIn wsX3_page wsX3_map := goodIn_r _ [14, 2, 3, 5, 4, 15, 16, 17, 18, 19, 9, 20, 21, 22, 23, 24, 25, 26, 27, 28, 29, 30, 31, 32, 33, 34, 35, 36, 37, 38, 39, 40, 41, 42, 43, 44, 45, 46, 47, 48, 49, 50, 51] (by decide +kernel) (by decide +kernel)
set_option maxRecDepth 20000 in
theorem gX3_page_X3_map : GoodIn wsX3_page (wsV RX3 83 RX3 yX3_map wsX3_map) := goodIn_app (goodIn_of _ (by decide +kernel)) ggX3_page_X3_map
theorem dX3_page_0 : decode cX3_page 0 = .ok (.aload_n 0, 1) := by decide +kernel
theorem dX3_page_1 : decode cX3_page 1 = .ok (.iconst 0, 1) := by decide +kernel
theorem dX3_page_2 : decode cX3_page 2 = .ok (.putfield 47, 3) := by decide +kernel
theorem dX3_page_5 : decode cX3_page 5 = .ok (.aload_n 0, 1) := by decide +kernel
theorem dX3_page_6 : decode cX3_page 6 = .ok (.iload_n 1, 1) := by decide +kernel
theorem dX3_page_7 : decode cX3_page 7 = .ok (.iconst 0, 1) := by decide +kernel
theorem dX3_page_8 : decode cX3_page 8 = .ok (.sipush 255, 3) := by decide +kernel
theorem dX3_page_11 : decode cX3_page 11 = .ok (.invokevirtual 69, 3) := by decide +kernel
theorem dX3_page_14 : decode cX3_page 14 = .ok (.ifCond .ne 5, 3) := by decide +kernel
theorem dX3_page_17 : decode cX3_page 17 = .ok (.iconst (-1), 1) := by decide +kernel
theorem dX3_page_18 : decode cX3_page 18 = .ok (.ireturn, 1) := by decide +kernel
theorem dX3_page_19 : decode cX3_page 19 = .ok (.aload_n 0, 1) := by decide +kernel
theorem dX3_page_20 : decode cX3_page 20 = .ok (.invokevirtual 83, 3) := by decide +kernel
theorem dX3_page_23 : decode cX3_page 23 = .ok (.iload_n 2, 1) := by decide +kernel
theorem dX3_page_24 : decode cX3_page 24 = .ok (.tableswitch 60 0 3 #[32, 39, 46, 53], 32) := by decide +kernel
theorem dX3_page_56 : decode cX3_page 56 = .ok (.aload_n 0, 1) := by decide +kernel
theorem dX3_page_57 : decode cX3_page 57 = .ok (.getfield 26, 3) := by decide +kernel
theorem dX3_page_60 : decode cX3_page 60 = .ok (.iload_n 1, 1) := by decide +kernel
theorem dX3_page_61 : decode cX3_page 61 = .ok (.iaload, 1) := by decide +kernel
theorem dX3_page_62 : decode cX3_page 62 = .ok (.ireturn, 1) := by decide +kernel
theorem dX3_page_63 : decode cX3_page 63 = .ok (.aload_n 0, 1) := by decide +kernel
theorem dX3_page_64 : decode cX3_page 64 = .ok (.getfield 29, 3) := by decide +kernel
theorem dX3_page_67 : decode cX3_page 67 = .ok (.iload_n 1, 1) := by decide +kernel
theorem dX3_page_68 : decode cX3_page 68 = .ok (.iaload, 1) := by decide +kernel
theorem dX3_page_69 : decode cX3_page 69 = .ok (.ireturn, 1) := by decide +kernel
theorem dX3_page_70 : decode cX3_page 70 = .ok (.aload_n 0, 1) := by decide +kernel
theorem dX3_page_71 : decode cX3_page 71 = .ok (.getfield 35, 3) := by decide +kernel
theorem dX3_page_74 : decode cX3_page 74 = .ok (.iload_n 1, 1) := by decide +kernel
theorem dX3_page_75 : decode cX3_page 75 = .ok (.iaload, 1) := by decide +kernel
theorem dX3_page_76 : decode cX3_page 76 = .ok (.ireturn, 1) := by decide +kernel
theorem dX3_page_77 : decode cX3_page 77 = .ok (.aload_n 0, 1) := by decide +kernel
theorem dX3_page_78 : decode cX3_page 78 = .ok (.getfield 32, 3) := by decide +kernel
theorem dX3_page_81 : decode cX3_page 81 = .ok (.iload_n 1, 1) := by decide +kernel
theorem dX3_page_82 : decode cX3_page 82 = .ok (.iaload, 1) := by decide +kernel
theorem dX3_page_83 : decode cX3_page 83 = .ok (.ireturn, 1) := by decide +kernel
theorem dX3_page_84 : decode cX3_page 84 = .ok (.iconst (-1), 1) := by decide +kernel
theorem dX3_page_85 : decode cX3_page 85 = .ok (.ireturn, 1) := by decide +kernel
set_option maxRecDepth 20000 in
theorem ggX3_extents_X3_is : GoodIn wsX3_extents wsX3_is := goodIn_r _ [8] (by decide +kernel) (by decide +kernel)
set_option maxRecDepth 20000 in
theorem gX3_extents_X3_is : GoodIn wsX3_extents (wsV RX3 69 RX3 yX3_is wsX3_is) := goodIn_app (goodIn_of _ (by decide +kernel)) ggX3_extents_X3_is
set_option maxRecDepth 20000 in
theorem ggX3_extents_X3_map : GoodIn wsX3_extents wsX3_map := goodIn_r _ [12, 13, 14, 3, 15, 2, 16, 17, 18, 19, 7, 20, 21, 22, 23, 24, 25, 26, 27, 28, 29, 30, 31, 32, 33, 34, 35, 36, 37, 38, 39, 40, 41, 42, 43, 44, 45, 46, 47, 48, 49, 50, 51] (by decide +kernel) (by decide +kernel)
set_option maxRecDepth 20000 in
theorem gX3_extents_X3_map : GoodIn wsX3_extents (wsV RX3 83 RX3 yX3_map wsX3_map) := goodIn_app (goodIn_of _ (by decide +kernel)) ggX3_extents_X3_map
theorem dX3_extents_0 : decode cX3_extents 0 = .ok (.aload_n 0, 1) := by decide +kernel
theorem dX3_extents_1 : decode cX3_extents 1 = .ok (.iconst 0, 1) := by decide +kernel
theorem dX3_extents_2 : decode cX3_extents 2 = .ok (.putfield 47, 3) := by decide +kernel
theorem dX3_extents_5 : decode cX3_extents 5 = .ok (.aload_n 0, 1) := by decide +kernel
theorem dX3_extents_6 : decode cX3_extents 6 = .ok (.iload_n 1, 1) := by decide +kernel
theorem dX3_extents_7 : decode cX3_extents 7 = .ok (.iconst 0, 1) := by decide +kernel
theorem dX3_extents_8 : decode cX3_extents 8 = .ok (.bipush 8, 2) := by decide +kernel
theorem dX3_extents_10 : decode cX3_extents 10 = .ok (.invokevirtual 69, 3) := by decide +kernel
theorem dX3_extents_13 : decode cX3_extents 13 = .ok (.ifCond .ne 5, 3) := by decide +kernel
theorem dX3_extents_16 : decode cX3_extents 16 = .ok (.iconst (-1), 1) := by decide +kernel
theorem dX3_extents_17 : decode cX3_extents 17 = .ok (.ireturn, 1) := by decide +kernel
theorem dX3_extents_18 : decode cX3_extents 18 = .ok (.aload_n 0, 1) := by decide +kernel
theorem dX3_extents_19 : decode cX3_extents 19 = .ok (.invokevirtual 83, 3) := by decide +kernel
theorem dX3_extents_22 : decode cX3_extents 22 = .ok (.iconst 0, 1) := by decide +kernel
theorem dX3_extents_23 : decode cX3_extents 23 = .ok (.istore_n 2, 1) := by decide +kernel
theorem dX3_extents_24 : decode cX3_extents 24 = .ok (.iconst 0, 1) := by decide +kernel
theorem dX3_extents_25 : decode cX3_extents 25 = .ok (.istore_n 3, 1) := by decide +kernel
theorem dX3_extents_26 : decode cX3_extents 26 = .ok (.iload_n 3, 1) := by decide +kernel
theorem dX3_extents_27 : decode cX3_extents 27 = .ok (.sipush 256, 3) := by decide +kernel
theorem dX3_extents_30 : decode cX3_extents 30 = .ok (.if_icmp .ge 37, 3) := by decide +kernel
theorem dX3_extents_33 : decode cX3_extents 33 = .ok (.iload_n 2, 1) := by decide +kernel
theorem dX3_extents_34 : decode cX3_extents 34 = .ok (.aload_n 0, 1) := by decide +kernel
theorem dX3_extents_35 : decode cX3_extents 35 = .ok (.getfield 38, 3) := by decide +kernel
theorem dX3_extents_38 : decode cX3_extents 38 = .ok (.iload_n 3, 1) := by decide +kernel
theorem dX3_extents_39 : decode cX3_extents 39 = .ok (.iaload, 1) := by decide +kernel
theorem dX3_extents_40 : decode cX3_extents 40 = .ok (.iload_n 1, 1) := by decide +kernel
theorem dX3_extents_41 : decode cX3_extents 41 = .ok (.if_icmp .ne 17, 3) := by decide +kernel
theorem dX3_extents_44 : decode cX3_extents 44 = .ok (.aload_n 0, 1) := by decide +kernel
theorem dX3_extents_45 : decode cX3_extents 45 = .ok (.getfield 32, 3) := by decide +kernel
theorem dX3_extents_48 : decode cX3_extents 48 = .ok (.iload_n 3, 1) := by decide +kernel
theorem dX3_extents_49 : decode cX3_extents 49 = .ok (.iaload, 1) := by decide +kernel
theorem dX3_extents_50 : decode cX3_extents 50 = .ok (.iload_n 3, 1) := by decide +kernel
theorem dX3_extents_51 : decode cX3_extents 51 = .ok (.if_icmp .ne 7, 3) := by decide +kernel
theorem dX3_extents_54 : decode cX3_extents 54 = .ok (.iconst 1, 1) := by decide +kernel
theorem dX3_extents_55 : decode cX3_extents 55 = .ok (.goto 4, 3) := by decide +kernel
theorem dX3_extents_58 : decode cX3_extents 58 = .ok (.iconst 0, 1) := by decide +kernel
theorem dX3_extents_59 : decode cX3_extents 59 = .ok (.iadd, 1) := by decide +kernel
theorem dX3_extents_60 : decode cX3_extents 60 = .ok (.istore_n 2, 1) := by decide +kernel
theorem dX3_extents_61 : decode cX3_extents 61 = .ok (.iinc 3 1, 3) := by decide +kernel
theorem dX3_extents_64 : decode cX3_extents 64 = .ok (.goto (-38), 3) := by decide +kernel
theorem dX3_extents_67 : decode cX3_extents 67 = .ok (.iload_n 2, 1) := by decide +kernel
theorem dX3_extents_68 : decode cX3_extents 68 = .ok (.ireturn, 1) := by decide +kernel
set_option maxRecDepth 20000 in
theorem ggX3_next_X3_is : GoodIn wsX3_next wsX3_is := goodIn_r _ [6] (by decide +kernel) (by decide +kernel)
set_option maxRecDepth 20000 in
theorem gX3_next_X3_is : GoodIn wsX3_next (wsV RX3 69 RX3 yX3_is wsX3_is) := goodIn_app (goodIn_of _ (by decide +kernel)) ggX3_next_X3_is
set_option maxRecDepth 20000 in
theorem ggX3_next_X3_map : GoodIn wsX3_next wsX3_map := goodIn_r _ [10, 11, 12, 13, 14, 15, 16, 17, 18, 19, 5, 20, 21, 22, 23, 24, 25, 26, 27, 28, 29, 30, 31, 32, 33, 38, 39, 40, 41, 42, 43, 44, 45, 46, 47, 48, 49, 50, 51, 52, 53, 54, 55] (by decide +kernel) (by decide +kernel)
set_option maxRecDepth 20000 in
theorem gX3_next_X3_map : GoodIn wsX3_next (wsV RX3 83 RX3 yX3_map wsX3_map) := goodIn_app (goodIn_of _ (by decide +kernel)) ggX3_next_X3_map
set_option maxRecDepth 20000 in
theorem ggX3_next_X3_taken : GoodIn wsX3_next wsX3_taken := goodIn_r _ [37, 15, 13, 38, 39, 40, 41, 42, 43, 44, 45, 46, 47, 48, 49, 50, 51, 52, 53, 54, 55] (by decide +kernel) (by decide +kernel)
set_option maxRecDepth 20000 in
theorem gX3_next_X3_taken : GoodIn wsX3_next (wsV RX3 86 RX3 yX3_taken wsX3_taken) := goodIn_app (goodIn_of _ (by decide +kernel)) ggX3_next_X3_taken
theorem dX3_next_0 : decode cX3_next 0 = .ok (.aload_n 0, 1) := by decide +kernel
theorem dX3_next_1 : decode cX3_next 1 = .ok (.iconst 0, 1) := by decide +kernel
theorem dX3_next_2 : decode cX3_next 2 = .ok (.putfield 47, 3) := by decide +kernel
theorem dX3_next_5 : decode cX3_next 5 = .ok (.aload_n 0, 1) := by decide +kernel
theorem dX3_next_6 : decode cX3_next 6 = .ok (.iload_n 1, 1) := by decide +kernel
theorem dX3_next_7 : decode cX3_next 7 = .ok (.iconst 0, 1) := by decide +kernel
theorem dX3_next_8 : decode cX3_next 8 = .ok (.bipush 8, 2) := by decide +kernel
theorem dX3_next_10 : decode cX3_next 10 = .ok (.invokevirtual 69, 3) := by decide +kernel
theorem dX3_next_13 : decode cX3_next 13 = .ok (.ifCond .ne 5, 3) := by decide +kernel
theorem dX3_next_16 : decode cX3_next 16 = .ok (.iconst (-1), 1) := by decide +kernel
theorem dX3_next_17 : decode cX3_next 17 = .ok (.ireturn, 1) := by decide +kernel
theorem dX3_next_18 : decode cX3_next 18 = .ok (.aload_n 0, 1) := by decide +kernel
theorem dX3_next_19 : decode cX3_next 19 = .ok (.invokevirtual 83, 3) := by decide +kernel
theorem dX3_next_22 : decode cX3_next 22 = .ok (.aload_n 0, 1) := by decide +kernel
theorem dX3_next_23 : decode cX3_next 23 = .ok (.iload_n 1, 1) := by decide +kernel
theorem dX3_next_24 : decode cX3_next 24 = .ok (.invokevirtual 86, 3) := by decide +kernel
theorem dX3_next_27 : decode cX3_next 27 = .ok (.ireturn, 1) := by decide +kernel
set_option maxRecDepth 20000 in
theorem ggX3_count_X3_map : GoodIn wsX3_count wsX3_map := goodIn_r _ [12, 3, 13, 14, 4, 15, 2, 16, 17, 18, 11, 19, 20, 21, 22, 23, 24, 25, 26, 27, 28, 29, 30, 31, 32, 37, 38, 39, 40, 41, 42, 43, 44, 45, 46, 47, 48, 49, 50, 51, 52, 53, 54] (by decide +kernel) (by decide +kernel)
set_option maxRecDepth 20000 in
theorem gX3_count_X3_map : GoodIn wsX3_count (wsV RX3 83 RX3 yX3_map wsX3_map) := goodIn_app (goodIn_of _ (by decide +kernel)) ggX3_count_X3_map
set_option maxRecDepth 20000 in
theorem ggX3_count_X3_slots : GoodIn wsX3_count wsX3_slots := goodIn_r _ [36, 13, 37, 38, 39, 40, 41, 42, 43, 44, 45, 46, 47, 48, 49, 50, 51, 52, 53, 54] (by decide +kernel) (by decide +kernel)
set_option maxRecDepth 20000 in
theorem gX3_count_X3_slots : GoodIn wsX3_count (wsV RX3 89 RX3 yX3_slots wsX3_slots) := goodIn_app (goodIn_of _ (by decide +kernel)) ggX3_count_X3_slots
set_option maxRecDepth 20000 in
theorem ggX3_count_X3_sizeAt : GoodIn wsX3_count wsX3_sizeAt := goodIn_r _ [19, 20, 37, 38, 39, 40, 41, 42, 43, 44, 45, 46, 47, 48, 49, 50, 51, 52, 53, 54] (by decide +kernel) (by decide +kernel)
set_option maxRecDepth 20000 in
theorem gX3_count_X3_sizeAt : GoodIn wsX3_count (wsV RX3 58 RX3 yX3_sizeAt wsX3_sizeAt) := goodIn_app (goodIn_of _ (by decide +kernel)) ggX3_count_X3_sizeAt
theorem dX3_count_0 : decode cX3_count 0 = .ok (.aload_n 0, 1) := by decide +kernel
theorem dX3_count_1 : decode cX3_count 1 = .ok (.iconst 0, 1) := by decide +kernel
theorem dX3_count_2 : decode cX3_count 2 = .ok (.putfield 47, 3) := by decide +kernel
theorem dX3_count_5 : decode cX3_count 5 = .ok (.aload_n 0, 1) := by decide +kernel
theorem dX3_count_6 : decode cX3_count 6 = .ok (.invokevirtual 83, 3) := by decide +kernel
theorem dX3_count_9 : decode cX3_count 9 = .ok (.iconst 0, 1) := by decide +kernel
theorem dX3_count_10 : decode cX3_count 10 = .ok (.istore_n 2, 1) := by decide +kernel
theorem dX3_count_11 : decode cX3_count 11 = .ok (.iload_n 1, 1) := by decide +kernel
theorem dX3_count_12 : decode cX3_count 12 = .ok (.tableswitch 254 0 7 #[48, 83, 117, 152, 198, 203, 208, 249], 48) := by decide +kernel
theorem dX3_count_60 : decode cX3_count 60 = .ok (.bipush 16, 2) := by decide +kernel
theorem dX3_count_62 : decode cX3_count 62 = .ok (.istore_n 3, 1) := by decide +kernel
theorem dX3_count_63 : decode cX3_count 63 = .ok (.iload_n 3, 1) := by decide +kernel
theorem dX3_count_64 : decode cX3_count 64 = .ok (.sipush 4096, 3) := by decide +kernel
theorem dX3_count_67 : decode cX3_count 67 = .ok (.if_icmp .ge 26, 3) := by decide +kernel
theorem dX3_count_70 : decode cX3_count 70 = .ok (.iload_n 2, 1) := by decide +kernel
theorem dX3_count_71 : decode cX3_count 71 = .ok (.aload_n 0, 1) := by decide +kernel
theorem dX3_count_72 : decode cX3_count 72 = .ok (.getfield 16, 3) := by decide +kernel
theorem dX3_count_75 : decode cX3_count 75 = .ok (.iload_n 3, 1) := by decide +kernel
theorem dX3_count_76 : decode cX3_count 76 = .ok (.baload, 1) := by decide +kernel
theorem dX3_count_77 : decode cX3_count 77 = .ok (.ifCond .eq 7, 3) := by decide +kernel
theorem dX3_count_80 : decode cX3_count 80 = .ok (.iconst 1, 1) := by decide +kernel
theorem dX3_count_81 : decode cX3_count 81 = .ok (.goto 4, 3) := by decide +kernel
theorem dX3_count_84 : decode cX3_count 84 = .ok (.iconst 0, 1) := by decide +kernel
theorem dX3_count_85 : decode cX3_count 85 = .ok (.iadd, 1) := by decide +kernel
theorem dX3_count_86 : decode cX3_count 86 = .ok (.istore_n 2, 1) := by decide +kernel
theorem dX3_count_87 : decode cX3_count 87 = .ok (.iinc 3 1, 3) := by decide +kernel
theorem dX3_count_90 : decode cX3_count 90 = .ok (.goto (-27), 3) := by decide +kernel
theorem dX3_count_93 : decode cX3_count 93 = .ok (.iload_n 2, 1) := by decide +kernel
theorem dX3_count_94 : decode cX3_count 94 = .ok (.ireturn, 1) := by decide +kernel
theorem dX3_count_95 : decode cX3_count 95 = .ok (.iconst 0, 1) := by decide +kernel
theorem dX3_count_96 : decode cX3_count 96 = .ok (.istore_n 3, 1) := by decide +kernel
theorem dX3_count_97 : decode cX3_count 97 = .ok (.iload_n 3, 1) := by decide +kernel
theorem dX3_count_98 : decode cX3_count 98 = .ok (.sipush 256, 3) := by decide +kernel
theorem dX3_count_101 : decode cX3_count 101 = .ok (.if_icmp .ge 26, 3) := by decide +kernel
theorem dX3_count_104 : decode cX3_count 104 = .ok (.iload_n 2, 1) := by decide +kernel
theorem dX3_count_105 : decode cX3_count 105 = .ok (.aload_n 0, 1) := by decide +kernel
theorem dX3_count_106 : decode cX3_count 106 = .ok (.getfield 26, 3) := by decide +kernel
theorem dX3_count_109 : decode cX3_count 109 = .ok (.iload_n 3, 1) := by decide +kernel
theorem dX3_count_110 : decode cX3_count 110 = .ok (.iaload, 1) := by decide +kernel
theorem dX3_count_111 : decode cX3_count 111 = .ok (.ifCond .ne 7, 3) := by decide +kernel
theorem dX3_count_114 : decode cX3_count 114 = .ok (.iconst 1, 1) := by decide +kernel
theorem dX3_count_115 : decode cX3_count 115 = .ok (.goto 4, 3) := by decide +kernel
theorem dX3_count_118 : decode cX3_count 118 = .ok (.iconst 0, 1) := by decide +kernel
theorem dX3_count_119 : decode cX3_count 119 = .ok (.iadd, 1) := by decide +kernel
theorem dX3_count_120 : decode cX3_count 120 = .ok (.istore_n 2, 1) := by decide +kernel
theorem dX3_count_121 : decode cX3_count 121 = .ok (.iinc 3 1, 3) := by decide +kernel
theorem dX3_count_124 : decode cX3_count 124 = .ok (.goto (-27), 3) := by decide +kernel
theorem dX3_count_127 : decode cX3_count 127 = .ok (.iload_n 2, 1) := by decide +kernel
theorem dX3_count_128 : decode cX3_count 128 = .ok (.ireturn, 1) := by decide +kernel
theorem dX3_count_129 : decode cX3_count 129 = .ok (.iconst 0, 1) := by decide +kernel
theorem dX3_count_130 : decode cX3_count 130 = .ok (.istore_n 3, 1) := by decide +kernel
theorem dX3_count_131 : decode cX3_count 131 = .ok (.iload_n 3, 1) := by decide +kernel
theorem dX3_count_132 : decode cX3_count 132 = .ok (.sipush 256, 3) := by decide +kernel
theorem dX3_count_135 : decode cX3_count 135 = .ok (.if_icmp .ge 27, 3) := by decide +kernel
theorem dX3_count_138 : decode cX3_count 138 = .ok (.iload_n 2, 1) := by decide +kernel
theorem dX3_count_139 : decode cX3_count 139 = .ok (.aload_n 0, 1) := by decide +kernel
theorem dX3_count_140 : decode cX3_count 140 = .ok (.getfield 26, 3) := by decide +kernel
theorem dX3_count_143 : decode cX3_count 143 = .ok (.iload_n 3, 1) := by decide +kernel
theorem dX3_count_144 : decode cX3_count 144 = .ok (.iaload, 1) := by decide +kernel
theorem dX3_count_145 : decode cX3_count 145 = .ok (.iconst 1, 1) := by decide +kernel
theorem dX3_count_146 : decode cX3_count 146 = .ok (.if_icmp .ne 7, 3) := by decide +kernel
theorem dX3_count_149 : decode cX3_count 149 = .ok (.iconst 1, 1) := by decide +kernel
theorem dX3_count_150 : decode cX3_count 150 = .ok (.goto 4, 3) := by decide +kernel
theorem dX3_count_153 : decode cX3_count 153 = .ok (.iconst 0, 1) := by decide +kernel
theorem dX3_count_154 : decode cX3_count 154 = .ok (.iadd, 1) := by decide +kernel
theorem dX3_count_155 : decode cX3_count 155 = .ok (.istore_n 2, 1) := by decide +kernel
theorem dX3_count_156 : decode cX3_count 156 = .ok (.iinc 3 1, 3) := by decide +kernel
theorem dX3_count_159 : decode cX3_count 159 = .ok (.goto (-28), 3) := by decide +kernel
theorem dX3_count_162 : decode cX3_count 162 = .ok (.iload_n 2, 1) := by decide +kernel
theorem dX3_count_163 : decode cX3_count 163 = .ok (.ireturn, 1) := by decide +kernel
theorem dX3_count_164 : decode cX3_count 164 = .ok (.iconst 0, 1) := by decide +kernel
theorem dX3_count_165 : decode cX3_count 165 = .ok (.istore_n 3, 1) := by decide +kernel
theorem dX3_count_166 : decode cX3_count 166 = .ok (.iload_n 3, 1) := by decide +kernel
theorem dX3_count_167 : decode cX3_count 167 = .ok (.sipush 256, 3) := by decide +kernel
theorem dX3_count_170 : decode cX3_count 170 = .ok (.if_icmp .ge 38, 3) := by decide +kernel
theorem dX3_count_173 : decode cX3_count 173 = .ok (.iload_n 2, 1) := by decide +kernel
theorem dX3_count_174 : decode cX3_count 174 = .ok (.aload_n 0, 1) := by decide +kernel
theorem dX3_count_175 : decode cX3_count 175 = .ok (.getfield 26, 3) := by decide +kernel
theorem dX3_count_178 : decode cX3_count 178 = .ok (.iload_n 3, 1) := by decide +kernel
theorem dX3_count_179 : decode cX3_count 179 = .ok (.iaload, 1) := by decide +kernel
theorem dX3_count_180 : decode cX3_count 180 = .ok (.iconst 1, 1) := by decide +kernel
theorem dX3_count_181 : decode cX3_count 181 = .ok (.if_icmp .ne 18, 3) := by decide +kernel
theorem dX3_count_184 : decode cX3_count 184 = .ok (.aload_n 0, 1) := by decide +kernel
theorem dX3_count_185 : decode cX3_count 185 = .ok (.iload_n 3, 1) := by decide +kernel
theorem dX3_count_186 : decode cX3_count 186 = .ok (.invokevirtual 89, 3) := by decide +kernel
theorem dX3_count_189 : decode cX3_count 189 = .ok (.aload_n 0, 1) := by decide +kernel
theorem dX3_count_190 : decode cX3_count 190 = .ok (.getfield 35, 3) := by decide +kernel
theorem dX3_count_193 : decode cX3_count 193 = .ok (.iload_n 3, 1) := by decide +kernel
theorem dX3_count_194 : decode cX3_count 194 = .ok (.iaload, 1) := by decide +kernel
theorem dX3_count_195 : decode cX3_count 195 = .ok (.isub, 1) := by decide +kernel
theorem dX3_count_196 : decode cX3_count 196 = .ok (.goto 4, 3) := by decide +kernel
theorem dX3_count_199 : decode cX3_count 199 = .ok (.iconst 0, 1) := by decide +kernel
theorem dX3_count_200 : decode cX3_count 200 = .ok (.iadd, 1) := by decide +kernel
theorem dX3_count_201 : decode cX3_count 201 = .ok (.istore_n 2, 1) := by decide +kernel
theorem dX3_count_202 : decode cX3_count 202 = .ok (.iinc 3 1, 3) := by decide +kernel
theorem dX3_count_205 : decode cX3_count 205 = .ok (.goto (-39), 3) := by decide +kernel
theorem dX3_count_208 : decode cX3_count 208 = .ok (.iload_n 2, 1) := by decide +kernel
theorem dX3_count_209 : decode cX3_count 209 = .ok (.ireturn, 1) := by decide +kernel
theorem dX3_count_210 : decode cX3_count 210 = .ok (.aload_n 0, 1) := by decide +kernel
theorem dX3_count_211 : decode cX3_count 211 = .ok (.getfield 54, 3) := by decide +kernel
theorem dX3_count_214 : decode cX3_count 214 = .ok (.ireturn, 1) := by decide +kernel
theorem dX3_count_215 : decode cX3_count 215 = .ok (.aload_n 0, 1) := by decide +kernel
theorem dX3_count_216 : decode cX3_count 216 = .ok (.getfield 125, 3) := by decide +kernel
theorem dX3_count_219 : decode cX3_count 219 = .ok (.ireturn, 1) := by decide +kernel
theorem dX3_count_220 : decode cX3_count 220 = .ok (.bipush 16, 2) := by decide +kernel
theorem dX3_count_222 : decode cX3_count 222 = .ok (.istore_n 3, 1) := by decide +kernel
theorem dX3_count_223 : decode cX3_count 223 = .ok (.iload_n 3, 1) := by decide +kernel
theorem dX3_count_224 : decode cX3_count 224 = .ok (.sipush 4096, 3) := by decide +kernel
theorem dX3_count_227 : decode cX3_count 227 = .ok (.if_icmp .ge 32, 3) := by decide +kernel
theorem dX3_count_230 : decode cX3_count 230 = .ok (.iload_n 2, 1) := by decide +kernel
theorem dX3_count_231 : decode cX3_count 231 = .ok (.aload_n 0, 1) := by decide +kernel
theorem dX3_count_232 : decode cX3_count 232 = .ok (.getfield 16, 3) := by decide +kernel
theorem dX3_count_235 : decode cX3_count 235 = .ok (.iload_n 3, 1) := by decide +kernel
theorem dX3_count_236 : decode cX3_count 236 = .ok (.baload, 1) := by decide +kernel
theorem dX3_count_237 : decode cX3_count 237 = .ok (.ifCond .eq 13, 3) := by decide +kernel
theorem dX3_count_240 : decode cX3_count 240 = .ok (.aload_n 0, 1) := by decide +kernel
theorem dX3_count_241 : decode cX3_count 241 = .ok (.iload_n 3, 1) := by decide +kernel
theorem dX3_count_242 : decode cX3_count 242 = .ok (.invokevirtual 58, 3) := by decide +kernel
theorem dX3_count_245 : decode cX3_count 245 = .ok (.iconst 1, 1) := by decide +kernel
theorem dX3_count_246 : decode cX3_count 246 = .ok (.iadd, 1) := by decide +kernel
theorem dX3_count_247 : decode cX3_count 247 = .ok (.goto 4, 3) := by decide +kernel
theorem dX3_count_250 : decode cX3_count 250 = .ok (.iconst 0, 1) := by decide +kernel
theorem dX3_count_251 : decode cX3_count 251 = .ok (.iadd, 1) := by decide +kernel
theorem dX3_count_252 : decode cX3_count 252 = .ok (.istore_n 2, 1) := by decide +kernel
theorem dX3_count_253 : decode cX3_count 253 = .ok (.iinc 3 1, 3) := by decide +kernel
theorem dX3_count_256 : decode cX3_count 256 = .ok (.goto (-33), 3) := by decide +kernel
theorem dX3_count_259 : decode cX3_count 259 = .ok (.iload_n 2, 1) := by decide +kernel
theorem dX3_count_260 : decode cX3_count 260 = .ok (.ireturn, 1) := by decide +kernel
theorem dX3_count_261 : decode cX3_count 261 = .ok (.aload_n 0, 1) := by decide +kernel
theorem dX3_count_262 : decode cX3_count 262 = .ok (.getfield 122, 3) := by decide +kernel
theorem dX3_count_265 : decode cX3_count 265 = .ok (.ireturn, 1) := by decide +kernel
theorem dX3_count_266 : decode cX3_count 266 = .ok (.iconst (-1), 1) := by decide +kernel
theorem dX3_count_267 : decode cX3_count 267 = .ok (.ireturn, 1) := by decide +kernel
set_option maxRecDepth 20000 in
theorem ggX3_head_X3_is : GoodIn wsX3_head wsX3_is := goodIn_r _ [6] (by decide +kernel) (by decide +kernel)
set_option maxRecDepth 20000 in
theorem gX3_head_X3_is : GoodIn wsX3_head (wsV RX3 69 RX3 yX3_is wsX3_is) := goodIn_app (goodIn_of _ (by decide +kernel)) ggX3_head_X3_is
set_option maxRecDepth 20000 in
theorem ggX3_head_X3_headOf : GoodIn wsX3_head wsX3_headOf := goodIn_r _ [10, 11] (by decide +kernel) (by decide +kernel)
set_option maxRecDepth 20000 in
theorem gX3_head_X3_headOf : GoodIn wsX3_head (wsV RX3 65 RX3 yX3_headOf wsX3_headOf) := goodIn_app (goodIn_of _ (by decide +kernel)) ggX3_head_X3_headOf
theorem dX3_head_0 : decode cX3_head 0 = .ok (.aload_n 0, 1) := by decide +kernel
theorem dX3_head_1 : decode cX3_head 1 = .ok (.iconst 0, 1) := by decide +kernel
theorem dX3_head_2 : decode cX3_head 2 = .ok (.putfield 47, 3) := by decide +kernel
theorem dX3_head_5 : decode cX3_head 5 = .ok (.aload_n 0, 1) := by decide +kernel
theorem dX3_head_6 : decode cX3_head 6 = .ok (.iload_n 1, 1) := by decide +kernel
theorem dX3_head_7 : decode cX3_head 7 = .ok (.bipush 16, 2) := by decide +kernel
theorem dX3_head_9 : decode cX3_head 9 = .ok (.sipush 4095, 3) := by decide +kernel
theorem dX3_head_12 : decode cX3_head 12 = .ok (.invokevirtual 69, 3) := by decide +kernel
theorem dX3_head_15 : decode cX3_head 15 = .ok (.ifCond .eq 35, 3) := by decide +kernel
theorem dX3_head_18 : decode cX3_head 18 = .ok (.aload_n 0, 1) := by decide +kernel
theorem dX3_head_19 : decode cX3_head 19 = .ok (.iload_n 2, 1) := by decide +kernel
theorem dX3_head_20 : decode cX3_head 20 = .ok (.iconst 1, 1) := by decide +kernel
theorem dX3_head_21 : decode cX3_head 21 = .ok (.sipush 2047, 3) := by decide +kernel
theorem dX3_head_24 : decode cX3_head 24 = .ok (.invokevirtual 69, 3) := by decide +kernel
theorem dX3_head_27 : decode cX3_head 27 = .ok (.ifCond .eq 23, 3) := by decide +kernel
theorem dX3_head_30 : decode cX3_head 30 = .ok (.aload_n 0, 1) := by decide +kernel
theorem dX3_head_31 : decode cX3_head 31 = .ok (.iload_n 3, 1) := by decide +kernel
theorem dX3_head_32 : decode cX3_head 32 = .ok (.iconst 0, 1) := by decide +kernel
theorem dX3_head_33 : decode cX3_head 33 = .ok (.iload_n 2, 1) := by decide +kernel
theorem dX3_head_34 : decode cX3_head 34 = .ok (.invokevirtual 69, 3) := by decide +kernel
theorem dX3_head_37 : decode cX3_head 37 = .ok (.ifCond .eq 13, 3) := by decide +kernel
theorem dX3_head_40 : decode cX3_head 40 = .ok (.aload_n 0, 1) := by decide +kernel
theorem dX3_head_41 : decode cX3_head 41 = .ok (.iload_n 1, 1) := by decide +kernel
theorem dX3_head_42 : decode cX3_head 42 = .ok (.iload_n 2, 1) := by decide +kernel
theorem dX3_head_43 : decode cX3_head 43 = .ok (.iload_n 3, 1) := by decide +kernel
theorem dX3_head_44 : decode cX3_head 44 = .ok (.invokevirtual 65, 3) := by decide +kernel
theorem dX3_head_47 : decode cX3_head 47 = .ok (.goto 4, 3) := by decide +kernel
theorem dX3_head_50 : decode cX3_head 50 = .ok (.iconst 0, 1) := by decide +kernel
theorem dX3_head_51 : decode cX3_head 51 = .ok (.ireturn, 1) := by decide +kernel
set_option maxRecDepth 20000 in
theorem ggX3_waits_X3_is : GoodIn wsX3_waits wsX3_is := goodIn_r _ [8] (by decide +kernel) (by decide +kernel)
set_option maxRecDepth 20000 in
theorem gX3_waits_X3_is : GoodIn wsX3_waits (wsV RX3 69 RX3 yX3_is wsX3_is) := goodIn_app (goodIn_of _ (by decide +kernel)) ggX3_waits_X3_is
theorem dX3_waits_0 : decode cX3_waits 0 = .ok (.aload_n 0, 1) := by decide +kernel
theorem dX3_waits_1 : decode cX3_waits 1 = .ok (.iconst 0, 1) := by decide +kernel
theorem dX3_waits_2 : decode cX3_waits 2 = .ok (.putfield 47, 3) := by decide +kernel
theorem dX3_waits_5 : decode cX3_waits 5 = .ok (.aload_n 0, 1) := by decide +kernel
theorem dX3_waits_6 : decode cX3_waits 6 = .ok (.iload_n 1, 1) := by decide +kernel
theorem dX3_waits_7 : decode cX3_waits 7 = .ok (.iconst 0, 1) := by decide +kernel
theorem dX3_waits_8 : decode cX3_waits 8 = .ok (.aload_n 0, 1) := by decide +kernel
theorem dX3_waits_9 : decode cX3_waits 9 = .ok (.getfield 54, 3) := by decide +kernel
theorem dX3_waits_12 : decode cX3_waits 12 = .ok (.iconst 1, 1) := by decide +kernel
theorem dX3_waits_13 : decode cX3_waits 13 = .ok (.isub, 1) := by decide +kernel
theorem dX3_waits_14 : decode cX3_waits 14 = .ok (.invokevirtual 69, 3) := by decide +kernel
theorem dX3_waits_17 : decode cX3_waits 17 = .ok (.ifCond .eq 12, 3) := by decide +kernel
theorem dX3_waits_20 : decode cX3_waits 20 = .ok (.aload_n 0, 1) := by decide +kernel
theorem dX3_waits_21 : decode cX3_waits 21 = .ok (.getfield 23, 3) := by decide +kernel
theorem dX3_waits_24 : decode cX3_waits 24 = .ok (.iload_n 1, 1) := by decide +kernel
theorem dX3_waits_25 : decode cX3_waits 25 = .ok (.iaload, 1) := by decide +kernel
theorem dX3_waits_26 : decode cX3_waits 26 = .ok (.goto 4, 3) := by decide +kernel
theorem dX3_waits_29 : decode cX3_waits 29 = .ok (.iconst (-1), 1) := by decide +kernel
theorem dX3_waits_30 : decode cX3_waits 30 = .ok (.ireturn, 1) := by decide +kernel
theorem dX3_trouble_0 : decode cX3_trouble 0 = .ok (.aload_n 0, 1) := by decide +kernel
theorem dX3_trouble_1 : decode cX3_trouble 1 = .ok (.iconst 0, 1) := by decide +kernel
theorem dX3_trouble_2 : decode cX3_trouble 2 = .ok (.putfield 47, 3) := by decide +kernel
theorem dX3_trouble_5 : decode cX3_trouble 5 = .ok (.aload_n 0, 1) := by decide +kernel
theorem dX3_trouble_6 : decode cX3_trouble 6 = .ok (.getfield 51, 3) := by decide +kernel
theorem dX3_trouble_9 : decode cX3_trouble 9 = .ok (.ireturn, 1) := by decide +kernel
end
section
set_option maxRecDepth 20000 in
theorem ggL_law_X2_init : GoodIn wsL_law wsX2_init := goodIn_r _ [8, 9, 10, 11, 12, 13, 14, 15, 16, 17, 18, 19, 20, 21, 22, 23, 24, 25, 26, 27, 28, 29, 30, 31, 32, 33, 34, 35, 36, 37, 38, 39, 40, 41, 42, 650, 651, 652, 653, 654, 625, 626, 627, 628, 629, 630, 631, 655, 656, 657, 658] (by decide +kernel) (by decide +kernel)
set_option maxRecDepth 20000 in
theorem gL_law_X2_init : GoodIn wsL_law (wsX2_init) := ggL_law_X2_init
set_option maxRecDepth 20000 in
theorem ggL_law_X3_init : GoodIn wsL_law wsX3_init := goodIn_r _ [45, 46, 10, 11, 20, 47, 48, 32, 49, 50, 51, 52, 53, 54, 55, 56, 57, 58, 632, 633, 634, 635, 636, 637, 638, 639, 640, 641, 642, 643, 644, 645, 646, 647, 648, 649] (by decide +kernel) (by decide +kernel)
set_option maxRecDepth 20000 in
theorem gL_law_X3_init : GoodIn wsL_law (wsX3_init) := ggL_law_X3_init
set_option maxRecDepth 20000 in
theorem ggL_law_X2_alloc : GoodIn wsL_law wsX2_alloc := goodIn_r _ [62, 19, 15, 63, 64, 2, 65, 66, 67, 68, 69, 25, 70, 71, 72, 18, 73, 74, 75, 76, 77, 78, 79, 80, 81, 82, 83, 84, 39, 40, 85, 86, 87, 88, 89, 90, 91, 92, 93, 94, 95, 96, 97, 98, 41, 99, 100, 101, 102, 103, 104, 105, 106, 107, 108, 109, 110, 111, 112, 113, 114, 115, 116, 117, 118, 119, 120, 121, 122, 123, 124, 125, 126, 127, 128, 129, 130, 131, 132, 133, 134, 135, 136, 137, 138, 139, 140, 141, 142, 143, 144, 145, 146, 147, 148, 149, 150, 151, 152, 153, 154, 155, 14, 156, 29, 33, 34, 31, 157, 158, 159, 160, 161, 625, 626, 627, 628, 629, 630, 631, 655, 656, 657, 658, 650, 651, 652, 653, 654] (by decide +kernel) (by decide +kernel)
set_option maxRecDepth 20000 in
theorem gL_law_X2_alloc : GoodIn wsL_law (wsV RL 13 RX2 yX2_alloc wsX2_alloc) := goodIn_app (goodIn_of _ (by decide +kernel)) ggL_law_X2_alloc
set_option maxRecDepth 20000 in
theorem ggL_law_X3_alloc : GoodIn wsL_law wsX3_alloc := goodIn_r _ [165, 166, 49, 167, 168, 169, 170, 5, 171, 172, 173, 174, 175, 176, 177, 178, 179, 52, 53, 180, 181, 182, 183, 54, 55, 56, 184, 185, 186, 187, 47, 188, 189, 190, 191, 192, 193, 194, 195, 196, 197, 198, 199, 200, 201, 202, 203, 204, 205, 206, 207, 208, 209, 210, 211, 212, 213, 214, 215, 216, 50, 51, 217, 632, 633, 634, 635, 636, 637, 638, 639, 640, 641, 642, 643, 644, 645, 646, 647, 648, 649] (by decide +kernel) (by decide +kernel)
set_option maxRecDepth 20000 in
theorem gL_law_X3_alloc : GoodIn wsL_law (wsV RL 17 RX3 yX3_alloc wsX3_alloc) := goodIn_app (goodIn_of _ (by decide +kernel)) ggL_law_X3_alloc
set_option maxRecDepth 20000 in
theorem ggL_law_X2_free : GoodIn wsL_law wsX2_free := goodIn_r _ [221, 19, 222, 223, 224, 18, 225, 127, 128, 129, 138, 139, 140, 141, 91, 92, 93, 94, 39, 40, 142, 143, 144, 95, 96, 97, 98, 41, 66, 67, 68, 2, 69, 25, 226, 227, 228, 229, 230, 231, 232, 233, 15, 234, 235, 236, 14, 237, 29, 157, 158, 238, 239, 240, 241, 21, 242, 88, 89, 90, 243, 244, 245, 246, 247, 248, 249, 250, 159, 160, 161, 251, 252, 253, 254, 255, 256, 257, 258, 259, 260, 261, 262, 263, 264, 265, 266, 267, 268, 269, 270, 271, 272, 273, 274, 275, 276, 85, 86, 130, 131, 132, 133, 153, 154, 155, 156, 33, 34, 31, 625, 626, 627, 628, 629, 630, 631, 655, 656, 657, 658, 650, 651, 652, 653, 654] (by decide +kernel) (by decide +kernel)
set_option maxRecDepth 20000 in
theorem gL_law_X2_free : GoodIn wsL_law (wsV RL 18 RX2 yX2_free wsX2_free) := goodIn_app (goodIn_of _ (by decide +kernel)) ggL_law_X2_free
set_option maxRecDepth 20000 in
theorem ggL_law_X3_free : GoodIn wsL_law wsX3_free := goodIn_r _ [280, 166, 167, 281, 282, 283, 5, 284, 49, 168, 169, 170, 171, 172, 173, 174, 175, 285, 286, 287, 288, 47, 289, 290, 291, 292, 293, 294, 295, 296, 184, 185, 186, 187, 213, 214, 215, 216, 50, 51, 217, 632, 633, 634, 635, 636, 637, 638, 639, 640, 641, 642, 643, 644, 645, 646, 647, 648, 649] (by decide +kernel) (by decide +kernel)
set_option maxRecDepth 20000 in
theorem gL_law_X3_free : GoodIn wsL_law (wsV RL 22 RX3 yX3_free wsX3_free) := goodIn_app (goodIn_of _ (by decide +kernel)) ggL_law_X3_free
set_option maxRecDepth 20000 in
theorem ggL_law_X2_put : GoodIn wsL_law wsX2_put := goodIn_r _ [300, 15, 301, 302, 303, 2, 304, 19, 222, 223, 224, 18, 225, 127, 128, 129, 138, 139, 140, 141, 91, 92, 93, 94, 39, 40, 142, 143, 144, 95, 96, 97, 98, 41, 262, 263, 264, 265, 234, 235, 236, 14, 237, 29, 157, 158, 266, 267, 268, 251, 252, 253, 254, 255, 256, 257, 305, 306, 307, 308, 25, 159, 160, 161, 153, 154, 155, 156, 33, 34, 31, 625, 626, 627, 628, 629, 630, 631, 655, 656, 657, 658, 650, 651, 652, 653, 654] (by decide +kernel) (by decide +kernel)
set_option maxRecDepth 20000 in
theorem gL_law_X2_put : GoodIn wsL_law (wsV RL 23 RX2 yX2_put wsX2_put) := goodIn_app (goodIn_of _ (by decide +kernel)) ggL_law_X2_put
set_option maxRecDepth 20000 in
theorem ggL_law_X3_put : GoodIn wsL_law wsX3_put := goodIn_r _ [312, 166, 167, 281, 282, 283, 5, 284, 49, 168, 169, 170, 171, 289, 290, 291, 292, 47, 184, 185, 186, 187, 313, 314, 315, 316, 213, 214, 215, 216, 50, 51, 217, 632, 633, 634, 635, 636, 637, 638, 639, 640, 641, 642, 643, 644, 645, 646, 647, 648, 649] (by decide +kernel) (by decide +kernel)
set_option maxRecDepth 20000 in
theorem gL_law_X3_put : GoodIn wsL_law (wsV RL 27 RX3 yX3_put wsX3_put) := goodIn_app (goodIn_of _ (by decide +kernel)) ggL_law_X3_put
set_option maxRecDepth 20000 in
theorem ggL_law_X2_refer : GoodIn wsL_law wsX2_refer := goodIn_r _ [320, 15, 301, 302, 303, 2, 304, 19, 222, 223, 224, 18, 225, 127, 128, 129, 138, 139, 140, 141, 91, 92, 93, 94, 39, 40, 142, 143, 144, 95, 96, 97, 98, 41, 262, 263, 264, 265, 234, 235, 236, 14, 237, 29, 157, 158, 266, 267, 268, 251, 252, 253, 254, 255, 256, 257, 321, 322, 323, 324, 305, 306, 307, 308, 25, 159, 160, 161, 153, 154, 155, 156, 33, 34, 31, 625, 626, 627, 628, 629, 630, 631, 655, 656, 657, 658, 650, 651, 652, 653, 654] (by decide +kernel) (by decide +kernel)
set_option maxRecDepth 20000 in
theorem gL_law_X2_refer : GoodIn wsL_law (wsV RL 28 RX2 yX2_refer wsX2_refer) := goodIn_app (goodIn_of _ (by decide +kernel)) ggL_law_X2_refer
set_option maxRecDepth 20000 in
theorem ggL_law_X3_refer : GoodIn wsL_law wsX3_refer := goodIn_r _ [328, 166, 167, 281, 282, 283, 5, 284, 49, 168, 169, 170, 171, 289, 290, 291, 292, 47, 313, 314, 315, 316, 213, 214, 215, 216, 50, 51, 217, 632, 633, 634, 635, 636, 637, 638, 639, 640, 641, 642, 643, 644, 645, 646, 647, 648, 649] (by decide +kernel) (by decide +kernel)
set_option maxRecDepth 20000 in
theorem gL_law_X3_refer : GoodIn wsL_law (wsV RL 31 RX3 yX3_refer wsX3_refer) := goodIn_app (goodIn_of _ (by decide +kernel)) ggL_law_X3_refer
set_option maxRecDepth 20000 in
theorem ggL_law_X2_get : GoodIn wsL_law wsX2_get := goodIn_r _ [332, 15, 301, 302, 303, 2, 304, 19, 222, 223, 224, 18, 225, 127, 128, 129, 138, 139, 140, 141, 91, 92, 93, 94, 39, 40, 142, 143, 144, 95, 96, 97, 98, 41, 262, 263, 264, 265, 234, 235, 236, 14, 237, 29, 157, 158, 266, 267, 268, 159, 160, 161, 625, 626, 627, 628, 629, 630, 631, 655, 656, 657, 658, 650, 651, 652, 653, 654] (by decide +kernel) (by decide +kernel)
set_option maxRecDepth 20000 in
theorem gL_law_X2_get : GoodIn wsL_law (wsV RL 32 RX2 yX2_get wsX2_get) := goodIn_app (goodIn_of _ (by decide +kernel)) ggL_law_X2_get
set_option maxRecDepth 20000 in
theorem ggL_law_X3_get : GoodIn wsL_law wsX3_get := goodIn_r _ [336, 166, 47, 281, 282, 283, 5, 284, 49, 168, 169, 170, 171, 184, 185, 186, 187, 632, 633, 634, 635, 636, 637, 638, 639, 640, 641, 642, 643, 644, 645, 646, 647, 648, 649] (by decide +kernel) (by decide +kernel)
set_option maxRecDepth 20000 in
theorem gL_law_X3_get : GoodIn wsL_law (wsV RL 35 RX3 yX3_get wsX3_get) := goodIn_app (goodIn_of _ (by decide +kernel)) ggL_law_X3_get
set_option maxRecDepth 20000 in
theorem ggL_law_X2_root : GoodIn wsL_law wsX2_root := goodIn_r _ [340, 15, 341, 342, 2, 343, 321, 322, 323, 324, 19, 222, 223, 224, 18, 225, 127, 128, 129, 138, 139, 140, 141, 91, 92, 93, 94, 39, 40, 142, 143, 144, 95, 96, 97, 98, 41, 305, 306, 307, 308, 25, 153, 154, 155, 14, 156, 29, 33, 34, 31, 157, 158, 625, 626, 627, 628, 629, 630, 631, 655, 656, 657, 658, 650, 651, 652, 653, 654] (by decide +kernel) (by decide +kernel)
set_option maxRecDepth 20000 in
theorem gL_law_X2_root : GoodIn wsL_law (wsV RL 36 RX2 yX2_root wsX2_root) := goodIn_app (goodIn_of _ (by decide +kernel)) ggL_law_X2_root
set_option maxRecDepth 20000 in
theorem ggL_law_X3_root : GoodIn wsL_law wsX3_root := goodIn_r _ [347, 166, 167, 168, 169, 170, 5, 171, 281, 282, 283, 284, 49, 313, 314, 315, 316, 213, 214, 215, 216, 47, 50, 51, 217, 632, 633, 634, 635, 636, 637, 638, 639, 640, 641, 642, 643, 644, 645, 646, 647, 648, 649] (by decide +kernel) (by decide +kernel)
set_option maxRecDepth 20000 in
theorem gL_law_X3_root : GoodIn wsL_law (wsV RL 40 RX3 yX3_root wsX3_root) := goodIn_app (goodIn_of _ (by decide +kernel)) ggL_law_X3_root
set_option maxRecDepth 20000 in
theorem ggL_law_X2_rootOf : GoodIn wsL_law wsX2_rootOf := goodIn_r _ [351, 15, 341, 342, 2, 343, 234, 235, 236, 14, 237, 29, 157, 158, 625, 626, 627, 628, 629, 630, 631, 650, 651, 652, 653, 654] (by decide +kernel) (by decide +kernel)
set_option maxRecDepth 20000 in
theorem gL_law_X2_rootOf : GoodIn wsL_law (wsV RL 41 RX2 yX2_rootOf wsX2_rootOf) := goodIn_app (goodIn_of _ (by decide +kernel)) ggL_law_X2_rootOf
set_option maxRecDepth 20000 in
theorem ggL_law_X3_rootOf : GoodIn wsL_law wsX3_rootOf := goodIn_r _ [355, 166, 47, 168, 169, 170, 5, 171, 632, 633, 634, 635, 636, 637, 638, 639, 640, 641, 642, 643, 644, 645, 646, 647, 648, 649] (by decide +kernel) (by decide +kernel)
set_option maxRecDepth 20000 in
theorem gL_law_X3_rootOf : GoodIn wsL_law (wsV RL 44 RX3 yX3_rootOf wsX3_rootOf) := goodIn_app (goodIn_of _ (by decide +kernel)) ggL_law_X3_rootOf
set_option maxRecDepth 20000 in
theorem ggL_law_X2_fence : GoodIn wsL_law wsX2_fence := goodIn_r _ [359, 15, 360, 361, 362, 14, 363, 34, 364, 365, 366, 367, 29, 30, 368, 369, 370, 371, 31, 372, 373, 374, 375, 33, 625, 626, 627, 628, 629, 630, 631, 650, 651, 652, 653, 654] (by decide +kernel) (by decide +kernel)
set_option maxRecDepth 20000 in
theorem gL_law_X2_fence : GoodIn wsL_law (wsV RL 45 RX2 yX2_fence wsX2_fence) := goodIn_app (goodIn_of _ (by decide +kernel)) ggL_law_X2_fence
set_option maxRecDepth 20000 in
theorem ggL_law_X3_fence : GoodIn wsL_law wsX3_fence := goodIn_r _ [379, 166, 217, 51, 380, 381, 382, 5, 383, 48, 47, 384, 385, 386, 387, 50, 632, 633, 634, 635, 636, 637, 638, 639, 640, 641, 642, 643, 644, 645, 646, 647, 648, 649] (by decide +kernel) (by decide +kernel)
set_option maxRecDepth 20000 in
theorem gL_law_X3_fence : GoodIn wsL_law (wsV RL 49 RX3 yX3_fence wsX3_fence) := goodIn_app (goodIn_of _ (by decide +kernel)) ggL_law_X3_fence
set_option maxRecDepth 20000 in
theorem ggL_law_X2_crash : GoodIn wsL_law wsX2_crash := goodIn_r _ [391, 15, 24, 22, 392, 365, 366, 14, 367, 34, 29, 30, 368, 369, 370, 371, 31, 372, 373, 374, 375, 33, 393, 394, 395, 2, 396, 19, 23, 21, 397, 398, 399, 18, 400, 39, 41, 401, 402, 403, 404, 405, 406, 407, 408, 234, 235, 236, 237, 157, 158, 321, 322, 323, 324, 222, 223, 224, 225, 127, 128, 129, 138, 139, 140, 141, 91, 92, 93, 94, 40, 142, 143, 144, 95, 96, 97, 98, 409, 410, 411, 412, 262, 263, 264, 265, 266, 267, 268, 251, 252, 253, 254, 255, 256, 257, 63, 64, 65, 145, 146, 147, 148, 149, 150, 151, 152, 413, 414, 415, 416, 74, 75, 76, 116, 117, 118, 119, 81, 82, 83, 84, 85, 86, 99, 100, 101, 120, 121, 122, 106, 107, 112, 113, 114, 115, 123, 124, 125, 126, 130, 131, 132, 133, 134, 135, 136, 137, 417, 418, 419, 420, 153, 154, 155, 156, 247, 248, 249, 250, 159, 160, 161, 625, 626, 627, 628, 629, 630, 631, 650, 651, 652, 653, 654, 655, 656, 657, 658] (by decide +kernel) (by decide +kernel)
set_option maxRecDepth 20000 in
theorem gL_law_X2_crash : GoodIn wsL_law (wsV RL 50 RX2 yX2_crash wsX2_crash) := goodIn_app (goodIn_of _ (by decide +kernel)) ggL_law_X2_crash
set_option maxRecDepth 20000 in
theorem ggL_law_X3_crash : GoodIn wsL_law wsX3_crash := goodIn_r _ [424, 166, 217, 51, 47, 48, 49, 425, 426, 427, 57, 380, 381, 382, 5, 383, 384, 385, 386, 387, 50, 428, 429, 430, 431, 281, 282, 283, 284, 168, 169, 170, 171, 432, 433, 434, 435, 52, 53, 436, 437, 438, 439, 184, 185, 186, 187, 289, 290, 291, 292, 208, 209, 210, 211, 212, 180, 181, 182, 183, 54, 55, 56, 188, 189, 190, 191, 192, 193, 194, 195, 196, 197, 198, 199, 213, 214, 215, 216, 632, 633, 634, 635, 636, 637, 638, 639, 640, 641, 642, 643, 644, 645, 646, 647, 648, 649] (by decide +kernel) (by decide +kernel)
set_option maxRecDepth 20000 in
theorem gL_law_X3_crash : GoodIn wsL_law (wsV RL 53 RX3 yX3_crash wsX3_crash) := goodIn_app (goodIn_of _ (by decide +kernel)) ggL_law_X3_crash
set_option maxRecDepth 20000 in
theorem ggL_law_X2_collect : GoodIn wsL_law wsX2_collect := goodIn_r _ [443, 19, 444, 445, 446, 2, 447, 22, 21, 448, 449, 450, 18, 451, 42, 401, 402, 403, 404, 452, 453, 454, 455, 15, 234, 235, 236, 14, 237, 29, 157, 158, 456, 457, 458, 459, 127, 128, 129, 85, 86, 460, 223, 224, 225, 138, 139, 140, 141, 91, 92, 93, 94, 39, 40, 142, 143, 144, 95, 96, 97, 98, 41, 461, 462, 463, 464, 417, 418, 419, 420, 247, 248, 249, 250, 159, 160, 161, 251, 252, 253, 254, 255, 256, 257, 238, 239, 240, 241, 242, 88, 89, 90, 243, 244, 245, 246, 465, 269, 270, 271, 272, 273, 274, 275, 276, 130, 131, 132, 133, 153, 154, 155, 156, 33, 34, 31, 625, 626, 627, 628, 629, 630, 631, 655, 656, 657, 658, 650, 651, 652, 653, 654] (by decide +kernel) (by decide +kernel)
set_option maxRecDepth 20000 in
theorem gL_law_X2_collect : GoodIn wsL_law (wsV RL 54 RX2 yX2_collect wsX2_collect) := goodIn_app (goodIn_of _ (by decide +kernel)) ggL_law_X2_collect
set_option maxRecDepth 20000 in
theorem ggL_law_X3_collect : GoodIn wsL_law wsX3_collect := goodIn_r _ [469, 166, 58, 427, 47, 57, 49, 470, 471, 472, 5, 473, 281, 282, 283, 284, 168, 169, 170, 171, 289, 290, 291, 292, 293, 294, 295, 296, 184, 185, 186, 187, 213, 214, 215, 216, 50, 51, 217, 632, 633, 634, 635, 636, 637, 638, 639, 640, 641, 642, 643, 644, 645, 646, 647, 648, 649] (by decide +kernel) (by decide +kernel)
set_option maxRecDepth 20000 in
theorem gL_law_X3_collect : GoodIn wsL_law (wsV RL 57 RX3 yX3_collect wsX3_collect) := goodIn_app (goodIn_of _ (by decide +kernel)) ggL_law_X3_collect
set_option maxRecDepth 20000 in
theorem ggL_law_X2_word : GoodIn wsL_law wsX2_word := goodIn_r _ [477, 15, 478, 479, 480, 14, 481, 30, 157, 2, 158, 234, 235, 236, 237, 29, 625, 626, 627, 628, 629, 630, 631, 650, 651, 652, 653, 654] (by decide +kernel) (by decide +kernel)
set_option maxRecDepth 20000 in
theorem gL_law_X2_word : GoodIn wsL_law (wsV RL 58 RX2 yX2_word wsX2_word) := goodIn_app (goodIn_of _ (by decide +kernel)) ggL_law_X2_word
set_option maxRecDepth 20000 in
theorem ggL_law_X3_word : GoodIn wsL_law wsX3_word := goodIn_r _ [485, 166, 48, 47, 168, 169, 170, 5, 171, 632, 633, 634, 635, 636, 637, 638, 639, 640, 641, 642, 643, 644, 645, 646, 647, 648, 649] (by decide +kernel) (by decide +kernel)
set_option maxRecDepth 20000 in
theorem gL_law_X3_word : GoodIn wsL_law (wsV RL 62 RX3 yX3_word wsX3_word) := goodIn_app (goodIn_of _ (by decide +kernel)) ggL_law_X3_word
set_option maxRecDepth 20000 in
theorem ggL_law_X2_scribble : GoodIn wsL_law wsX2_scribble := goodIn_r _ [489, 15, 305, 306, 307, 2, 308, 25, 490, 491, 492, 493, 19, 494, 495, 496, 18, 497, 39, 40, 127, 128, 129, 85, 86, 120, 121, 122, 106, 107, 498, 244, 245, 246, 95, 96, 97, 98, 41, 91, 92, 93, 94, 258, 259, 260, 261, 262, 263, 264, 265, 234, 235, 236, 14, 237, 29, 157, 158, 266, 267, 268, 153, 154, 155, 156, 33, 34, 31, 625, 626, 627, 628, 629, 630, 631, 655, 656, 657, 658, 650, 651, 652, 653, 654] (by decide +kernel) (by decide +kernel)
set_option maxRecDepth 20000 in
theorem gL_law_X2_scribble : GoodIn wsL_law (wsV RL 63 RX2 yX2_scribble wsX2_scribble) := goodIn_app (goodIn_of _ (by decide +kernel)) ggL_law_X2_scribble
set_option maxRecDepth 20000 in
theorem ggL_law_X3_scribble : GoodIn wsL_law wsX3_scribble := goodIn_r _ [502, 166, 49, 167, 168, 169, 170, 5, 171, 313, 314, 315, 316, 184, 185, 186, 187, 47, 213, 214, 215, 216, 50, 51, 217, 632, 633, 634, 635, 636, 637, 638, 639, 640, 641, 642, 643, 644, 645, 646, 647, 648, 649] (by decide +kernel) (by decide +kernel)
set_option maxRecDepth 20000 in
theorem gL_law_X3_scribble : GoodIn wsL_law (wsV RL 66 RX3 yX3_scribble wsX3_scribble) := goodIn_app (goodIn_of _ (by decide +kernel)) ggL_law_X3_scribble
set_option maxRecDepth 20000 in
theorem ggL_law_X2_block : GoodIn wsL_law wsX2_block := goodIn_r _ [506, 19, 222, 223, 224, 18, 225, 127, 128, 129, 138, 139, 140, 141, 91, 92, 93, 94, 39, 40, 142, 143, 144, 95, 96, 97, 98, 41, 262, 263, 264, 2, 265, 15, 234, 235, 236, 14, 237, 29, 157, 158, 266, 267, 268, 251, 252, 253, 254, 255, 256, 257, 101, 74, 75, 76, 507, 99, 100, 226, 227, 228, 229, 230, 231, 232, 233, 238, 239, 240, 241, 21, 242, 88, 89, 90, 243, 244, 245, 246, 247, 248, 249, 250, 159, 160, 161, 625, 626, 627, 628, 629, 630, 631, 655, 656, 657, 658, 650, 651, 652, 653, 654] (by decide +kernel) (by decide +kernel)
set_option maxRecDepth 20000 in
theorem gL_law_X2_block : GoodIn wsL_law (wsV RL 67 RX2 yX2_block wsX2_block) := goodIn_app (goodIn_of _ (by decide +kernel)) ggL_law_X2_block
set_option maxRecDepth 20000 in
theorem ggL_law_X3_block : GoodIn wsL_law wsX3_block := goodIn_r _ [511, 166, 281, 282, 283, 5, 284, 49, 168, 169, 170, 171, 184, 185, 186, 187, 47, 289, 290, 291, 292, 188, 189, 190, 191, 192, 193, 194, 195, 285, 286, 287, 288, 632, 633, 634, 635, 636, 637, 638, 639, 640, 641, 642, 643, 644, 645, 646, 647, 648, 649] (by decide +kernel) (by decide +kernel)
set_option maxRecDepth 20000 in
theorem gL_law_X3_block : GoodIn wsL_law (wsV RL 70 RX3 yX3_block wsX3_block) := goodIn_app (goodIn_of _ (by decide +kernel)) ggL_law_X3_block
set_option maxRecDepth 20000 in
theorem ggL_law_X2_live : GoodIn wsL_law wsX2_live := goodIn_r _ [515, 238, 239, 240, 2, 241, 19, 21, 242, 88, 89, 18, 90, 91, 92, 93, 94, 39, 40, 243, 244, 245, 246, 95, 96, 97, 98, 41, 247, 248, 249, 250, 625, 626, 627, 628, 629, 630, 631, 655, 656, 657, 658] (by decide +kernel) (by decide +kernel)
set_option maxRecDepth 20000 in
theorem gL_law_X2_live : GoodIn wsL_law (wsV RL 71 RX2 yX2_live wsX2_live) := goodIn_app (goodIn_of _ (by decide +kernel)) ggL_law_X2_live
set_option maxRecDepth 20000 in
theorem ggL_law_X3_live : GoodIn wsL_law wsX3_live := goodIn_r _ [519, 166, 49, 632, 633, 634, 635, 636, 637, 638, 639, 640, 641, 642, 643, 644, 645, 646, 647, 648, 649] (by decide +kernel) (by decide +kernel)
set_option maxRecDepth 20000 in
theorem gL_law_X3_live : GoodIn wsL_law (wsV RL 74 RX3 yX3_live wsX3_live) := goodIn_app (goodIn_of _ (by decide +kernel)) ggL_law_X3_live
set_option maxRecDepth 20000 in
theorem ggL_law_X2_page : GoodIn wsL_law wsX2_page := goodIn_r _ [523, 19, 524, 85, 2, 86, 525, 117, 118, 18, 119, 39, 526, 527, 528, 529, 40, 530, 531, 532, 533, 120, 121, 122, 106, 107, 108, 109, 110, 111, 112, 113, 114, 115, 116, 534, 535, 536, 537, 41, 538, 539, 540, 541, 542, 543, 544, 545, 546, 547, 548, 549, 625, 626, 627, 628, 629, 630, 631, 655, 656, 657, 658] (by decide +kernel) (by decide +kernel)
set_option maxRecDepth 20000 in
theorem gL_law_X2_page : GoodIn wsL_law (wsV RL 75 RX2 yX2_page wsX2_page) := goodIn_app (goodIn_of _ (by decide +kernel)) ggL_law_X2_page
set_option maxRecDepth 20000 in
theorem ggL_law_X3_page : GoodIn wsL_law wsX3_page := goodIn_r _ [553, 166, 52, 53, 55, 54, 168, 169, 170, 5, 171, 180, 181, 182, 183, 56, 49, 184, 185, 186, 187, 47, 188, 189, 190, 191, 192, 193, 194, 195, 196, 197, 198, 199, 632, 633, 634, 635, 636, 637, 638, 639, 640, 641, 642, 643, 644, 645, 646, 647, 648, 649] (by decide +kernel) (by decide +kernel)
set_option maxRecDepth 20000 in
theorem gL_law_X3_page : GoodIn wsL_law (wsV RL 78 RX3 yX3_page wsX3_page) := goodIn_app (goodIn_of _ (by decide +kernel)) ggL_law_X3_page
set_option maxRecDepth 20000 in
theorem ggL_law_X2_extents : GoodIn wsL_law wsX2_extents := goodIn_r _ [557, 19, 558, 559, 560, 18, 561, 106, 2, 107, 108, 109, 110, 111, 112, 113, 114, 115, 116, 117, 118, 119, 39, 120, 121, 122, 625, 626, 627, 628, 629, 630, 631, 655, 656, 657, 658] (by decide +kernel) (by decide +kernel)
set_option maxRecDepth 20000 in
theorem gL_law_X2_extents : GoodIn wsL_law (wsV RL 79 RX2 yX2_extents wsX2_extents) := goodIn_app (goodIn_of _ (by decide +kernel)) ggL_law_X2_extents
set_option maxRecDepth 20000 in
theorem ggL_law_X3_extents : GoodIn wsL_law wsX3_extents := goodIn_r _ [565, 166, 56, 54, 168, 169, 170, 5, 171, 180, 181, 182, 183, 52, 53, 55, 49, 184, 185, 186, 187, 47, 188, 189, 190, 191, 192, 193, 194, 195, 196, 197, 198, 199, 632, 633, 634, 635, 636, 637, 638, 639, 640, 641, 642, 643, 644, 645, 646, 647, 648, 649] (by decide +kernel) (by decide +kernel)
set_option maxRecDepth 20000 in
theorem gL_law_X3_extents : GoodIn wsL_law (wsV RL 82 RX3 yX3_extents wsX3_extents) := goodIn_app (goodIn_of _ (by decide +kernel)) ggL_law_X3_extents
set_option maxRecDepth 20000 in
theorem ggL_law_X2_next : GoodIn wsL_law wsX2_next := goodIn_r _ [569, 19, 570, 103, 104, 18, 105, 106, 2, 107, 108, 109, 110, 111, 112, 113, 114, 115, 116, 117, 118, 119, 39, 120, 121, 122, 625, 626, 627, 628, 629, 630, 631, 655, 656, 657, 658] (by decide +kernel) (by decide +kernel)
set_option maxRecDepth 20000 in
theorem gL_law_X2_next : GoodIn wsL_law (wsV RL 83 RX2 yX2_next wsX2_next) := goodIn_app (goodIn_of _ (by decide +kernel)) ggL_law_X2_next
set_option maxRecDepth 20000 in
theorem ggL_law_X3_next : GoodIn wsL_law wsX3_next := goodIn_r _ [574, 166, 168, 169, 170, 5, 171, 180, 181, 182, 183, 52, 53, 54, 55, 56, 49, 184, 185, 186, 187, 47, 188, 189, 190, 191, 192, 193, 194, 195, 196, 197, 198, 199, 200, 201, 202, 203, 632, 633, 634, 635, 636, 637, 638, 639, 640, 641, 642, 643, 644, 645, 646, 647, 648, 649] (by decide +kernel) (by decide +kernel)
set_option maxRecDepth 20000 in
theorem gL_law_X3_next : GoodIn wsL_law (wsV RL 86 RX3 yX3_next wsX3_next) := goodIn_app (goodIn_of _ (by decide +kernel)) ggL_law_X3_next
set_option maxRecDepth 20000 in
theorem ggL_law_X2_count : GoodIn wsL_law wsX2_count := goodIn_r _ [578, 19, 15, 23, 24, 238, 239, 240, 2, 241, 21, 242, 88, 89, 18, 90, 91, 92, 93, 94, 39, 40, 243, 244, 245, 246, 95, 96, 97, 98, 41, 579, 580, 581, 582, 116, 117, 118, 119, 583, 584, 585, 586, 87, 587, 535, 536, 537, 85, 86, 538, 539, 540, 541, 542, 543, 544, 588, 589, 590, 14, 591, 34, 592, 593, 594, 595, 247, 248, 249, 250, 258, 259, 260, 261, 262, 263, 264, 265, 234, 235, 236, 237, 29, 157, 158, 266, 267, 268, 625, 626, 627, 628, 629, 630, 631, 655, 656, 657, 658, 650, 651, 652, 653, 654] (by decide +kernel) (by decide +kernel)
set_option maxRecDepth 20000 in
theorem gL_law_X2_count : GoodIn wsL_law (wsV RL 87 RX2 yX2_count wsX2_count) := goodIn_app (goodIn_of _ (by decide +kernel)) ggL_law_X2_count
set_option maxRecDepth 20000 in
theorem ggL_law_X3_count : GoodIn wsL_law wsX3_count := goodIn_r _ [599, 166, 49, 52, 55, 217, 426, 425, 180, 181, 182, 5, 183, 53, 54, 56, 184, 185, 186, 187, 47, 188, 189, 190, 191, 192, 193, 194, 195, 196, 197, 198, 199, 204, 205, 206, 207, 632, 633, 634, 635, 636, 637, 638, 639, 640, 641, 642, 643, 644, 645, 646, 647, 648, 649] (by decide +kernel) (by decide +kernel)
set_option maxRecDepth 20000 in
theorem gL_law_X3_count : GoodIn wsL_law (wsV RL 90 RX3 yX3_count wsX3_count) := goodIn_app (goodIn_of _ (by decide +kernel)) ggL_law_X3_count
set_option maxRecDepth 20000 in
theorem ggL_law_X2_head : GoodIn wsL_law wsX2_head := goodIn_r _ [603, 63, 64, 2, 65, 145, 146, 147, 148, 149, 150, 151, 152] (by decide +kernel) (by decide +kernel)
set_option maxRecDepth 20000 in
theorem gL_law_X2_head : GoodIn wsL_law (wsV RL 91 RX2 yX2_head wsX2_head) := goodIn_app (goodIn_of _ (by decide +kernel)) ggL_law_X2_head
set_option maxRecDepth 20000 in
theorem ggL_law_X3_head : GoodIn wsL_law wsX3_head := goodIn_r _ [607, 166, 168, 169, 170, 5, 171, 208, 209, 210, 211, 212, 632, 633, 634, 635, 636, 637, 638, 639, 640, 641, 642, 643, 644, 645, 646, 647, 648, 649] (by decide +kernel) (by decide +kernel)
set_option maxRecDepth 20000 in
theorem gL_law_X3_head : GoodIn wsL_law (wsV RL 95 RX3 yX3_head wsX3_head) := goodIn_app (goodIn_of _ (by decide +kernel)) ggL_law_X3_head
set_option maxRecDepth 20000 in
theorem ggL_law_X2_waits : GoodIn wsL_law wsX2_waits := goodIn_r _ [611, 15, 612, 369, 370, 14, 371, 34, 31, 625, 626, 627, 628, 629, 630, 631, 650, 651, 652, 653, 654] (by decide +kernel) (by decide +kernel)
set_option maxRecDepth 20000 in
theorem gL_law_X2_waits : GoodIn wsL_law (wsV RL 96 RX2 yX2_waits wsX2_waits) := goodIn_app (goodIn_of _ (by decide +kernel)) ggL_law_X2_waits
set_option maxRecDepth 20000 in
theorem ggL_law_X3_waits : GoodIn wsL_law wsX3_waits := goodIn_r _ [616, 166, 217, 51, 168, 169, 170, 5, 171, 632, 633, 634, 635, 636, 637, 638, 639, 640, 641, 642, 643, 644, 645, 646, 647, 648, 649] (by decide +kernel) (by decide +kernel)
set_option maxRecDepth 20000 in
theorem gL_law_X3_waits : GoodIn wsL_law (wsV RL 99 RX3 yX3_waits wsX3_waits) := goodIn_app (goodIn_of _ (by decide +kernel)) ggL_law_X3_waits
set_option maxRecDepth 20000 in
theorem ggL_law_X2_trouble : GoodIn wsL_law wsX2_trouble := goodIn_r _ [620, 25, 625, 626, 627, 628, 629, 630, 631] (by decide +kernel) (by decide +kernel)
set_option maxRecDepth 20000 in
theorem gL_law_X2_trouble : GoodIn wsL_law (wsV RL 100 RX2 yX2_trouble wsX2_trouble) := goodIn_app (goodIn_of _ (by decide +kernel)) ggL_law_X2_trouble
set_option maxRecDepth 20000 in
theorem ggL_law_X3_trouble : GoodIn wsL_law wsX3_trouble := goodIn_r _ [624, 166, 167, 632, 633, 634, 635, 636, 637, 638, 639, 640, 641, 642, 643, 644, 645, 646, 647, 648, 649] (by decide +kernel) (by decide +kernel)
set_option maxRecDepth 20000 in
theorem gL_law_X3_trouble : GoodIn wsL_law (wsV RL 103 RX3 yX3_trouble wsX3_trouble) := goodIn_app (goodIn_of _ (by decide +kernel)) ggL_law_X3_trouble
theorem dL_law_0 : decode cL_law 0 = .ok (.new 7, 3) := by decide +kernel
theorem dL_law_3 : decode cL_law 3 = .ok (.dup, 1) := by decide +kernel
theorem dL_law_4 : decode cL_law 4 = .ok (.invokespecial 9, 3) := by decide +kernel
theorem dL_law_7 : decode cL_law 7 = .ok (.astore_n 1, 1) := by decide +kernel
theorem dL_law_8 : decode cL_law 8 = .ok (.new 10, 3) := by decide +kernel
theorem dL_law_11 : decode cL_law 11 = .ok (.dup, 1) := by decide +kernel
theorem dL_law_12 : decode cL_law 12 = .ok (.invokespecial 12, 3) := by decide +kernel
theorem dL_law_15 : decode cL_law 15 = .ok (.astore_n 2, 1) := by decide +kernel
theorem dL_law_16 : decode cL_law 16 = .ok (.iconst 0, 1) := by decide +kernel
theorem dL_law_17 : decode cL_law 17 = .ok (.istore_n 3, 1) := by decide +kernel
theorem dL_law_18 : decode cL_law 18 = .ok (.iload_n 3, 1) := by decide +kernel
theorem dL_law_19 : decode cL_law 19 = .ok (.aload_n 0, 1) := by decide +kernel
theorem dL_law_20 : decode cL_law 20 = .ok (.arraylength, 1) := by decide +kernel
theorem dL_law_21 : decode cL_law 21 = .ok (.iconst 4, 1) := by decide +kernel
theorem dL_law_22 : decode cL_law 22 = .ok (.isub, 1) := by decide +kernel
theorem dL_law_23 : decode cL_law 23 = .ok (.if_icmp .gt 714, 3) := by decide +kernel
theorem dL_law_26 : decode cL_law 26 = .ok (.aload_n 0, 1) := by decide +kernel
theorem dL_law_27 : decode cL_law 27 = .ok (.iload_n 3, 1) := by decide +kernel
theorem dL_law_28 : decode cL_law 28 = .ok (.iaload, 1) := by decide +kernel
theorem dL_law_29 : decode cL_law 29 = .ok (.bipush 31, 2) := by decide +kernel
theorem dL_law_31 : decode cL_law 31 = .ok (.iand, 1) := by decide +kernel
theorem dL_law_32 : decode cL_law 32 = .ok (.tableswitch 699 0 20 #[100, 133, 156, 199, 242, 275, 308, 331, 344, 367, 380, 429, 462, 495, 518, 551, 574, 597, 620, 663, 686], 100) := by decide +kernel
theorem dL_law_132 : decode cL_law 132 = .ok (.aload_n 1, 1) := by decide +kernel
theorem dL_law_133 : decode cL_law 133 = .ok (.aload_n 0, 1) := by decide +kernel
theorem dL_law_134 : decode cL_law 134 = .ok (.iload_n 3, 1) := by decide +kernel
theorem dL_law_135 : decode cL_law 135 = .ok (.iconst 1, 1) := by decide +kernel
theorem dL_law_136 : decode cL_law 136 = .ok (.iadd, 1) := by decide +kernel
theorem dL_law_137 : decode cL_law 137 = .ok (.iaload, 1) := by decide +kernel
theorem dL_law_138 : decode cL_law 138 = .ok (.aload_n 0, 1) := by decide +kernel
theorem dL_law_139 : decode cL_law 139 = .ok (.iload_n 3, 1) := by decide +kernel
theorem dL_law_140 : decode cL_law 140 = .ok (.iconst 2, 1) := by decide +kernel
theorem dL_law_141 : decode cL_law 141 = .ok (.iadd, 1) := by decide +kernel
theorem dL_law_142 : decode cL_law 142 = .ok (.iaload, 1) := by decide +kernel
theorem dL_law_143 : decode cL_law 143 = .ok (.invokevirtual 13, 3) := by decide +kernel
theorem dL_law_146 : decode cL_law 146 = .ok (.aload_n 2, 1) := by decide +kernel
theorem dL_law_147 : decode cL_law 147 = .ok (.aload_n 0, 1) := by decide +kernel
theorem dL_law_148 : decode cL_law 148 = .ok (.iload_n 3, 1) := by decide +kernel
theorem dL_law_149 : decode cL_law 149 = .ok (.iconst 1, 1) := by decide +kernel
theorem dL_law_150 : decode cL_law 150 = .ok (.iadd, 1) := by decide +kernel
theorem dL_law_151 : decode cL_law 151 = .ok (.iaload, 1) := by decide +kernel
theorem dL_law_152 : decode cL_law 152 = .ok (.aload_n 0, 1) := by decide +kernel
theorem dL_law_153 : decode cL_law 153 = .ok (.iload_n 3, 1) := by decide +kernel
theorem dL_law_154 : decode cL_law 154 = .ok (.iconst 2, 1) := by decide +kernel
theorem dL_law_155 : decode cL_law 155 = .ok (.iadd, 1) := by decide +kernel
theorem dL_law_156 : decode cL_law 156 = .ok (.iaload, 1) := by decide +kernel
theorem dL_law_157 : decode cL_law 157 = .ok (.invokevirtual 17, 3) := by decide +kernel
theorem dL_law_160 : decode cL_law 160 = .ok (.if_icmp .eq 571, 3) := by decide +kernel
theorem dL_law_163 : decode cL_law 163 = .ok (.iconst 0, 1) := by decide +kernel
theorem dL_law_164 : decode cL_law 164 = .ok (.ireturn, 1) := by decide +kernel
theorem dL_law_165 : decode cL_law 165 = .ok (.aload_n 1, 1) := by decide +kernel
theorem dL_law_166 : decode cL_law 166 = .ok (.aload_n 0, 1) := by decide +kernel
theorem dL_law_167 : decode cL_law 167 = .ok (.iload_n 3, 1) := by decide +kernel
theorem dL_law_168 : decode cL_law 168 = .ok (.iconst 1, 1) := by decide +kernel
theorem dL_law_169 : decode cL_law 169 = .ok (.iadd, 1) := by decide +kernel
theorem dL_law_170 : decode cL_law 170 = .ok (.iaload, 1) := by decide +kernel
theorem dL_law_171 : decode cL_law 171 = .ok (.invokevirtual 18, 3) := by decide +kernel
theorem dL_law_174 : decode cL_law 174 = .ok (.aload_n 2, 1) := by decide +kernel
theorem dL_law_175 : decode cL_law 175 = .ok (.aload_n 0, 1) := by decide +kernel
theorem dL_law_176 : decode cL_law 176 = .ok (.iload_n 3, 1) := by decide +kernel
theorem dL_law_177 : decode cL_law 177 = .ok (.iconst 1, 1) := by decide +kernel
theorem dL_law_178 : decode cL_law 178 = .ok (.iadd, 1) := by decide +kernel
theorem dL_law_179 : decode cL_law 179 = .ok (.iaload, 1) := by decide +kernel
theorem dL_law_180 : decode cL_law 180 = .ok (.invokevirtual 22, 3) := by decide +kernel
theorem dL_law_183 : decode cL_law 183 = .ok (.if_icmp .eq 548, 3) := by decide +kernel
theorem dL_law_186 : decode cL_law 186 = .ok (.iconst 0, 1) := by decide +kernel
theorem dL_law_187 : decode cL_law 187 = .ok (.ireturn, 1) := by decide +kernel
theorem dL_law_188 : decode cL_law 188 = .ok (.aload_n 1, 1) := by decide +kernel
theorem dL_law_189 : decode cL_law 189 = .ok (.aload_n 0, 1) := by decide +kernel
theorem dL_law_190 : decode cL_law 190 = .ok (.iload_n 3, 1) := by decide +kernel
theorem dL_law_191 : decode cL_law 191 = .ok (.iconst 1, 1) := by decide +kernel
theorem dL_law_192 : decode cL_law 192 = .ok (.iadd, 1) := by decide +kernel
theorem dL_law_193 : decode cL_law 193 = .ok (.iaload, 1) := by decide +kernel
theorem dL_law_194 : decode cL_law 194 = .ok (.aload_n 0, 1) := by decide +kernel
theorem dL_law_195 : decode cL_law 195 = .ok (.iload_n 3, 1) := by decide +kernel
theorem dL_law_196 : decode cL_law 196 = .ok (.iconst 2, 1) := by decide +kernel
theorem dL_law_197 : decode cL_law 197 = .ok (.iadd, 1) := by decide +kernel
theorem dL_law_198 : decode cL_law 198 = .ok (.iaload, 1) := by decide +kernel
theorem dL_law_199 : decode cL_law 199 = .ok (.aload_n 0, 1) := by decide +kernel
theorem dL_law_200 : decode cL_law 200 = .ok (.iload_n 3, 1) := by decide +kernel
theorem dL_law_201 : decode cL_law 201 = .ok (.iconst 3, 1) := by decide +kernel
theorem dL_law_202 : decode cL_law 202 = .ok (.iadd, 1) := by decide +kernel
theorem dL_law_203 : decode cL_law 203 = .ok (.iaload, 1) := by decide +kernel
theorem dL_law_204 : decode cL_law 204 = .ok (.invokevirtual 23, 3) := by decide +kernel
theorem dL_law_207 : decode cL_law 207 = .ok (.aload_n 2, 1) := by decide +kernel
theorem dL_law_208 : decode cL_law 208 = .ok (.aload_n 0, 1) := by decide +kernel
theorem dL_law_209 : decode cL_law 209 = .ok (.iload_n 3, 1) := by decide +kernel
theorem dL_law_210 : decode cL_law 210 = .ok (.iconst 1, 1) := by decide +kernel
theorem dL_law_211 : decode cL_law 211 = .ok (.iadd, 1) := by decide +kernel
theorem dL_law_212 : decode cL_law 212 = .ok (.iaload, 1) := by decide +kernel
theorem dL_law_213 : decode cL_law 213 = .ok (.aload_n 0, 1) := by decide +kernel
theorem dL_law_214 : decode cL_law 214 = .ok (.iload_n 3, 1) := by decide +kernel
theorem dL_law_215 : decode cL_law 215 = .ok (.iconst 2, 1) := by decide +kernel
theorem dL_law_216 : decode cL_law 216 = .ok (.iadd, 1) := by decide +kernel
theorem dL_law_217 : decode cL_law 217 = .ok (.iaload, 1) := by decide +kernel
theorem dL_law_218 : decode cL_law 218 = .ok (.aload_n 0, 1) := by decide +kernel
theorem dL_law_219 : decode cL_law 219 = .ok (.iload_n 3, 1) := by decide +kernel
theorem dL_law_220 : decode cL_law 220 = .ok (.iconst 3, 1) := by decide +kernel
theorem dL_law_221 : decode cL_law 221 = .ok (.iadd, 1) := by decide +kernel
theorem dL_law_222 : decode cL_law 222 = .ok (.iaload, 1) := by decide +kernel
theorem dL_law_223 : decode cL_law 223 = .ok (.invokevirtual 27, 3) := by decide +kernel
theorem dL_law_226 : decode cL_law 226 = .ok (.if_icmp .eq 505, 3) := by decide +kernel
theorem dL_law_229 : decode cL_law 229 = .ok (.iconst 0, 1) := by decide +kernel
theorem dL_law_230 : decode cL_law 230 = .ok (.ireturn, 1) := by decide +kernel
theorem dL_law_231 : decode cL_law 231 = .ok (.aload_n 1, 1) := by decide +kernel
theorem dL_law_232 : decode cL_law 232 = .ok (.aload_n 0, 1) := by decide +kernel
theorem dL_law_233 : decode cL_law 233 = .ok (.iload_n 3, 1) := by decide +kernel
theorem dL_law_234 : decode cL_law 234 = .ok (.iconst 1, 1) := by decide +kernel
theorem dL_law_235 : decode cL_law 235 = .ok (.iadd, 1) := by decide +kernel
theorem dL_law_236 : decode cL_law 236 = .ok (.iaload, 1) := by decide +kernel
theorem dL_law_237 : decode cL_law 237 = .ok (.aload_n 0, 1) := by decide +kernel
theorem dL_law_238 : decode cL_law 238 = .ok (.iload_n 3, 1) := by decide +kernel
theorem dL_law_239 : decode cL_law 239 = .ok (.iconst 2, 1) := by decide +kernel
theorem dL_law_240 : decode cL_law 240 = .ok (.iadd, 1) := by decide +kernel
theorem dL_law_241 : decode cL_law 241 = .ok (.iaload, 1) := by decide +kernel
theorem dL_law_242 : decode cL_law 242 = .ok (.aload_n 0, 1) := by decide +kernel
theorem dL_law_243 : decode cL_law 243 = .ok (.iload_n 3, 1) := by decide +kernel
theorem dL_law_244 : decode cL_law 244 = .ok (.iconst 3, 1) := by decide +kernel
theorem dL_law_245 : decode cL_law 245 = .ok (.iadd, 1) := by decide +kernel
theorem dL_law_246 : decode cL_law 246 = .ok (.iaload, 1) := by decide +kernel
theorem dL_law_247 : decode cL_law 247 = .ok (.invokevirtual 28, 3) := by decide +kernel
theorem dL_law_250 : decode cL_law 250 = .ok (.aload_n 2, 1) := by decide +kernel
theorem dL_law_251 : decode cL_law 251 = .ok (.aload_n 0, 1) := by decide +kernel
theorem dL_law_252 : decode cL_law 252 = .ok (.iload_n 3, 1) := by decide +kernel
theorem dL_law_253 : decode cL_law 253 = .ok (.iconst 1, 1) := by decide +kernel
theorem dL_law_254 : decode cL_law 254 = .ok (.iadd, 1) := by decide +kernel
theorem dL_law_255 : decode cL_law 255 = .ok (.iaload, 1) := by decide +kernel
theorem dL_law_256 : decode cL_law 256 = .ok (.aload_n 0, 1) := by decide +kernel
theorem dL_law_257 : decode cL_law 257 = .ok (.iload_n 3, 1) := by decide +kernel
theorem dL_law_258 : decode cL_law 258 = .ok (.iconst 2, 1) := by decide +kernel
theorem dL_law_259 : decode cL_law 259 = .ok (.iadd, 1) := by decide +kernel
theorem dL_law_260 : decode cL_law 260 = .ok (.iaload, 1) := by decide +kernel
theorem dL_law_261 : decode cL_law 261 = .ok (.aload_n 0, 1) := by decide +kernel
theorem dL_law_262 : decode cL_law 262 = .ok (.iload_n 3, 1) := by decide +kernel
theorem dL_law_263 : decode cL_law 263 = .ok (.iconst 3, 1) := by decide +kernel
theorem dL_law_264 : decode cL_law 264 = .ok (.iadd, 1) := by decide +kernel
theorem dL_law_265 : decode cL_law 265 = .ok (.iaload, 1) := by decide +kernel
theorem dL_law_266 : decode cL_law 266 = .ok (.invokevirtual 31, 3) := by decide +kernel
theorem dL_law_269 : decode cL_law 269 = .ok (.if_icmp .eq 462, 3) := by decide +kernel
theorem dL_law_272 : decode cL_law 272 = .ok (.iconst 0, 1) := by decide +kernel
theorem dL_law_273 : decode cL_law 273 = .ok (.ireturn, 1) := by decide +kernel
theorem dL_law_274 : decode cL_law 274 = .ok (.aload_n 1, 1) := by decide +kernel
theorem dL_law_275 : decode cL_law 275 = .ok (.aload_n 0, 1) := by decide +kernel
theorem dL_law_276 : decode cL_law 276 = .ok (.iload_n 3, 1) := by decide +kernel
theorem dL_law_277 : decode cL_law 277 = .ok (.iconst 1, 1) := by decide +kernel
theorem dL_law_278 : decode cL_law 278 = .ok (.iadd, 1) := by decide +kernel
theorem dL_law_279 : decode cL_law 279 = .ok (.iaload, 1) := by decide +kernel
theorem dL_law_280 : decode cL_law 280 = .ok (.aload_n 0, 1) := by decide +kernel
theorem dL_law_281 : decode cL_law 281 = .ok (.iload_n 3, 1) := by decide +kernel
theorem dL_law_282 : decode cL_law 282 = .ok (.iconst 2, 1) := by decide +kernel
theorem dL_law_283 : decode cL_law 283 = .ok (.iadd, 1) := by decide +kernel
theorem dL_law_284 : decode cL_law 284 = .ok (.iaload, 1) := by decide +kernel
theorem dL_law_285 : decode cL_law 285 = .ok (.invokevirtual 32, 3) := by decide +kernel
theorem dL_law_288 : decode cL_law 288 = .ok (.aload_n 2, 1) := by decide +kernel
theorem dL_law_289 : decode cL_law 289 = .ok (.aload_n 0, 1) := by decide +kernel
theorem dL_law_290 : decode cL_law 290 = .ok (.iload_n 3, 1) := by decide +kernel
theorem dL_law_291 : decode cL_law 291 = .ok (.iconst 1, 1) := by decide +kernel
theorem dL_law_292 : decode cL_law 292 = .ok (.iadd, 1) := by decide +kernel
theorem dL_law_293 : decode cL_law 293 = .ok (.iaload, 1) := by decide +kernel
theorem dL_law_294 : decode cL_law 294 = .ok (.aload_n 0, 1) := by decide +kernel
theorem dL_law_295 : decode cL_law 295 = .ok (.iload_n 3, 1) := by decide +kernel
theorem dL_law_296 : decode cL_law 296 = .ok (.iconst 2, 1) := by decide +kernel
theorem dL_law_297 : decode cL_law 297 = .ok (.iadd, 1) := by decide +kernel
theorem dL_law_298 : decode cL_law 298 = .ok (.iaload, 1) := by decide +kernel
theorem dL_law_299 : decode cL_law 299 = .ok (.invokevirtual 35, 3) := by decide +kernel
theorem dL_law_302 : decode cL_law 302 = .ok (.if_icmp .eq 429, 3) := by decide +kernel
theorem dL_law_305 : decode cL_law 305 = .ok (.iconst 0, 1) := by decide +kernel
theorem dL_law_306 : decode cL_law 306 = .ok (.ireturn, 1) := by decide +kernel
theorem dL_law_307 : decode cL_law 307 = .ok (.aload_n 1, 1) := by decide +kernel
theorem dL_law_308 : decode cL_law 308 = .ok (.aload_n 0, 1) := by decide +kernel
theorem dL_law_309 : decode cL_law 309 = .ok (.iload_n 3, 1) := by decide +kernel
theorem dL_law_310 : decode cL_law 310 = .ok (.iconst 1, 1) := by decide +kernel
theorem dL_law_311 : decode cL_law 311 = .ok (.iadd, 1) := by decide +kernel
theorem dL_law_312 : decode cL_law 312 = .ok (.iaload, 1) := by decide +kernel
theorem dL_law_313 : decode cL_law 313 = .ok (.aload_n 0, 1) := by decide +kernel
theorem dL_law_314 : decode cL_law 314 = .ok (.iload_n 3, 1) := by decide +kernel
theorem dL_law_315 : decode cL_law 315 = .ok (.iconst 2, 1) := by decide +kernel
theorem dL_law_316 : decode cL_law 316 = .ok (.iadd, 1) := by decide +kernel
theorem dL_law_317 : decode cL_law 317 = .ok (.iaload, 1) := by decide +kernel
theorem dL_law_318 : decode cL_law 318 = .ok (.invokevirtual 36, 3) := by decide +kernel
theorem dL_law_321 : decode cL_law 321 = .ok (.aload_n 2, 1) := by decide +kernel
theorem dL_law_322 : decode cL_law 322 = .ok (.aload_n 0, 1) := by decide +kernel
theorem dL_law_323 : decode cL_law 323 = .ok (.iload_n 3, 1) := by decide +kernel
theorem dL_law_324 : decode cL_law 324 = .ok (.iconst 1, 1) := by decide +kernel
theorem dL_law_325 : decode cL_law 325 = .ok (.iadd, 1) := by decide +kernel
theorem dL_law_326 : decode cL_law 326 = .ok (.iaload, 1) := by decide +kernel
theorem dL_law_327 : decode cL_law 327 = .ok (.aload_n 0, 1) := by decide +kernel
theorem dL_law_328 : decode cL_law 328 = .ok (.iload_n 3, 1) := by decide +kernel
theorem dL_law_329 : decode cL_law 329 = .ok (.iconst 2, 1) := by decide +kernel
theorem dL_law_330 : decode cL_law 330 = .ok (.iadd, 1) := by decide +kernel
theorem dL_law_331 : decode cL_law 331 = .ok (.iaload, 1) := by decide +kernel
theorem dL_law_332 : decode cL_law 332 = .ok (.invokevirtual 40, 3) := by decide +kernel
theorem dL_law_335 : decode cL_law 335 = .ok (.if_icmp .eq 396, 3) := by decide +kernel
theorem dL_law_338 : decode cL_law 338 = .ok (.iconst 0, 1) := by decide +kernel
theorem dL_law_339 : decode cL_law 339 = .ok (.ireturn, 1) := by decide +kernel
theorem dL_law_340 : decode cL_law 340 = .ok (.aload_n 1, 1) := by decide +kernel
theorem dL_law_341 : decode cL_law 341 = .ok (.aload_n 0, 1) := by decide +kernel
theorem dL_law_342 : decode cL_law 342 = .ok (.iload_n 3, 1) := by decide +kernel
theorem dL_law_343 : decode cL_law 343 = .ok (.iconst 1, 1) := by decide +kernel
theorem dL_law_344 : decode cL_law 344 = .ok (.iadd, 1) := by decide +kernel
theorem dL_law_345 : decode cL_law 345 = .ok (.iaload, 1) := by decide +kernel
theorem dL_law_346 : decode cL_law 346 = .ok (.invokevirtual 41, 3) := by decide +kernel
theorem dL_law_349 : decode cL_law 349 = .ok (.aload_n 2, 1) := by decide +kernel
theorem dL_law_350 : decode cL_law 350 = .ok (.aload_n 0, 1) := by decide +kernel
theorem dL_law_351 : decode cL_law 351 = .ok (.iload_n 3, 1) := by decide +kernel
theorem dL_law_352 : decode cL_law 352 = .ok (.iconst 1, 1) := by decide +kernel
theorem dL_law_353 : decode cL_law 353 = .ok (.iadd, 1) := by decide +kernel
theorem dL_law_354 : decode cL_law 354 = .ok (.iaload, 1) := by decide +kernel
theorem dL_law_355 : decode cL_law 355 = .ok (.invokevirtual 44, 3) := by decide +kernel
theorem dL_law_358 : decode cL_law 358 = .ok (.if_icmp .eq 373, 3) := by decide +kernel
theorem dL_law_361 : decode cL_law 361 = .ok (.iconst 0, 1) := by decide +kernel
theorem dL_law_362 : decode cL_law 362 = .ok (.ireturn, 1) := by decide +kernel
theorem dL_law_363 : decode cL_law 363 = .ok (.aload_n 1, 1) := by decide +kernel
theorem dL_law_364 : decode cL_law 364 = .ok (.invokevirtual 45, 3) := by decide +kernel
theorem dL_law_367 : decode cL_law 367 = .ok (.aload_n 2, 1) := by decide +kernel
theorem dL_law_368 : decode cL_law 368 = .ok (.invokevirtual 49, 3) := by decide +kernel
theorem dL_law_371 : decode cL_law 371 = .ok (.if_icmp .eq 360, 3) := by decide +kernel
theorem dL_law_374 : decode cL_law 374 = .ok (.iconst 0, 1) := by decide +kernel
theorem dL_law_375 : decode cL_law 375 = .ok (.ireturn, 1) := by decide +kernel
theorem dL_law_376 : decode cL_law 376 = .ok (.aload_n 1, 1) := by decide +kernel
theorem dL_law_377 : decode cL_law 377 = .ok (.aload_n 0, 1) := by decide +kernel
theorem dL_law_378 : decode cL_law 378 = .ok (.iload_n 3, 1) := by decide +kernel
theorem dL_law_379 : decode cL_law 379 = .ok (.iconst 1, 1) := by decide +kernel
theorem dL_law_380 : decode cL_law 380 = .ok (.iadd, 1) := by decide +kernel
theorem dL_law_381 : decode cL_law 381 = .ok (.iaload, 1) := by decide +kernel
theorem dL_law_382 : decode cL_law 382 = .ok (.invokevirtual 50, 3) := by decide +kernel
theorem dL_law_385 : decode cL_law 385 = .ok (.aload_n 2, 1) := by decide +kernel
theorem dL_law_386 : decode cL_law 386 = .ok (.aload_n 0, 1) := by decide +kernel
theorem dL_law_387 : decode cL_law 387 = .ok (.iload_n 3, 1) := by decide +kernel
theorem dL_law_388 : decode cL_law 388 = .ok (.iconst 1, 1) := by decide +kernel
theorem dL_law_389 : decode cL_law 389 = .ok (.iadd, 1) := by decide +kernel
theorem dL_law_390 : decode cL_law 390 = .ok (.iaload, 1) := by decide +kernel
theorem dL_law_391 : decode cL_law 391 = .ok (.invokevirtual 53, 3) := by decide +kernel
theorem dL_law_394 : decode cL_law 394 = .ok (.if_icmp .eq 337, 3) := by decide +kernel
theorem dL_law_397 : decode cL_law 397 = .ok (.iconst 0, 1) := by decide +kernel
theorem dL_law_398 : decode cL_law 398 = .ok (.ireturn, 1) := by decide +kernel
theorem dL_law_399 : decode cL_law 399 = .ok (.aload_n 1, 1) := by decide +kernel
theorem dL_law_400 : decode cL_law 400 = .ok (.invokevirtual 54, 3) := by decide +kernel
theorem dL_law_403 : decode cL_law 403 = .ok (.aload_n 2, 1) := by decide +kernel
theorem dL_law_404 : decode cL_law 404 = .ok (.invokevirtual 57, 3) := by decide +kernel
theorem dL_law_407 : decode cL_law 407 = .ok (.if_icmp .eq 324, 3) := by decide +kernel
theorem dL_law_410 : decode cL_law 410 = .ok (.iconst 0, 1) := by decide +kernel
theorem dL_law_411 : decode cL_law 411 = .ok (.ireturn, 1) := by decide +kernel
theorem dL_law_412 : decode cL_law 412 = .ok (.aload_n 1, 1) := by decide +kernel
theorem dL_law_413 : decode cL_law 413 = .ok (.aload_n 0, 1) := by decide +kernel
theorem dL_law_414 : decode cL_law 414 = .ok (.iload_n 3, 1) := by decide +kernel
theorem dL_law_415 : decode cL_law 415 = .ok (.iconst 1, 1) := by decide +kernel
theorem dL_law_416 : decode cL_law 416 = .ok (.iadd, 1) := by decide +kernel
theorem dL_law_417 : decode cL_law 417 = .ok (.iaload, 1) := by decide +kernel
theorem dL_law_418 : decode cL_law 418 = .ok (.aload_n 0, 1) := by decide +kernel
theorem dL_law_419 : decode cL_law 419 = .ok (.iload_n 3, 1) := by decide +kernel
theorem dL_law_420 : decode cL_law 420 = .ok (.iconst 2, 1) := by decide +kernel
theorem dL_law_421 : decode cL_law 421 = .ok (.iadd, 1) := by decide +kernel
theorem dL_law_422 : decode cL_law 422 = .ok (.iaload, 1) := by decide +kernel
theorem dL_law_423 : decode cL_law 423 = .ok (.ifCond .eq 7, 3) := by decide +kernel
theorem dL_law_426 : decode cL_law 426 = .ok (.iconst 1, 1) := by decide +kernel
theorem dL_law_427 : decode cL_law 427 = .ok (.goto 4, 3) := by decide +kernel
theorem dL_law_430 : decode cL_law 430 = .ok (.iconst 0, 1) := by decide +kernel
theorem dL_law_431 : decode cL_law 431 = .ok (.invokevirtual 58, 3) := by decide +kernel
theorem dL_law_434 : decode cL_law 434 = .ok (.aload_n 2, 1) := by decide +kernel
theorem dL_law_435 : decode cL_law 435 = .ok (.aload_n 0, 1) := by decide +kernel
theorem dL_law_436 : decode cL_law 436 = .ok (.iload_n 3, 1) := by decide +kernel
theorem dL_law_437 : decode cL_law 437 = .ok (.iconst 1, 1) := by decide +kernel
theorem dL_law_438 : decode cL_law 438 = .ok (.iadd, 1) := by decide +kernel
theorem dL_law_439 : decode cL_law 439 = .ok (.iaload, 1) := by decide +kernel
theorem dL_law_440 : decode cL_law 440 = .ok (.aload_n 0, 1) := by decide +kernel
theorem dL_law_441 : decode cL_law 441 = .ok (.iload_n 3, 1) := by decide +kernel
theorem dL_law_442 : decode cL_law 442 = .ok (.iconst 2, 1) := by decide +kernel
theorem dL_law_443 : decode cL_law 443 = .ok (.iadd, 1) := by decide +kernel
theorem dL_law_444 : decode cL_law 444 = .ok (.iaload, 1) := by decide +kernel
theorem dL_law_445 : decode cL_law 445 = .ok (.ifCond .eq 7, 3) := by decide +kernel
theorem dL_law_448 : decode cL_law 448 = .ok (.iconst 1, 1) := by decide +kernel
theorem dL_law_449 : decode cL_law 449 = .ok (.goto 4, 3) := by decide +kernel
theorem dL_law_452 : decode cL_law 452 = .ok (.iconst 0, 1) := by decide +kernel
theorem dL_law_453 : decode cL_law 453 = .ok (.invokevirtual 62, 3) := by decide +kernel
theorem dL_law_456 : decode cL_law 456 = .ok (.if_icmp .eq 275, 3) := by decide +kernel
theorem dL_law_459 : decode cL_law 459 = .ok (.iconst 0, 1) := by decide +kernel
theorem dL_law_460 : decode cL_law 460 = .ok (.ireturn, 1) := by decide +kernel
theorem dL_law_461 : decode cL_law 461 = .ok (.aload_n 1, 1) := by decide +kernel
theorem dL_law_462 : decode cL_law 462 = .ok (.aload_n 0, 1) := by decide +kernel
theorem dL_law_463 : decode cL_law 463 = .ok (.iload_n 3, 1) := by decide +kernel
theorem dL_law_464 : decode cL_law 464 = .ok (.iconst 1, 1) := by decide +kernel
theorem dL_law_465 : decode cL_law 465 = .ok (.iadd, 1) := by decide +kernel
theorem dL_law_466 : decode cL_law 466 = .ok (.iaload, 1) := by decide +kernel
theorem dL_law_467 : decode cL_law 467 = .ok (.aload_n 0, 1) := by decide +kernel
theorem dL_law_468 : decode cL_law 468 = .ok (.iload_n 3, 1) := by decide +kernel
theorem dL_law_469 : decode cL_law 469 = .ok (.iconst 2, 1) := by decide +kernel
theorem dL_law_470 : decode cL_law 470 = .ok (.iadd, 1) := by decide +kernel
theorem dL_law_471 : decode cL_law 471 = .ok (.iaload, 1) := by decide +kernel
theorem dL_law_472 : decode cL_law 472 = .ok (.invokevirtual 63, 3) := by decide +kernel
theorem dL_law_475 : decode cL_law 475 = .ok (.aload_n 2, 1) := by decide +kernel
theorem dL_law_476 : decode cL_law 476 = .ok (.aload_n 0, 1) := by decide +kernel
theorem dL_law_477 : decode cL_law 477 = .ok (.iload_n 3, 1) := by decide +kernel
theorem dL_law_478 : decode cL_law 478 = .ok (.iconst 1, 1) := by decide +kernel
theorem dL_law_479 : decode cL_law 479 = .ok (.iadd, 1) := by decide +kernel
theorem dL_law_480 : decode cL_law 480 = .ok (.iaload, 1) := by decide +kernel
theorem dL_law_481 : decode cL_law 481 = .ok (.aload_n 0, 1) := by decide +kernel
theorem dL_law_482 : decode cL_law 482 = .ok (.iload_n 3, 1) := by decide +kernel
theorem dL_law_483 : decode cL_law 483 = .ok (.iconst 2, 1) := by decide +kernel
theorem dL_law_484 : decode cL_law 484 = .ok (.iadd, 1) := by decide +kernel
theorem dL_law_485 : decode cL_law 485 = .ok (.iaload, 1) := by decide +kernel
theorem dL_law_486 : decode cL_law 486 = .ok (.invokevirtual 66, 3) := by decide +kernel
theorem dL_law_489 : decode cL_law 489 = .ok (.if_icmp .eq 242, 3) := by decide +kernel
theorem dL_law_492 : decode cL_law 492 = .ok (.iconst 0, 1) := by decide +kernel
theorem dL_law_493 : decode cL_law 493 = .ok (.ireturn, 1) := by decide +kernel
theorem dL_law_494 : decode cL_law 494 = .ok (.aload_n 1, 1) := by decide +kernel
theorem dL_law_495 : decode cL_law 495 = .ok (.aload_n 0, 1) := by decide +kernel
theorem dL_law_496 : decode cL_law 496 = .ok (.iload_n 3, 1) := by decide +kernel
theorem dL_law_497 : decode cL_law 497 = .ok (.iconst 1, 1) := by decide +kernel
theorem dL_law_498 : decode cL_law 498 = .ok (.iadd, 1) := by decide +kernel
theorem dL_law_499 : decode cL_law 499 = .ok (.iaload, 1) := by decide +kernel
theorem dL_law_500 : decode cL_law 500 = .ok (.aload_n 0, 1) := by decide +kernel
theorem dL_law_501 : decode cL_law 501 = .ok (.iload_n 3, 1) := by decide +kernel
theorem dL_law_502 : decode cL_law 502 = .ok (.iconst 2, 1) := by decide +kernel
theorem dL_law_503 : decode cL_law 503 = .ok (.iadd, 1) := by decide +kernel
theorem dL_law_504 : decode cL_law 504 = .ok (.iaload, 1) := by decide +kernel
theorem dL_law_505 : decode cL_law 505 = .ok (.invokevirtual 67, 3) := by decide +kernel
theorem dL_law_508 : decode cL_law 508 = .ok (.aload_n 2, 1) := by decide +kernel
theorem dL_law_509 : decode cL_law 509 = .ok (.aload_n 0, 1) := by decide +kernel
theorem dL_law_510 : decode cL_law 510 = .ok (.iload_n 3, 1) := by decide +kernel
theorem dL_law_511 : decode cL_law 511 = .ok (.iconst 1, 1) := by decide +kernel
theorem dL_law_512 : decode cL_law 512 = .ok (.iadd, 1) := by decide +kernel
theorem dL_law_513 : decode cL_law 513 = .ok (.iaload, 1) := by decide +kernel
theorem dL_law_514 : decode cL_law 514 = .ok (.aload_n 0, 1) := by decide +kernel
theorem dL_law_515 : decode cL_law 515 = .ok (.iload_n 3, 1) := by decide +kernel
theorem dL_law_516 : decode cL_law 516 = .ok (.iconst 2, 1) := by decide +kernel
theorem dL_law_517 : decode cL_law 517 = .ok (.iadd, 1) := by decide +kernel
theorem dL_law_518 : decode cL_law 518 = .ok (.iaload, 1) := by decide +kernel
theorem dL_law_519 : decode cL_law 519 = .ok (.invokevirtual 70, 3) := by decide +kernel
theorem dL_law_522 : decode cL_law 522 = .ok (.if_icmp .eq 209, 3) := by decide +kernel
theorem dL_law_525 : decode cL_law 525 = .ok (.iconst 0, 1) := by decide +kernel
theorem dL_law_526 : decode cL_law 526 = .ok (.ireturn, 1) := by decide +kernel
theorem dL_law_527 : decode cL_law 527 = .ok (.aload_n 1, 1) := by decide +kernel
theorem dL_law_528 : decode cL_law 528 = .ok (.aload_n 0, 1) := by decide +kernel
theorem dL_law_529 : decode cL_law 529 = .ok (.iload_n 3, 1) := by decide +kernel
theorem dL_law_530 : decode cL_law 530 = .ok (.iconst 1, 1) := by decide +kernel
theorem dL_law_531 : decode cL_law 531 = .ok (.iadd, 1) := by decide +kernel
theorem dL_law_532 : decode cL_law 532 = .ok (.iaload, 1) := by decide +kernel
theorem dL_law_533 : decode cL_law 533 = .ok (.invokevirtual 71, 3) := by decide +kernel
theorem dL_law_536 : decode cL_law 536 = .ok (.aload_n 2, 1) := by decide +kernel
theorem dL_law_537 : decode cL_law 537 = .ok (.aload_n 0, 1) := by decide +kernel
theorem dL_law_538 : decode cL_law 538 = .ok (.iload_n 3, 1) := by decide +kernel
theorem dL_law_539 : decode cL_law 539 = .ok (.iconst 1, 1) := by decide +kernel
theorem dL_law_540 : decode cL_law 540 = .ok (.iadd, 1) := by decide +kernel
theorem dL_law_541 : decode cL_law 541 = .ok (.iaload, 1) := by decide +kernel
theorem dL_law_542 : decode cL_law 542 = .ok (.invokevirtual 74, 3) := by decide +kernel
theorem dL_law_545 : decode cL_law 545 = .ok (.if_icmp .eq 186, 3) := by decide +kernel
theorem dL_law_548 : decode cL_law 548 = .ok (.iconst 0, 1) := by decide +kernel
theorem dL_law_549 : decode cL_law 549 = .ok (.ireturn, 1) := by decide +kernel
theorem dL_law_550 : decode cL_law 550 = .ok (.aload_n 1, 1) := by decide +kernel
theorem dL_law_551 : decode cL_law 551 = .ok (.aload_n 0, 1) := by decide +kernel
theorem dL_law_552 : decode cL_law 552 = .ok (.iload_n 3, 1) := by decide +kernel
theorem dL_law_553 : decode cL_law 553 = .ok (.iconst 1, 1) := by decide +kernel
theorem dL_law_554 : decode cL_law 554 = .ok (.iadd, 1) := by decide +kernel
theorem dL_law_555 : decode cL_law 555 = .ok (.iaload, 1) := by decide +kernel
theorem dL_law_556 : decode cL_law 556 = .ok (.aload_n 0, 1) := by decide +kernel
theorem dL_law_557 : decode cL_law 557 = .ok (.iload_n 3, 1) := by decide +kernel
theorem dL_law_558 : decode cL_law 558 = .ok (.iconst 2, 1) := by decide +kernel
theorem dL_law_559 : decode cL_law 559 = .ok (.iadd, 1) := by decide +kernel
theorem dL_law_560 : decode cL_law 560 = .ok (.iaload, 1) := by decide +kernel
theorem dL_law_561 : decode cL_law 561 = .ok (.invokevirtual 75, 3) := by decide +kernel
theorem dL_law_564 : decode cL_law 564 = .ok (.aload_n 2, 1) := by decide +kernel
theorem dL_law_565 : decode cL_law 565 = .ok (.aload_n 0, 1) := by decide +kernel
theorem dL_law_566 : decode cL_law 566 = .ok (.iload_n 3, 1) := by decide +kernel
theorem dL_law_567 : decode cL_law 567 = .ok (.iconst 1, 1) := by decide +kernel
theorem dL_law_568 : decode cL_law 568 = .ok (.iadd, 1) := by decide +kernel
theorem dL_law_569 : decode cL_law 569 = .ok (.iaload, 1) := by decide +kernel
theorem dL_law_570 : decode cL_law 570 = .ok (.aload_n 0, 1) := by decide +kernel
theorem dL_law_571 : decode cL_law 571 = .ok (.iload_n 3, 1) := by decide +kernel
theorem dL_law_572 : decode cL_law 572 = .ok (.iconst 2, 1) := by decide +kernel
theorem dL_law_573 : decode cL_law 573 = .ok (.iadd, 1) := by decide +kernel
theorem dL_law_574 : decode cL_law 574 = .ok (.iaload, 1) := by decide +kernel
theorem dL_law_575 : decode cL_law 575 = .ok (.invokevirtual 78, 3) := by decide +kernel
theorem dL_law_578 : decode cL_law 578 = .ok (.if_icmp .eq 153, 3) := by decide +kernel
theorem dL_law_581 : decode cL_law 581 = .ok (.iconst 0, 1) := by decide +kernel
theorem dL_law_582 : decode cL_law 582 = .ok (.ireturn, 1) := by decide +kernel
theorem dL_law_583 : decode cL_law 583 = .ok (.aload_n 1, 1) := by decide +kernel
theorem dL_law_584 : decode cL_law 584 = .ok (.aload_n 0, 1) := by decide +kernel
theorem dL_law_585 : decode cL_law 585 = .ok (.iload_n 3, 1) := by decide +kernel
theorem dL_law_586 : decode cL_law 586 = .ok (.iconst 1, 1) := by decide +kernel
theorem dL_law_587 : decode cL_law 587 = .ok (.iadd, 1) := by decide +kernel
theorem dL_law_588 : decode cL_law 588 = .ok (.iaload, 1) := by decide +kernel
theorem dL_law_589 : decode cL_law 589 = .ok (.invokevirtual 79, 3) := by decide +kernel
theorem dL_law_592 : decode cL_law 592 = .ok (.aload_n 2, 1) := by decide +kernel
theorem dL_law_593 : decode cL_law 593 = .ok (.aload_n 0, 1) := by decide +kernel
theorem dL_law_594 : decode cL_law 594 = .ok (.iload_n 3, 1) := by decide +kernel
theorem dL_law_595 : decode cL_law 595 = .ok (.iconst 1, 1) := by decide +kernel
theorem dL_law_596 : decode cL_law 596 = .ok (.iadd, 1) := by decide +kernel
theorem dL_law_597 : decode cL_law 597 = .ok (.iaload, 1) := by decide +kernel
theorem dL_law_598 : decode cL_law 598 = .ok (.invokevirtual 82, 3) := by decide +kernel
theorem dL_law_601 : decode cL_law 601 = .ok (.if_icmp .eq 130, 3) := by decide +kernel
theorem dL_law_604 : decode cL_law 604 = .ok (.iconst 0, 1) := by decide +kernel
theorem dL_law_605 : decode cL_law 605 = .ok (.ireturn, 1) := by decide +kernel
theorem dL_law_606 : decode cL_law 606 = .ok (.aload_n 1, 1) := by decide +kernel
theorem dL_law_607 : decode cL_law 607 = .ok (.aload_n 0, 1) := by decide +kernel
theorem dL_law_608 : decode cL_law 608 = .ok (.iload_n 3, 1) := by decide +kernel
theorem dL_law_609 : decode cL_law 609 = .ok (.iconst 1, 1) := by decide +kernel
theorem dL_law_610 : decode cL_law 610 = .ok (.iadd, 1) := by decide +kernel
theorem dL_law_611 : decode cL_law 611 = .ok (.iaload, 1) := by decide +kernel
theorem dL_law_612 : decode cL_law 612 = .ok (.invokevirtual 83, 3) := by decide +kernel
theorem dL_law_615 : decode cL_law 615 = .ok (.aload_n 2, 1) := by decide +kernel
theorem dL_law_616 : decode cL_law 616 = .ok (.aload_n 0, 1) := by decide +kernel
theorem dL_law_617 : decode cL_law 617 = .ok (.iload_n 3, 1) := by decide +kernel
theorem dL_law_618 : decode cL_law 618 = .ok (.iconst 1, 1) := by decide +kernel
theorem dL_law_619 : decode cL_law 619 = .ok (.iadd, 1) := by decide +kernel
theorem dL_law_620 : decode cL_law 620 = .ok (.iaload, 1) := by decide +kernel
theorem dL_law_621 : decode cL_law 621 = .ok (.invokevirtual 86, 3) := by decide +kernel
theorem dL_law_624 : decode cL_law 624 = .ok (.if_icmp .eq 107, 3) := by decide +kernel
theorem dL_law_627 : decode cL_law 627 = .ok (.iconst 0, 1) := by decide +kernel
theorem dL_law_628 : decode cL_law 628 = .ok (.ireturn, 1) := by decide +kernel
theorem dL_law_629 : decode cL_law 629 = .ok (.aload_n 1, 1) := by decide +kernel
theorem dL_law_630 : decode cL_law 630 = .ok (.aload_n 0, 1) := by decide +kernel
theorem dL_law_631 : decode cL_law 631 = .ok (.iload_n 3, 1) := by decide +kernel
theorem dL_law_632 : decode cL_law 632 = .ok (.iconst 1, 1) := by decide +kernel
theorem dL_law_633 : decode cL_law 633 = .ok (.iadd, 1) := by decide +kernel
theorem dL_law_634 : decode cL_law 634 = .ok (.iaload, 1) := by decide +kernel
theorem dL_law_635 : decode cL_law 635 = .ok (.invokevirtual 87, 3) := by decide +kernel
theorem dL_law_638 : decode cL_law 638 = .ok (.aload_n 2, 1) := by decide +kernel
theorem dL_law_639 : decode cL_law 639 = .ok (.aload_n 0, 1) := by decide +kernel
theorem dL_law_640 : decode cL_law 640 = .ok (.iload_n 3, 1) := by decide +kernel
theorem dL_law_641 : decode cL_law 641 = .ok (.iconst 1, 1) := by decide +kernel
theorem dL_law_642 : decode cL_law 642 = .ok (.iadd, 1) := by decide +kernel
theorem dL_law_643 : decode cL_law 643 = .ok (.iaload, 1) := by decide +kernel
theorem dL_law_644 : decode cL_law 644 = .ok (.invokevirtual 90, 3) := by decide +kernel
theorem dL_law_647 : decode cL_law 647 = .ok (.if_icmp .eq 84, 3) := by decide +kernel
theorem dL_law_650 : decode cL_law 650 = .ok (.iconst 0, 1) := by decide +kernel
theorem dL_law_651 : decode cL_law 651 = .ok (.ireturn, 1) := by decide +kernel
theorem dL_law_652 : decode cL_law 652 = .ok (.aload_n 1, 1) := by decide +kernel
theorem dL_law_653 : decode cL_law 653 = .ok (.aload_n 0, 1) := by decide +kernel
theorem dL_law_654 : decode cL_law 654 = .ok (.iload_n 3, 1) := by decide +kernel
theorem dL_law_655 : decode cL_law 655 = .ok (.iconst 1, 1) := by decide +kernel
theorem dL_law_656 : decode cL_law 656 = .ok (.iadd, 1) := by decide +kernel
theorem dL_law_657 : decode cL_law 657 = .ok (.iaload, 1) := by decide +kernel
theorem dL_law_658 : decode cL_law 658 = .ok (.aload_n 0, 1) := by decide +kernel
theorem dL_law_659 : decode cL_law 659 = .ok (.iload_n 3, 1) := by decide +kernel
theorem dL_law_660 : decode cL_law 660 = .ok (.iconst 2, 1) := by decide +kernel
theorem dL_law_661 : decode cL_law 661 = .ok (.iadd, 1) := by decide +kernel
theorem dL_law_662 : decode cL_law 662 = .ok (.iaload, 1) := by decide +kernel
theorem dL_law_663 : decode cL_law 663 = .ok (.aload_n 0, 1) := by decide +kernel
theorem dL_law_664 : decode cL_law 664 = .ok (.iload_n 3, 1) := by decide +kernel
theorem dL_law_665 : decode cL_law 665 = .ok (.iconst 3, 1) := by decide +kernel
theorem dL_law_666 : decode cL_law 666 = .ok (.iadd, 1) := by decide +kernel
theorem dL_law_667 : decode cL_law 667 = .ok (.iaload, 1) := by decide +kernel
theorem dL_law_668 : decode cL_law 668 = .ok (.invokevirtual 91, 3) := by decide +kernel
theorem dL_law_671 : decode cL_law 671 = .ok (.aload_n 2, 1) := by decide +kernel
theorem dL_law_672 : decode cL_law 672 = .ok (.aload_n 0, 1) := by decide +kernel
theorem dL_law_673 : decode cL_law 673 = .ok (.iload_n 3, 1) := by decide +kernel
theorem dL_law_674 : decode cL_law 674 = .ok (.iconst 1, 1) := by decide +kernel
theorem dL_law_675 : decode cL_law 675 = .ok (.iadd, 1) := by decide +kernel
theorem dL_law_676 : decode cL_law 676 = .ok (.iaload, 1) := by decide +kernel
theorem dL_law_677 : decode cL_law 677 = .ok (.aload_n 0, 1) := by decide +kernel
theorem dL_law_678 : decode cL_law 678 = .ok (.iload_n 3, 1) := by decide +kernel
theorem dL_law_679 : decode cL_law 679 = .ok (.iconst 2, 1) := by decide +kernel
theorem dL_law_680 : decode cL_law 680 = .ok (.iadd, 1) := by decide +kernel
theorem dL_law_681 : decode cL_law 681 = .ok (.iaload, 1) := by decide +kernel
theorem dL_law_682 : decode cL_law 682 = .ok (.aload_n 0, 1) := by decide +kernel
theorem dL_law_683 : decode cL_law 683 = .ok (.iload_n 3, 1) := by decide +kernel
theorem dL_law_684 : decode cL_law 684 = .ok (.iconst 3, 1) := by decide +kernel
theorem dL_law_685 : decode cL_law 685 = .ok (.iadd, 1) := by decide +kernel
theorem dL_law_686 : decode cL_law 686 = .ok (.iaload, 1) := by decide +kernel
theorem dL_law_687 : decode cL_law 687 = .ok (.invokevirtual 95, 3) := by decide +kernel
theorem dL_law_690 : decode cL_law 690 = .ok (.if_icmp .eq 41, 3) := by decide +kernel
theorem dL_law_693 : decode cL_law 693 = .ok (.iconst 0, 1) := by decide +kernel
theorem dL_law_694 : decode cL_law 694 = .ok (.ireturn, 1) := by decide +kernel
theorem dL_law_695 : decode cL_law 695 = .ok (.aload_n 1, 1) := by decide +kernel
theorem dL_law_696 : decode cL_law 696 = .ok (.aload_n 0, 1) := by decide +kernel
theorem dL_law_697 : decode cL_law 697 = .ok (.iload_n 3, 1) := by decide +kernel
theorem dL_law_698 : decode cL_law 698 = .ok (.iconst 1, 1) := by decide +kernel
theorem dL_law_699 : decode cL_law 699 = .ok (.iadd, 1) := by decide +kernel
theorem dL_law_700 : decode cL_law 700 = .ok (.iaload, 1) := by decide +kernel
theorem dL_law_701 : decode cL_law 701 = .ok (.invokevirtual 96, 3) := by decide +kernel
theorem dL_law_704 : decode cL_law 704 = .ok (.aload_n 2, 1) := by decide +kernel
theorem dL_law_705 : decode cL_law 705 = .ok (.aload_n 0, 1) := by decide +kernel
theorem dL_law_706 : decode cL_law 706 = .ok (.iload_n 3, 1) := by decide +kernel
theorem dL_law_707 : decode cL_law 707 = .ok (.iconst 1, 1) := by decide +kernel
theorem dL_law_708 : decode cL_law 708 = .ok (.iadd, 1) := by decide +kernel
theorem dL_law_709 : decode cL_law 709 = .ok (.iaload, 1) := by decide +kernel
theorem dL_law_710 : decode cL_law 710 = .ok (.invokevirtual 99, 3) := by decide +kernel
theorem dL_law_713 : decode cL_law 713 = .ok (.if_icmp .eq 18, 3) := by decide +kernel
theorem dL_law_716 : decode cL_law 716 = .ok (.iconst 0, 1) := by decide +kernel
theorem dL_law_717 : decode cL_law 717 = .ok (.ireturn, 1) := by decide +kernel
theorem dL_law_718 : decode cL_law 718 = .ok (.aload_n 1, 1) := by decide +kernel
theorem dL_law_719 : decode cL_law 719 = .ok (.invokevirtual 100, 3) := by decide +kernel
theorem dL_law_722 : decode cL_law 722 = .ok (.aload_n 2, 1) := by decide +kernel
theorem dL_law_723 : decode cL_law 723 = .ok (.invokevirtual 103, 3) := by decide +kernel
theorem dL_law_726 : decode cL_law 726 = .ok (.if_icmp .eq 5, 3) := by decide +kernel
theorem dL_law_729 : decode cL_law 729 = .ok (.iconst 0, 1) := by decide +kernel
theorem dL_law_730 : decode cL_law 730 = .ok (.ireturn, 1) := by decide +kernel
theorem dL_law_731 : decode cL_law 731 = .ok (.iinc 3 4, 3) := by decide +kernel
theorem dL_law_734 : decode cL_law 734 = .ok (.goto (-716), 3) := by decide +kernel
theorem dL_law_737 : decode cL_law 737 = .ok (.iconst 1, 1) := by decide +kernel
theorem dL_law_738 : decode cL_law 738 = .ok (.ireturn, 1) := by decide +kernel
end
section
/-! what every walk stands on: the static row, the nest links, contracts of methods that change nothing (CPi) and of methods that change their world (CMi, CMv), and a row for a call of each -/
def nb (x : Int32) : Prop := narrow .boolean (.int x) = .int x
theorem nb_0 : nb 0 := by unfold nb; decide
theorem nb_1 : nb 1 := by unfold nb; decide
def clF : Nat → Int32 := fun j => match j with
  | 0 => 2
  | 1 => 3
  | 2 => 4
  | 3 => 6
  | _ => 8
def nestQ : List (String × Nat × MethodName × String) := [(RX2, 9, yX1_init, "SlabHeap"), (RX0, 69, yX2_classFor, "SlabHeap"), (RX0, 30, yX2_isPage, "SlabHeap"), (RX0, 75, yX2_orderFor, "SlabHeap"), (RX0, 110, yX2_isOrder, "SlabHeap"), (RX1, 29, yX2_isWord, "SlabHeap")]
def xN (U : State) : Prop := ∀ q ∈ nestQ, va_Nw (.methodLinkNest q.1 q.2.1 q.2.2.1 q.2.2.2) U
def xT (A : Nat → Prop) (U : State) (H : Heap) : Prop := ∃ t : Nat, va_Z "SlabHeap" "CLASSES" "[I" (.ref t) A U H ∧ va_T .int t 5 (fun j => .int (clF j)) A U H
def xZ (A : Nat → Prop) (U : State) (H : Heap) : Prop := xT A U H ∧ xN U
theorem xN.warm {s U : State} (hW : s.WarmedH U.vm) (h : xN s) : xN U := fun q hq => va_Nw.warmM hW (h q hq)
theorem xZ.to {A B : Nat → Prop} {s U : State} {H : Heap} {locs : List Loc} (h : xZ A s s.heap) (hS : va_S A s.heap H locs) (hW : s.WarmedH U.vm) (hAB : ∀ q, B q → A q) : xZ B U H := by
  obtain ⟨⟨t, h1, h2⟩, h3⟩ := h
  exact ⟨⟨t, ((h1.kept hS.2.1).moved hW.alike).narrow hAB, ((h2.kept hS.2.1).moved hW.alike).narrow hAB⟩, h3.warm hW⟩
theorem xZ.calling {A : Nat → Prop} {U : State} {H : Heap} (g : JFrame) (mk : MethodId) (a : Array Value) (h : xZ A U H) : xZ A (U.calling g mk a) H := by
  obtain ⟨⟨t, h1, h2⟩, h3⟩ := h
  exact ⟨⟨t, h1.moved (U := U.calling g mk a) (Vm.Alike.refl U.vm), h2.moved (U := U.calling g mk a) (Vm.Alike.refl U.vm)⟩, fun q hq => va_Nw.same rfl rfl (h3 q hq)⟩
abbrev xC : Type := ClassId × ClassId
abbrev xtys (k : xC) : List (ClassId × FieldType) := [(k.1, .int), (k.2, .boolean)]
/-! methods that change nothing -/
def Pp (D : va_G) (k : xC) (av : List Value) (world : va_W) (Hs : Heap) : Array Value → State → Prop := va_Pc av (fun U => U.heap = Hs ∧ va_P D vwCl world Hs ∧ va_K D vwCl (xtys k) U ∧ xZ (fun _ => False) U Hs)
def CPi (l : Launch) (y : MethodName) (wds : List Cond) (rm : Room) (D : va_G) (k : xC) (av : List Value) (world : va_W) (post : Int32 → Prop) : Prop := ∀ Hs : Heap, Met l y wds rm (Pp D k av world Hs) (va_Qi (fun r (_ : Unit) => post r) (fun _ t => t.heap = Hs) (fun _ => False)) 0 0 (fun _ => False)
theorem Pp_blind {D : va_G} {k : xC} {av : List Value} {world : va_W} {Hs : Heap} : FrameBlind (Pp D k av world Hs) := fun a U g mk h => by
  obtain ⟨h0, h1, h2, h3, h4⟩ := h
  exact ⟨h0, h1, h2, va_K.moved (u := U) (U := U.calling g mk a) (Vm.Alike.refl U.vm) h3, h4.calling g mk a⟩
/-! methods that change their world -/
def Pm (D : va_G) (k : xC) (av : List Value) (world : va_W) (sz : Nat) : Array Value → State → Prop := va_Pc av (fun U => U.heap.size = sz ∧ va_P D vwCl world U.heap ∧ va_K D vwCl (xtys k) U ∧ va_D (fun _ => True) world ∧ xZ (va_A world sz) U U.heap)
theorem Pm_blind {D : va_G} {k : xC} {av : List Value} {world : va_W} {sz : Nat} : FrameBlind (Pm D k av world sz) := fun a U g mk h => by
  obtain ⟨h0, h1, h2, h3, h4, h5⟩ := h
  exact ⟨h0, h1, h2, va_K.moved (u := U) (U := U.calling g mk a) (Vm.Alike.refl U.vm) h3, h4, h5.calling g mk a⟩
def CMi (l : Launch) (y : MethodName) (wds : List Cond) (rm : Room) (D : va_G) (k : xC) (av : List Value) {σ : Type} (ws : σ → va_W) (u : σ) (post : Int32 → σ → Prop) : Prop := ∀ sz : Nat, Met l y wds rm (Pm D k av (ws u) sz) (va_Qi post (fun u' t => va_P D vwCl (ws u') t.heap ∧ va_D (va_A (ws u) sz) (ws u')) (va_A (ws u) sz)) 0 0 (va_A (ws u) sz)
def CMv (l : Launch) (y : MethodName) (wds : List Cond) (rm : Room) (D : va_G) (k : xC) (av : List Value) {σ : Type} (ws : σ → va_W) (u : σ) (post : σ → Prop) : Prop := ∀ sz : Nat, Met l y wds rm (Pm D k av (ws u) sz) (va_Qv post (fun u' t => va_P D vwCl (ws u') t.heap ∧ va_D (va_A (ws u) sz) (ws u')) (va_A (ws u) sz)) 0 0 (va_A (ws u) sz)
section XA
variable {l : Launch} {y : MethodName} {wds wds' : List Cond} {rm : Room} {cc : ByteArray} {nL : Nat} {D : va_G} {k : xC} {av : List Value}
theorem met_pi {world : va_W} {post : Int32 → Prop} (hy : plainName y.cls = true) (hw : wds = Cond.code y cc nL (some .int) :: wds') (hn : (lg_sl av).length ≤ nL)
    (body : ∀ (p : Program) (e : Env) (s : State) (m : MethodId) (args : Array Value) (below : List Frame) (meth : Method) (c : Code) (Q : State → Prop) (ls : Array Slot), CallFix p m c cc nL s args wds y.cls → va_P D vwCl world s.heap → va_K D vwCl (xtys k) s → xZ (fun _ => False) s s.heap → va_S (fun _ => False) s.heap s.heap [] → lv_has ls nL (lv_args 0 av) →
      (∀ (pc : Nat) (ls : Array Slot) (r : Int32), decode cc pc = .ok (.ireturn, 1) → post r → W p l e rm s m args below meth c s.heap [] 0 0 Q (F0 m pc ls [.int r])) →
      W p l e rm s m args below meth c s.heap [] 0 0 Q (F0 m 0 ls [])) : CPi l y wds rm D k av world post := by
  intro Hs
  refine Met.ofW (cc := cc) (maxL := nL) (ret := some .int) hy hw ?_
  intro p e s m args below meth c s₁ B hml hv
  obtain ⟨ha, hh, hP, hK, hZ⟩ := hv
  subst hh
  have hlocks := B.notSynchronized
  have hl := lv_entry av (n := nL) hn
  have hE : entryFrame m args nL = F0 m 0 (lg_sl av ++ List.replicate (nL - (lg_sl av).length) Slot.unset).toArray [] := by rw [ha, lg_entry_eq]
  rw [hE]
  refine body p e s m args below meth c _ _ ⟨B.exec, B.bytes, hml, findClass_of_methodNamed B.named, atoms_spec (ws := wds) B.pre⟩ hP hK hZ va_S.rf hl (fun pc ls r hd hp => ?_)
  exact W.iret B.exec B.bytes B.returns (fun t ht hW => ⟨⟨r, (), rfl, hp, ht⟩, by rw [ht]; exact Nat.le_refl _, fun q _ _ => by rw [ht]⟩) (fun q h => by cases h) hd
theorem met_pz {world : va_W} {post : Int32 → Prop} (hy : plainName y.cls = true) (hw : wds = Cond.code y cc nL (some .boolean) :: wds') (hn : (lg_sl av).length ≤ nL)
    (body : ∀ (p : Program) (e : Env) (s : State) (m : MethodId) (args : Array Value) (below : List Frame) (meth : Method) (c : Code) (Q : State → Prop) (ls : Array Slot), CallFix p m c cc nL s args wds y.cls → va_P D vwCl world s.heap → va_K D vwCl (xtys k) s → xZ (fun _ => False) s s.heap → va_S (fun _ => False) s.heap s.heap [] → lv_has ls nL (lv_args 0 av) →
      (∀ (pc : Nat) (ls : Array Slot) (r : Int32), decode cc pc = .ok (.ireturn, 1) → nb r → post r → W p l e rm s m args below meth c s.heap [] 0 0 Q (F0 m pc ls [.int r])) →
      W p l e rm s m args below meth c s.heap [] 0 0 Q (F0 m 0 ls [])) : CPi l y wds rm D k av world post := by
  intro Hs
  refine Met.ofW (cc := cc) (maxL := nL) (ret := some .boolean) hy hw ?_
  intro p e s m args below meth c s₁ B hml hv
  obtain ⟨ha, hh, hP, hK, hZ⟩ := hv
  subst hh
  have hlocks := B.notSynchronized
  have hl := lv_entry av (n := nL) hn
  have hE : entryFrame m args nL = F0 m 0 (lg_sl av ++ List.replicate (nL - (lg_sl av).length) Slot.unset).toArray [] := by rw [ha, lg_entry_eq]
  rw [hE]
  refine body p e s m args below meth c _ _ ⟨B.exec, B.bytes, hml, findClass_of_methodNamed B.named, atoms_spec (ws := wds) B.pre⟩ hP hK hZ va_S.rf hl (fun pc ls r hd hb hp => ?_)
  exact W.zret B.exec B.bytes B.returns hb (fun t ht hW => ⟨⟨r, (), rfl, hp, ht⟩, by rw [ht]; exact Nat.le_refl _, fun q _ _ => by rw [ht]⟩) (fun q h => by cases h) hd
theorem met_mi {σ : Type} {ws : σ → va_W} {u : σ} {post : Int32 → σ → Prop} (hy : plainName y.cls = true) (hw : wds = Cond.code y cc nL (some .int) :: wds') (hn : (lg_sl av).length ≤ nL)
    (body : ∀ (p : Program) (e : Env) (s : State) (m : MethodId) (args : Array Value) (below : List Frame) (meth : Method) (c : Code) (Q : State → Prop) (A : Nat → Prop) (ls : Array Slot), CallFix p m c cc nL s args wds y.cls → va_P D vwCl (ws u) s.heap → va_D A (ws u) → (∀ q : Nat, s.heap.size ≤ q → A q) → va_K D vwCl (xtys k) s → xZ A s s.heap → va_S A s.heap s.heap [] → lv_has ls nL (lv_args 0 av) →
      (∀ (pc : Nat) (ls : Array Slot) (r : Int32) (u' : σ) (H : Heap) (locs : List Loc), va_P D vwCl (ws u') H → va_D A (ws u') → va_S A s.heap H locs → decode cc pc = .ok (.ireturn, 1) → post r u' → W p l e rm s m args below meth c H locs 0 0 Q (F0 m pc ls [.int r])) →
      W p l e rm s m args below meth c s.heap [] 0 0 Q (F0 m 0 ls [])) : CMi l y wds rm D k av ws u post := by
  intro sz
  refine Met.ofW (cc := cc) (maxL := nL) (ret := some .int) hy hw ?_
  intro p e s m args below meth c s₁ B hml hv
  obtain ⟨ha, hh, hP, hK, hD, hZ⟩ := hv
  subst hh
  have hlocks := B.notSynchronized
  have hl := lv_entry av (n := nL) hn
  have hE : entryFrame m args nL = F0 m 0 (lg_sl av ++ List.replicate (nL - (lg_sl av).length) Slot.unset).toArray [] := by rw [ha, lg_entry_eq]
  rw [hE]
  refine body p e s m args below meth c _ (va_A (ws u) s.heap.size) _ ⟨B.exec, B.bytes, hml, findClass_of_methodNamed B.named, atoms_spec (ws := wds) B.pre⟩ hP hD.self (fun q h => Or.inr h) hK hZ va_S.rf hl (fun pc ls r u' H locs hP hD hS hd hp => ?_)
  exact W.iret B.exec B.bytes B.returns (fun t ht hW => ⟨⟨r, u', rfl, hp, by rw [ht]; exact hP, hD⟩, hS.F ht⟩) hS.2.2 hd
theorem met_mz {σ : Type} {ws : σ → va_W} {u : σ} {post : Int32 → σ → Prop} (hy : plainName y.cls = true) (hw : wds = Cond.code y cc nL (some .boolean) :: wds') (hn : (lg_sl av).length ≤ nL)
    (body : ∀ (p : Program) (e : Env) (s : State) (m : MethodId) (args : Array Value) (below : List Frame) (meth : Method) (c : Code) (Q : State → Prop) (A : Nat → Prop) (ls : Array Slot), CallFix p m c cc nL s args wds y.cls → va_P D vwCl (ws u) s.heap → va_D A (ws u) → (∀ q : Nat, s.heap.size ≤ q → A q) → va_K D vwCl (xtys k) s → xZ A s s.heap → va_S A s.heap s.heap [] → lv_has ls nL (lv_args 0 av) →
      (∀ (pc : Nat) (ls : Array Slot) (r : Int32) (u' : σ) (H : Heap) (locs : List Loc), va_P D vwCl (ws u') H → va_D A (ws u') → va_S A s.heap H locs → decode cc pc = .ok (.ireturn, 1) → nb r → post r u' → W p l e rm s m args below meth c H locs 0 0 Q (F0 m pc ls [.int r])) →
      W p l e rm s m args below meth c s.heap [] 0 0 Q (F0 m 0 ls [])) : CMi l y wds rm D k av ws u post := by
  intro sz
  refine Met.ofW (cc := cc) (maxL := nL) (ret := some .boolean) hy hw ?_
  intro p e s m args below meth c s₁ B hml hv
  obtain ⟨ha, hh, hP, hK, hD, hZ⟩ := hv
  subst hh
  have hlocks := B.notSynchronized
  have hl := lv_entry av (n := nL) hn
  have hE : entryFrame m args nL = F0 m 0 (lg_sl av ++ List.replicate (nL - (lg_sl av).length) Slot.unset).toArray [] := by rw [ha, lg_entry_eq]
  rw [hE]
  refine body p e s m args below meth c _ (va_A (ws u) s.heap.size) _ ⟨B.exec, B.bytes, hml, findClass_of_methodNamed B.named, atoms_spec (ws := wds) B.pre⟩ hP hD.self (fun q h => Or.inr h) hK hZ va_S.rf hl (fun pc ls r u' H locs hP hD hS hd hb hp => ?_)
  exact W.zret B.exec B.bytes B.returns hb (fun t ht hW => ⟨⟨r, u', rfl, hp, by rw [ht]; exact hP, hD⟩, hS.F ht⟩) hS.2.2 hd
theorem met_mv {σ : Type} {ws : σ → va_W} {u : σ} {post : σ → Prop} (hy : plainName y.cls = true) (hw : wds = Cond.code y cc nL none :: wds') (hn : (lg_sl av).length ≤ nL)
    (body : ∀ (p : Program) (e : Env) (s : State) (m : MethodId) (args : Array Value) (below : List Frame) (meth : Method) (c : Code) (Q : State → Prop) (A : Nat → Prop) (ls : Array Slot), CallFix p m c cc nL s args wds y.cls → va_P D vwCl (ws u) s.heap → va_D A (ws u) → (∀ q : Nat, s.heap.size ≤ q → A q) → va_K D vwCl (xtys k) s → xZ A s s.heap → va_S A s.heap s.heap [] → lv_has ls nL (lv_args 0 av) →
      (∀ (pc : Nat) (ls : Array Slot) (u' : σ) (H : Heap) (locs : List Loc), va_P D vwCl (ws u') H → va_D A (ws u') → va_S A s.heap H locs → decode cc pc = .ok (.return_, 1) → post u' → W p l e rm s m args below meth c H locs 0 0 Q (F0 m pc ls [])) →
      W p l e rm s m args below meth c s.heap [] 0 0 Q (F0 m 0 ls [])) : CMv l y wds rm D k av ws u post := by
  intro sz
  refine Met.ofW (cc := cc) (maxL := nL) (ret := none) hy hw ?_
  intro p e s m args below meth c s₁ B hml hv
  obtain ⟨ha, hh, hP, hK, hD, hZ⟩ := hv
  subst hh
  have hlocks := B.notSynchronized
  have hl := lv_entry av (n := nL) hn
  have hE : entryFrame m args nL = F0 m 0 (lg_sl av ++ List.replicate (nL - (lg_sl av).length) Slot.unset).toArray [] := by rw [ha, lg_entry_eq]
  rw [hE]
  refine body p e s m args below meth c _ (va_A (ws u) s.heap.size) _ ⟨B.exec, B.bytes, hml, findClass_of_methodNamed B.named, atoms_spec (ws := wds) B.pre⟩ hP hD.self (fun q h => Or.inr h) hK hZ va_S.rf hl (fun pc ls u' H locs hP hD hS hd hp => ?_)
  exact W.vret B.exec B.bytes B.returns (fun t ht hW => ⟨⟨u', rfl, hp, by rw [ht]; exact hP, hD⟩, hS.F ht⟩) hS.2.2 hd
end XA
section XB
variable {p : Program} {l : Launch} {e : Env} {R : Room} {s : State} {m : MethodId} {args : Array Value} {below : List Frame} {meth : Method} {c : Code} {H : Heap} {locs : List Loc} {cells slots : Nat} {Q : State → Prop} {pc : Nat} {ls : Array Slot} {rest st0 : List Value} {a : Array Value} {A : Nat → Prop} {D : va_G} {k : xC} {av : List Value}
theorem pcall {post : Int32 → Prop} (hr : va_Run p l e R s m args below meth c H locs cells slots 0 0 (F0 m pc ls st0) rest (va_Qi (fun r (_ : Unit) => post r) (fun _ t => t.heap = H) (fun _ => False) a) (fun _ => False))
    (kk : ∀ r : Int32, post r → W p l e R s m args below meth c H locs cells slots Q (F0 m (pc + 3) ls (.int r :: rest))) : W p l e R s m args below meth c H locs cells slots Q (F0 m pc ls st0) := by
  intro T hT X
  obtain ⟨v, st₀, t, T', L, h0, X', hL, e1, e2, ⟨⟨r, u, hv, hp, hb⟩, hz, hk⟩, st⟩ := hr T hT X
  cases hv
  have hLn : L = [] := List.eq_nil_iff_forall_not_mem.mpr (fun q hq => hL q hq)
  subst hLn
  rw [List.append_nil] at X'
  obtain ⟨t2, a1, b1⟩ := kk r hp T' (by rw [e1, hb]) X'
  exact ⟨t2, st t2 a1, b1⟩
theorem preS_p {world : va_W} (hP : va_P D vwCl world H) (hK : va_K D vwCl (xtys k) s) (hZ : xZ A s s.heap) (hS : va_S A s.heap H locs) : PreS s H (Pp D k av world H) av :=
  ⟨Pp_blind, fun _ hU hW => ⟨rfl, hU, hP, va_K.moved hW.alike hK, hZ.to hS hW (fun _ h => h.elim)⟩⟩
theorem preV_p {world : va_W} {C : String} {b : Addr} {As : List Value} (hR : ∃ cell : Cell, H[b]? = some cell ∧ cell.vm.isStatics = false ∧ s.vm.findClass C = some cell.cls) (hP : va_P D vwCl world H) (hK : va_K D vwCl (xtys k) s) (hZ : xZ A s s.heap) (hS : va_S A s.heap H locs) : PreV s H C b (Pp D k (.ref b :: As) world H) As :=
  ⟨Pp_blind, hR, fun _ hU hW => ⟨rfl, hU, hP, va_K.moved hW.alike hK, hZ.to hS hW (fun _ h => h.elim)⟩⟩
theorem preS_m {ws wc : va_W} (hP : va_P D vwCl ws H) (hD : va_D A ws) (hA : ∀ q : Nat, s.heap.size ≤ q → A q) (hK : va_K D vwCl (xtys k) s) (hZ : xZ A s s.heap) (hS : va_S A s.heap H locs) (isC : List Nat) (hc1 : isC.filterMap (fun i => ws[i]?) = wc) (hc2 : isC.map (fun i => ws[i]?) = wc.map some) (hn : va_nd isC = true) : PreS s H (Pm D k av wc H.size) av :=
  ⟨Pm_blind, fun _ hU hW => ⟨rfl, by rw [hU], by rw [hU]; exact hP.sub isC hc1, va_K.moved hW.alike hK, (hD.sub isC hn hc2).weaken (fun _ _ _ _ => trivial), by rw [hU]; exact hZ.to hS hW (va_free hD hS hA isC hc2)⟩⟩
theorem preV_m {ws wc : va_W} {C : String} {b : Addr} {As : List Value} (hR : ∃ cell : Cell, H[b]? = some cell ∧ cell.vm.isStatics = false ∧ s.vm.findClass C = some cell.cls) (hP : va_P D vwCl ws H) (hD : va_D A ws) (hA : ∀ q : Nat, s.heap.size ≤ q → A q) (hK : va_K D vwCl (xtys k) s) (hZ : xZ A s s.heap) (hS : va_S A s.heap H locs) (isC : List Nat) (hc1 : isC.filterMap (fun i => ws[i]?) = wc) (hc2 : isC.map (fun i => ws[i]?) = wc.map some) (hn : va_nd isC = true) : PreV s H C b (Pm D k (.ref b :: As) wc H.size) As :=
  ⟨Pm_blind, hR, (preS_m hP hD hA hK hZ hS isC hc1 hc2 hn).2⟩
theorem icall {σ : Type} {wc : σ → va_W} {u : σ} {ws wr : va_W} {post : Int32 → σ → Prop} (hr : va_Run p l e R s m args below meth c H locs cells slots 0 0 (F0 m pc ls st0) rest (va_Qi post (fun u' t => va_P D vwCl (wc u') t.heap ∧ va_D (va_A (wc u) H.size) (wc u')) (va_A (wc u) H.size) a) (va_A (wc u) H.size))
    (hP : va_P D vwCl ws H) (hD : va_D A ws) (hA : ∀ q : Nat, s.heap.size ≤ q → A q) (hS : va_S A s.heap H locs) (isC isR : List Nat) (hC : isC.map (fun i => ws[i]?) = (wc u).map some) (hR : isR.map (fun i => ws[i]?) = wr.map some) (hn : va_nd isR = true) (hdis : ∀ i ∈ isR, i ∉ isC)
    (kk : ∀ (r : Int32) (u' : σ) (H1 : Heap) (locs1 : List Loc), post r u' → va_P D vwCl (wr ++ wc u') H1 → va_D A (wr ++ wc u') → va_S A s.heap H1 locs1 → W p l e R s m args below meth c H1 locs1 cells slots Q (F0 m (pc + 3) ls (.int r :: rest))) : W p l e R s m args below meth c H locs cells slots Q (F0 m pc ls st0) := by
  have hF := va_free hD hS hA isC hC
  refine va_calli hr hS (fun q _ h => hF q h) hF (fun r u' t H1 locs1 ht hvm hp hB hz hk hS1 => ?_)
  obtain ⟨hP1, hD1⟩ := hB
  rw [ht] at hP1
  obtain ⟨h1, h2⟩ := va_join hP hD isC isR hC hR hn hdis hk hF hP1 hD1
  exact kk r u' H1 locs1 hp h1 h2 hS1
theorem vcall {σ : Type} {wc : σ → va_W} {u : σ} {ws wr : va_W} {post : σ → Prop} (hr : va_Run p l e R s m args below meth c H locs cells slots 0 0 (F0 m pc ls st0) rest (va_Qv post (fun u' t => va_P D vwCl (wc u') t.heap ∧ va_D (va_A (wc u) H.size) (wc u')) (va_A (wc u) H.size) a) (va_A (wc u) H.size))
    (hP : va_P D vwCl ws H) (hD : va_D A ws) (hA : ∀ q : Nat, s.heap.size ≤ q → A q) (hS : va_S A s.heap H locs) (isC isR : List Nat) (hC : isC.map (fun i => ws[i]?) = (wc u).map some) (hR : isR.map (fun i => ws[i]?) = wr.map some) (hn : va_nd isR = true) (hdis : ∀ i ∈ isR, i ∉ isC)
    (kk : ∀ (u' : σ) (H1 : Heap) (locs1 : List Loc), post u' → va_P D vwCl (wr ++ wc u') H1 → va_D A (wr ++ wc u') → va_S A s.heap H1 locs1 → W p l e R s m args below meth c H1 locs1 cells slots Q (F0 m (pc + 3) ls rest)) : W p l e R s m args below meth c H locs cells slots Q (F0 m pc ls st0) := by
  have hF := va_free hD hS hA isC hC
  refine va_callv hr hS (fun q _ h => hF q h) hF (fun u' t H1 locs1 ht hvm hp hB hz hk hS1 => ?_)
  obtain ⟨hP1, hD1⟩ := hB
  rw [ht] at hP1
  obtain ⟨h1, h2⟩ := va_join hP hD isC isR hC hR hn hdis hk hF hP1 hD1
  exact kk u' H1 locs1 hp h1 h2 hS1
end XB
end
section
abbrev xP (g : Nat → Nat) (k : xC) (kd : Nat → Int32) (fm : Nat → Int32) (tk : Nat → Int32) (mr : Nat → Int32) : va_W := [(g 7, .inr (0, [.ref (g 8), .ref (g 9), .ref (g 10), .ref (g 11)])), (g 8, .inl (k.1, 256, .inl kd)), (g 9, .inl (k.1, 256, .inl fm)), (g 10, .inl (k.1, 256, .inl tk)), (g 11, .inl (k.1, 256, .inl mr))]
abbrev xW (g : Nat → Nat) (k : xC) (nw : Nat → Int32) (kp : Nat → Int32) (qu : Nat → Int32) (qd : Nat → Int32) (ql : Int32) : va_W := [(g 2, .inr (1, [.ref (g 3), .ref (g 4), .ref (g 5), .ref (g 6), .int ql])), (g 3, .inl (k.1, 4096, .inl nw)), (g 4, .inl (k.1, 4096, .inl kp)), (g 5, .inl (k.1, 512, .inl qu)), (g 6, .inl (k.2, 512, .inl qd))]
abbrev xM (g : Nat → Nat) (k : xC) (mw : Nat → Int32) (mk : Nat → Int32) (ml : Nat → Int32) (mq : Nat → Int32) (mwt : Nat → Int32) (mn : Int32) (mt : Int32) (mcl : Int32) (mcr : Int32) (mth : Int32) (mkind : Nat → Int32) (msort : Nat → Int32) (mfirst : Nat → Int32) (mblk : Nat → Int32) (mfree : Nat → Int32) (mfnd : Nat → Int32) (mfm : Int32) (msn : Nat → Int32) : va_W := [(g 0, .inr (3, [.ref (g 1), .ref (g 2), .ref (g 3), .ref (g 4), .ref (g 5), .int mn, .int mt, .int mcl, .int mcr, .int mth, .ref (g 6), .ref (g 7), .ref (g 8), .ref (g 9), .ref (g 10), .ref (g 11), .int mfm, .ref (g 12)])), (g 1, .inl (k.1, 4096, .inl mw)), (g 2, .inl (k.1, 4096, .inl mk)), (g 3, .inl (k.2, 4096, .inl ml)), (g 4, .inl (k.2, 512, .inl mq)), (g 5, .inl (k.1, 512, .inl mwt)), (g 6, .inl (k.1, 256, .inl mkind)), (g 7, .inl (k.1, 256, .inl msort)), (g 8, .inl (k.1, 256, .inl mfirst)), (g 9, .inl (k.1, 256, .inl mblk)), (g 10, .inl (k.1, 256, .inl mfree)), (g 11, .inl (k.1, 2048, .inl mfnd)), (g 12, .inl (k.2, 4096, .inl msn))]
abbrev xF (g : Nat → Nat) (k : xC) (af : Nat → Int32) : va_W := [(g 0, .inl (k.1, 256, .inl af))]
abbrev xS (g : Nat → Nat) (k : xC) (fd : Int32) (cd : Int32) (cr : Int32) (tr : Int32) (ro : Nat → Int32) (nw : Nat → Int32) (kp : Nat → Int32) (qu : Nat → Int32) (qd : Nat → Int32) (ql : Int32) (kd : Nat → Int32) (fm : Nat → Int32) (tk : Nat → Int32) (mr : Nat → Int32) : va_W := [(g 0, .inr (2, [.ref (g 2), .ref (g 7), .ref (g 1), .int fd, .int cd, .int cr, .int tr])), (g 1, .inl (k.1, 2040, .inl ro)), (g 2, .inr (1, [.ref (g 3), .ref (g 4), .ref (g 5), .ref (g 6), .int ql])), (g 3, .inl (k.1, 4096, .inl nw)), (g 4, .inl (k.1, 4096, .inl kp)), (g 5, .inl (k.1, 512, .inl qu)), (g 6, .inl (k.2, 512, .inl qd)), (g 7, .inr (0, [.ref (g 8), .ref (g 9), .ref (g 10), .ref (g 11)])), (g 8, .inl (k.1, 256, .inl kd)), (g 9, .inl (k.1, 256, .inl fm)), (g 10, .inl (k.1, 256, .inl tk)), (g 11, .inl (k.1, 256, .inl mr))]
end
section
-- J7_fill_53178
def wJ7_fill_53178_5 (post : (Nat → Int32) → Prop)  : Nat → Int32 → Int32 → Int32 → (Nat → Int32) → Prop
  | 0 => fun _ _ _ _ => False
  | n + 1 => fun x1 x2 x3 af => (((x3 ≤ x2) → post af) ∧ (¬ (x3 ≤ x2) → (vp_in x2 256 ∧ (∀ x2_3 : Int32, x2_3 = x2 + 1 → (wJ7_fill_53178_5 post n) x1 x2_3 x3 (upd af x2.toNatClampNeg x1)))))
def wJ7_fill_53178 (post : (Nat → Int32) → Prop) (af : Nat → Int32) (x1 : Int32) : Prop := ∃ fu_4 : Nat, wJ7_fill_53178_5 post fu_4 x1 0 256 af
abbrev rmJ7_fill_53178 : Room := { frames := 0, cells := 0, slots := 0, locals := 0 }
set_option maxHeartbeats 4000000 in
set_option maxRecDepth 100000 in
theorem c_J7_fill_53178 (l : Launch) (D : va_G) (g : Nat → Nat) (k : xC) (af : Nat → Int32) (x1 : Int32) (post : (Nat → Int32) → Prop) (hw : wJ7_fill_53178 post af x1) : CMv l yJ7_fill_53178 wsJ7_fill_53178 rmJ7_fill_53178 D k [.ref (g 0), .int x1] (fun v : (Nat → Int32) => (xF g k v)) af (fun v => post v) := by
  refine met_mv (cc := cJ7_fill_53178) (nL := 4) (by decide) rfl (Nat.le_of_ble_eq_true rfl) ?_
  intro p e s m args below meth c Q A ls hC hP hD hA hK hZ hS hl hret
  obtain ⟨hx, hb, hml, hown, hts⟩ := id hC
  have hC : CallFix p m c cJ7_fill_53178 4 s args wsJ7_fill_53178 RJ7 := hC
  have hown : s.vm.findClass RJ7 = some m.cls := hown
  have hl : lv_has ls 4 [(0, .ref (g 0)), (1, .int x1)] := hl
  have hP : va_P D vwCl (xF g k af) s.heap := hP
  have hD : va_D A (xF g k af) := hD
  have B5 : ∀ (fu : Nat), ∀ (x1 : Int32), ∀ (x2 : Int32), ∀ (x3 : Int32), ∀ (af : Nat → Int32), ∀ (H : Heap) (locs : List Loc), va_P D vwCl (xF g k af) H → va_D A (xF g k af) → va_S A s.heap H locs → ∀ (ls : Array Slot), lv_has ls 4 [(0, .ref (g 0)), (1, .int x1), (2, .int x2), (3, .int x3)] → wJ7_fill_53178_5 post fu x1 x2 x3 af → W p l e rmJ7_fill_53178 s m args below meth c H locs 0 0 Q (F0 m 5 ls []) := by
    intro  fu
    induction fu with
    | zero =>
      intro x1 x2 x3 af H locs hP hD hS ls hl hw
      exact absurd hw (by unfold wJ7_fill_53178_5; exact fun q => q)
    | succ n ih =>
      intro x1 x2 x3 af H locs hP hD hS ls hl hw
      unfold wJ7_fill_53178_5 at hw
      refine lv_iload_n hx hb dJ7_fill_53178_5 rfl (lv_at hl 2 rfl) ?_
      refine lv_iload_n hx hb dJ7_fill_53178_6 rfl (lv_at hl 3 rfl) ?_
      refine lv_icmp_ge (tgt := 20) hx hb dJ7_fill_53178_7 (by decide) (fun c_1 => ?_) (fun c_1 => ?_)
      · have hw := hw.1 c_1
        exact hret _ _ af _ _ hP hD hS dJ7_fill_53178_20 hw
      · have hw := hw.2 c_1
        refine lv_aload_n hx hb dJ7_fill_53178_10 rfl (lv_at hl 0 rfl) ?_
        refine lv_iload_n hx hb dJ7_fill_53178_11 rfl (lv_at hl 2 rfl) ?_
        refine lv_iload_n hx hb dJ7_fill_53178_12 rfl (lv_at hl 1 rfl) ?_
        obtain ⟨h_2, hw⟩ := hw
        refine va_iast hx hb hK hP hD hS 0 0 rfl rfl h_2 dJ7_fill_53178_13 (fun H locs hP hD hS => ?_)
        have hP : va_P D vwCl (xF g k (upd af x2.toNatClampNeg x1)) H := hP
        have hD : va_D A (xF g k (upd af x2.toNatClampNeg x1)) := hD
        obtain ⟨x2_3, ex2_3⟩ : ∃ y : Int32, y = x2 + 1 := ⟨_, rfl⟩
        have hw := hw x2_3 ex2_3
        refine lv_iinc (v := x2_3) (lv' := [(2, .int x2_3), (0, .ref (g 0)), (1, .int x1), (3, .int x3)]) hx hb dJ7_fill_53178_14 hl (k := 2) rfl (by rw [ex2_3]; rfl) (by decide) rfl (fun ls hl => ?_)
        refine lv_goto (tgt := 5) hx hb dJ7_fill_53178_17 (by decide) ?_
        exact ih x1 x2_3 x3 (upd af x2.toNatClampNeg x1) H locs hP hD hS ls (lv_sub hl [1, 2, 0, 3] rfl) hw
  unfold wJ7_fill_53178 at hw
  suffices main : ∀ (H : Heap) (locs : List Loc), va_P D vwCl (xF g k af) H → va_D A (xF g k af) → va_S A s.heap H locs → W p l e rmJ7_fill_53178 s m args below meth c H locs 0 0 Q (F0 m 0 ls []) from main _ _ hP hD hS
  intro H locs hP hD hS
  refine lv_iconst (v := 0) hx hb dJ7_fill_53178_0 (by decide) ?_
  refine lv_istore_n (lv' := [(2, .int 0), (0, .ref (g 0)), (1, .int x1)]) hx hb dJ7_fill_53178_1 rfl hl (by decide) rfl (fun ls hl => ?_)
  refine lv_aload_n hx hb dJ7_fill_53178_2 rfl (lv_at hl 1 rfl) ?_
  refine va_alen (v := 256) hx hb hK hP 0 0 rfl rfl rfl dJ7_fill_53178_3 ?_
  refine lv_istore_n (lv' := [(3, .int 256), (2, .int 0), (0, .ref (g 0)), (1, .int x1)]) hx hb dJ7_fill_53178_4 rfl hl (by decide) rfl (fun ls hl => ?_)
  obtain ⟨fu_4, hw⟩ := hw
  exact B5  fu_4 x1 0 256 af H locs hP hD hS ls (lv_sub hl [2, 3, 1, 0] rfl) hw
-- J6_bitCount_0f7a4
def wJ6_bitCount_0f7a4 (post : Int32 → Prop)  (x0 : Int32) : Prop := (∀ x0_1 : Int32, x0_1 = (x0 - (((x0.toUInt32 >>> (Int32.toUInt32 1 &&& Int32.toUInt32 31)).toInt32) &&& 1431655765)) → (∀ x0_2 : Int32, x0_2 = ((x0_1 &&& 858993459) + (((x0_1.toUInt32 >>> (Int32.toUInt32 2 &&& Int32.toUInt32 31)).toInt32) &&& 858993459)) → (∀ x0_3 : Int32, x0_3 = ((x0_2 + ((x0_2.toUInt32 >>> (Int32.toUInt32 4 &&& Int32.toUInt32 31)).toInt32)) &&& 252645135) → (∀ x0_4 : Int32, x0_4 = (x0_3 + ((x0_3.toUInt32 >>> (Int32.toUInt32 8 &&& Int32.toUInt32 31)).toInt32)) → (∀ x0_5 : Int32, x0_5 = (x0_4 + ((x0_4.toUInt32 >>> (Int32.toUInt32 16 &&& Int32.toUInt32 31)).toInt32)) → post (x0_5 &&& 63))))))
abbrev rmJ6_bitCount_0f7a4 : Room := { frames := 0, cells := 0, slots := 0, locals := 0 }
set_option maxHeartbeats 4000000 in
set_option maxRecDepth 100000 in
theorem c_J6_bitCount_0f7a4 (l : Launch) (D : va_G) (k : xC)  (x0 : Int32) (post : Int32 → Prop) (hw : wJ6_bitCount_0f7a4 post x0) : CPi l yJ6_bitCount_0f7a4 wsJ6_bitCount_0f7a4 rmJ6_bitCount_0f7a4 D k [.int x0] [] post := by
  refine met_pi (cc := cJ6_bitCount_0f7a4) (nL := 1) (by decide) rfl (Nat.le_of_ble_eq_true rfl) ?_
  intro p e s m args below meth c Q ls hC hP hK hZ hS hl hret
  obtain ⟨hx, hb, hml, hown, hts⟩ := id hC
  have hC : CallFix p m c cJ6_bitCount_0f7a4 1 s args wsJ6_bitCount_0f7a4 RJ6 := hC
  have hown : s.vm.findClass RJ6 = some m.cls := hown
  have hl : lv_has ls 1 [(0, .int x0)] := hl
  unfold wJ6_bitCount_0f7a4 at hw
  refine lv_iload_n hx hb dJ6_bitCount_0f7a4_0 rfl (lv_at hl 0 rfl) ?_
  refine lv_iload_n hx hb dJ6_bitCount_0f7a4_1 rfl (lv_at hl 0 rfl) ?_
  refine lv_iconst (v := 1) hx hb dJ6_bitCount_0f7a4_2 (by decide) ?_
  refine lv_iushr (v := (x0.toUInt32 >>> (Int32.toUInt32 1 &&& Int32.toUInt32 31)).toInt32) hx hb dJ6_bitCount_0f7a4_3 rfl ?_
  refine lv_ldcw (v := 1431655765) hx hb hown (hts (.constant RJ6 265 1431655765) (by decide +kernel)) dJ6_bitCount_0f7a4_4 ?_
  refine lv_iand hx hb dJ6_bitCount_0f7a4_7 ?_
  refine lv_isub hx hb dJ6_bitCount_0f7a4_8 ?_
  refine lv_topi (fun x0_1 ex0_1 => ?_)
  have hw := hw x0_1 ex0_1
  refine lv_istore_n (lv' := [(0, .int x0_1)]) hx hb dJ6_bitCount_0f7a4_9 rfl hl (by decide) rfl (fun ls hl => ?_)
  refine lv_iload_n hx hb dJ6_bitCount_0f7a4_10 rfl (lv_at hl 0 rfl) ?_
  refine lv_ldcw (v := 858993459) hx hb hown (hts (.constant RJ6 266 858993459) (by decide +kernel)) dJ6_bitCount_0f7a4_11 ?_
  refine lv_iand hx hb dJ6_bitCount_0f7a4_14 ?_
  refine lv_iload_n hx hb dJ6_bitCount_0f7a4_15 rfl (lv_at hl 0 rfl) ?_
  refine lv_iconst (v := 2) hx hb dJ6_bitCount_0f7a4_16 (by decide) ?_
  refine lv_iushr (v := (x0_1.toUInt32 >>> (Int32.toUInt32 2 &&& Int32.toUInt32 31)).toInt32) hx hb dJ6_bitCount_0f7a4_17 rfl ?_
  refine lv_ldcw (v := 858993459) hx hb hown (hts (.constant RJ6 266 858993459) (by decide +kernel)) dJ6_bitCount_0f7a4_18 ?_
  refine lv_iand hx hb dJ6_bitCount_0f7a4_21 ?_
  refine lv_iadd hx hb dJ6_bitCount_0f7a4_22 ?_
  refine lv_topi (fun x0_2 ex0_2 => ?_)
  have hw := hw x0_2 ex0_2
  refine lv_istore_n (lv' := [(0, .int x0_2)]) hx hb dJ6_bitCount_0f7a4_23 rfl hl (by decide) rfl (fun ls hl => ?_)
  refine lv_iload_n hx hb dJ6_bitCount_0f7a4_24 rfl (lv_at hl 0 rfl) ?_
  refine lv_iload_n hx hb dJ6_bitCount_0f7a4_25 rfl (lv_at hl 0 rfl) ?_
  refine lv_iconst (v := 4) hx hb dJ6_bitCount_0f7a4_26 (by decide) ?_
  refine lv_iushr (v := (x0_2.toUInt32 >>> (Int32.toUInt32 4 &&& Int32.toUInt32 31)).toInt32) hx hb dJ6_bitCount_0f7a4_27 rfl ?_
  refine lv_iadd hx hb dJ6_bitCount_0f7a4_28 ?_
  refine lv_ldcw (v := 252645135) hx hb hown (hts (.constant RJ6 267 252645135) (by decide +kernel)) dJ6_bitCount_0f7a4_29 ?_
  refine lv_iand hx hb dJ6_bitCount_0f7a4_32 ?_
  refine lv_topi (fun x0_3 ex0_3 => ?_)
  have hw := hw x0_3 ex0_3
  refine lv_istore_n (lv' := [(0, .int x0_3)]) hx hb dJ6_bitCount_0f7a4_33 rfl hl (by decide) rfl (fun ls hl => ?_)
  refine lv_iload_n hx hb dJ6_bitCount_0f7a4_34 rfl (lv_at hl 0 rfl) ?_
  refine lv_iload_n hx hb dJ6_bitCount_0f7a4_35 rfl (lv_at hl 0 rfl) ?_
  refine lv_bipush (v := 8) hx hb dJ6_bitCount_0f7a4_36 (by decide) ?_
  refine lv_iushr (v := (x0_3.toUInt32 >>> (Int32.toUInt32 8 &&& Int32.toUInt32 31)).toInt32) hx hb dJ6_bitCount_0f7a4_38 rfl ?_
  refine lv_iadd hx hb dJ6_bitCount_0f7a4_39 ?_
  refine lv_topi (fun x0_4 ex0_4 => ?_)
  have hw := hw x0_4 ex0_4
  refine lv_istore_n (lv' := [(0, .int x0_4)]) hx hb dJ6_bitCount_0f7a4_40 rfl hl (by decide) rfl (fun ls hl => ?_)
  refine lv_iload_n hx hb dJ6_bitCount_0f7a4_41 rfl (lv_at hl 0 rfl) ?_
  refine lv_iload_n hx hb dJ6_bitCount_0f7a4_42 rfl (lv_at hl 0 rfl) ?_
  refine lv_bipush (v := 16) hx hb dJ6_bitCount_0f7a4_43 (by decide) ?_
  refine lv_iushr (v := (x0_4.toUInt32 >>> (Int32.toUInt32 16 &&& Int32.toUInt32 31)).toInt32) hx hb dJ6_bitCount_0f7a4_45 rfl ?_
  refine lv_iadd hx hb dJ6_bitCount_0f7a4_46 ?_
  refine lv_topi (fun x0_5 ex0_5 => ?_)
  have hw := hw x0_5 ex0_5
  refine lv_istore_n (lv' := [(0, .int x0_5)]) hx hb dJ6_bitCount_0f7a4_47 rfl hl (by decide) rfl (fun ls hl => ?_)
  refine lv_iload_n hx hb dJ6_bitCount_0f7a4_48 rfl (lv_at hl 0 rfl) ?_
  refine lv_bipush (v := 63) hx hb dJ6_bitCount_0f7a4_49 (by decide) ?_
  refine lv_iand hx hb dJ6_bitCount_0f7a4_51 ?_
  exact hret _ _ _ dJ6_bitCount_0f7a4_52 hw
-- J9_floorMod_7cf53
def wJ9_floorMod_7cf53 (post : Int32 → Prop)  (x0 : Int32) (x1 : Int32) : Prop := (¬ x1 = 0 ∧ (∀ x2_2 : Int32, x2_2 = (x0 - x0 / x1 * x1) → (((0 ≤ (x0 ^^^ x1)) → post x2_2) ∧ (¬ (0 ≤ (x0 ^^^ x1)) → (((x2_2 = 0) → post x2_2) ∧ (¬ (x2_2 = 0) → post (x2_2 + x1)))))))
abbrev rmJ9_floorMod_7cf53 : Room := { frames := 0, cells := 0, slots := 0, locals := 0 }
set_option maxHeartbeats 4000000 in
set_option maxRecDepth 100000 in
theorem c_J9_floorMod_7cf53 (l : Launch) (D : va_G) (k : xC)  (x0 : Int32) (x1 : Int32) (post : Int32 → Prop) (hw : wJ9_floorMod_7cf53 post x0 x1) : CPi l yJ9_floorMod_7cf53 wsJ9_floorMod_7cf53 rmJ9_floorMod_7cf53 D k [.int x0, .int x1] [] post := by
  refine met_pi (cc := cJ9_floorMod_7cf53) (nL := 3) (by decide) rfl (Nat.le_of_ble_eq_true rfl) ?_
  intro p e s m args below meth c Q ls hC hP hK hZ hS hl hret
  obtain ⟨hx, hb, hml, hown, hts⟩ := id hC
  have hC : CallFix p m c cJ9_floorMod_7cf53 3 s args wsJ9_floorMod_7cf53 RJ9 := hC
  have hown : s.vm.findClass RJ9 = some m.cls := hown
  have hl : lv_has ls 3 [(0, .int x0), (1, .int x1)] := hl
  unfold wJ9_floorMod_7cf53 at hw
  refine lv_iload_n hx hb dJ9_floorMod_7cf53_0 rfl (lv_at hl 0 rfl) ?_
  refine lv_iload_n hx hb dJ9_floorMod_7cf53_1 rfl (lv_at hl 1 rfl) ?_
  obtain ⟨h_1, hw⟩ := hw
  refine lv_irem hx hb dJ9_floorMod_7cf53_2 h_1 ?_
  refine lv_topi (fun x2_2 ex2_2 => ?_)
  have hw := hw x2_2 ex2_2
  refine lv_istore_n (lv' := [(2, .int x2_2), (0, .int x0), (1, .int x1)]) hx hb dJ9_floorMod_7cf53_3 rfl hl (by decide) rfl (fun ls hl => ?_)
  refine lv_iload_n hx hb dJ9_floorMod_7cf53_4 rfl (lv_at hl 1 rfl) ?_
  refine lv_iload_n hx hb dJ9_floorMod_7cf53_5 rfl (lv_at hl 2 rfl) ?_
  refine lv_ixor hx hb dJ9_floorMod_7cf53_6 ?_
  refine lv_if_ge (tgt := 18) hx hb dJ9_floorMod_7cf53_7 (by decide) (fun c_3 => ?_) (fun c_3 => ?_)
  · have hw := hw.1 c_3
    refine lv_iload_n hx hb dJ9_floorMod_7cf53_18 rfl (lv_at hl 0 rfl) ?_
    exact hret _ _ _ dJ9_floorMod_7cf53_19 hw
  · have hw := hw.2 c_3
    refine lv_iload_n hx hb dJ9_floorMod_7cf53_10 rfl (lv_at hl 0 rfl) ?_
    refine lv_if_eq (tgt := 18) hx hb dJ9_floorMod_7cf53_11 (by decide) (fun c_4 => ?_) (fun c_4 => ?_)
    · have hw := hw.1 c_4
      refine lv_iload_n hx hb dJ9_floorMod_7cf53_18 rfl (lv_at hl 0 rfl) ?_
      exact hret _ _ _ dJ9_floorMod_7cf53_19 hw
    · have hw := hw.2 c_4
      refine lv_iload_n hx hb dJ9_floorMod_7cf53_14 rfl (lv_at hl 0 rfl) ?_
      refine lv_iload_n hx hb dJ9_floorMod_7cf53_15 rfl (lv_at hl 2 rfl) ?_
      refine lv_iadd hx hb dJ9_floorMod_7cf53_16 ?_
      exact hret _ _ _ dJ9_floorMod_7cf53_17 hw
-- X2_isPage
def wX2_isPage (post : Int32 → Prop)  (x0 : Int32) : Prop := (((x0 < 0) → post 0) ∧ (¬ (x0 < 0) → (((256 ≤ x0) → post 0) ∧ (¬ (256 ≤ x0) → post 1))))
abbrev rmX2_isPage : Room := { frames := 0, cells := 0, slots := 0, locals := 0 }
set_option maxHeartbeats 4000000 in
set_option maxRecDepth 100000 in
theorem c_X2_isPage (l : Launch) (D : va_G) (k : xC)  (x0 : Int32) (post : Int32 → Prop) (hw : wX2_isPage post x0) : CPi l yX2_isPage wsX2_isPage rmX2_isPage D k [.int x0] [] post := by
  refine met_pz (cc := cX2_isPage) (nL := 1) (by decide) rfl (Nat.le_of_ble_eq_true rfl) ?_
  intro p e s m args below meth c Q ls hC hP hK hZ hS hl hret
  obtain ⟨hx, hb, hml, hown, hts⟩ := id hC
  have hC : CallFix p m c cX2_isPage 1 s args wsX2_isPage RX2 := hC
  have hown : s.vm.findClass RX2 = some m.cls := hown
  have hl : lv_has ls 1 [(0, .int x0)] := hl
  unfold wX2_isPage at hw
  refine lv_iload_n hx hb dX2_isPage_0 rfl (lv_at hl 0 rfl) ?_
  refine lv_if_lt (tgt := 15) hx hb dX2_isPage_1 (by decide) (fun c_1 => ?_) (fun c_1 => ?_)
  · have hw := hw.1 c_1
    refine lv_iconst (v := 0) hx hb dX2_isPage_15 (by decide) ?_
    exact hret _ _ _ dX2_isPage_16 nb_0 hw
  · have hw := hw.2 c_1
    refine lv_iload_n hx hb dX2_isPage_4 rfl (lv_at hl 0 rfl) ?_
    refine lv_sipush (v := 256) hx hb dX2_isPage_5 (by decide) ?_
    refine lv_icmp_ge (tgt := 15) hx hb dX2_isPage_8 (by decide) (fun c_2 => ?_) (fun c_2 => ?_)
    · have hw := hw.1 c_2
      refine lv_iconst (v := 0) hx hb dX2_isPage_15 (by decide) ?_
      exact hret _ _ _ dX2_isPage_16 nb_0 hw
    · have hw := hw.2 c_2
      refine lv_iconst (v := 1) hx hb dX2_isPage_11 (by decide) ?_
      refine lv_goto (tgt := 16) hx hb dX2_isPage_12 (by decide) ?_
      exact hret _ _ _ dX2_isPage_16 nb_1 hw
-- X2_isOrder
def wX2_isOrder (post : Int32 → Prop)  (x0 : Int32) : Prop := (((x0 < 0) → post 0) ∧ (¬ (x0 < 0) → (((8 < x0) → post 0) ∧ (¬ (8 < x0) → post 1))))
abbrev rmX2_isOrder : Room := { frames := 0, cells := 0, slots := 0, locals := 0 }
set_option maxHeartbeats 4000000 in
set_option maxRecDepth 100000 in
theorem c_X2_isOrder (l : Launch) (D : va_G) (k : xC)  (x0 : Int32) (post : Int32 → Prop) (hw : wX2_isOrder post x0) : CPi l yX2_isOrder wsX2_isOrder rmX2_isOrder D k [.int x0] [] post := by
  refine met_pz (cc := cX2_isOrder) (nL := 1) (by decide) rfl (Nat.le_of_ble_eq_true rfl) ?_
  intro p e s m args below meth c Q ls hC hP hK hZ hS hl hret
  obtain ⟨hx, hb, hml, hown, hts⟩ := id hC
  have hC : CallFix p m c cX2_isOrder 1 s args wsX2_isOrder RX2 := hC
  have hown : s.vm.findClass RX2 = some m.cls := hown
  have hl : lv_has ls 1 [(0, .int x0)] := hl
  unfold wX2_isOrder at hw
  refine lv_iload_n hx hb dX2_isOrder_0 rfl (lv_at hl 0 rfl) ?_
  refine lv_if_lt (tgt := 14) hx hb dX2_isOrder_1 (by decide) (fun c_1 => ?_) (fun c_1 => ?_)
  · have hw := hw.1 c_1
    refine lv_iconst (v := 0) hx hb dX2_isOrder_14 (by decide) ?_
    exact hret _ _ _ dX2_isOrder_15 nb_0 hw
  · have hw := hw.2 c_1
    refine lv_iload_n hx hb dX2_isOrder_4 rfl (lv_at hl 0 rfl) ?_
    refine lv_bipush (v := 8) hx hb dX2_isOrder_5 (by decide) ?_
    refine lv_icmp_gt (tgt := 14) hx hb dX2_isOrder_7 (by decide) (fun c_2 => ?_) (fun c_2 => ?_)
    · have hw := hw.1 c_2
      refine lv_iconst (v := 0) hx hb dX2_isOrder_14 (by decide) ?_
      exact hret _ _ _ dX2_isOrder_15 nb_0 hw
    · have hw := hw.2 c_2
      refine lv_iconst (v := 1) hx hb dX2_isOrder_10 (by decide) ?_
      refine lv_goto (tgt := 15) hx hb dX2_isOrder_11 (by decide) ?_
      exact hret _ _ _ dX2_isOrder_15 nb_1 hw
-- X2_classFor
def wX2_classFor_9 (post : Int32 → Prop)  : Nat → Int32 → Int32 → Int32 → Prop
  | 0 => fun _ _ _ => False
  | n + 1 => fun x0 x2 x3 => (((x2 ≤ x3) → post 0) ∧ (¬ (x2 ≤ x3) → (vp_in x3 5 ∧ (∀ x4_3 : Int32, x4_3 = (clF x3.toNatClampNeg) → (((x4_3 < (x0 + 1)) → (∀ x3_5 : Int32, x3_5 = x3 + 1 → (wX2_classFor_9 post n) x0 x2 x3_5)) ∧ (¬ (x4_3 < (x0 + 1)) → post x4_3))))))
def wX2_classFor (post : Int32 → Prop)  (x0 : Int32) : Prop := ∃ fu_6 : Nat, wX2_classFor_9 post fu_6 x0 5 0
abbrev rmX2_classFor : Room := { frames := 0, cells := 0, slots := 0, locals := 0 }
set_option maxHeartbeats 4000000 in
set_option maxRecDepth 100000 in
theorem c_X2_classFor (l : Launch) (D : va_G) (k : xC)  (x0 : Int32) (post : Int32 → Prop) (hw : wX2_classFor post x0) : CPi l yX2_classFor wsX2_classFor rmX2_classFor D k [.int x0] [] post := by
  refine met_pi (cc := cX2_classFor) (nL := 5) (by decide) rfl (Nat.le_of_ble_eq_true rfl) ?_
  intro p e s m args below meth c Q ls hC hP hK hZ hS hl hret
  obtain ⟨hx, hb, hml, hown, hts⟩ := id hC
  have hC : CallFix p m c cX2_classFor 5 s args wsX2_classFor RX2 := hC
  have hown : s.vm.findClass RX2 = some m.cls := hown
  have hl : lv_has ls 5 [(0, .int x0)] := hl
  obtain ⟨⟨tC, hZc, hT⟩, hNs⟩ := id hZ
  have B9 : ∀ (fu : Nat), ∀ (x0 : Int32), ∀ (x2 : Int32), ∀ (x3 : Int32), ∀ (ls : Array Slot), lv_has ls 5 [(0, .int x0), (1, .ref tC), (2, .int x2), (3, .int x3)] → wX2_classFor_9 post fu x0 x2 x3 → W p l e rmX2_classFor s m args below meth c s.heap [] 0 0 Q (F0 m 9 ls []) := by
    intro  fu
    induction fu with
    | zero =>
      intro x0 x2 x3 ls hl hw
      exact absurd hw (by unfold wX2_classFor_9; exact fun q => q)
    | succ n ih =>
      intro x0 x2 x3 ls hl hw
      unfold wX2_classFor_9 at hw
      refine lv_iload_n hx hb dX2_classFor_9 rfl (lv_at hl 3 rfl) ?_
      refine lv_iload_n hx hb dX2_classFor_10 rfl (lv_at hl 2 rfl) ?_
      refine lv_icmp_ge (tgt := 36) hx hb dX2_classFor_11 (by decide) (fun c_1 => ?_) (fun c_1 => ?_)
      · have hw := hw.1 c_1
        refine lv_iconst (v := 0) hx hb dX2_classFor_36 (by decide) ?_
        exact hret _ _ _ dX2_classFor_37 hw
      · have hw := hw.2 c_1
        refine lv_aload_n hx hb dX2_classFor_14 rfl (lv_at hl 1 rfl) ?_
        refine lv_iload_n hx hb dX2_classFor_15 rfl (lv_at hl 3 rfl) ?_
        obtain ⟨h_2, hw⟩ := hw
        refine va_ti (v := .int (clF x3.toNatClampNeg)) hx hb hT hS h_2 rfl dX2_classFor_16 ?_
        refine lv_topi (fun x4_3 ex4_3 => ?_)
        have hw := hw x4_3 ex4_3
        refine lv_istore (lv' := [(4, .int x4_3), (0, .int x0), (1, .ref tC), (2, .int x2), (3, .int x3)]) hx hb dX2_classFor_17 hl (by decide) rfl (fun ls hl => ?_)
        refine lv_iload_n hx hb dX2_classFor_19 rfl (lv_at hl 1 rfl) ?_
        refine lv_iconst (v := 1) hx hb dX2_classFor_20 (by decide) ?_
        refine lv_iadd hx hb dX2_classFor_21 ?_
        refine lv_iload hx hb dX2_classFor_22 (lv_at hl 0 rfl) ?_
        refine lv_icmp_gt (tgt := 30) hx hb dX2_classFor_24 (by decide) (fun c_4 => ?_) (fun c_4 => ?_)
        · have hw := hw.1 c_4
          obtain ⟨x3_5, ex3_5⟩ : ∃ y : Int32, y = x3 + 1 := ⟨_, rfl⟩
          have hw := hw x3_5 ex3_5
          refine lv_iinc (v := x3_5) (lv' := [(3, .int x3_5), (4, .int x4_3), (0, .int x0), (1, .ref tC), (2, .int x2)]) hx hb dX2_classFor_30 hl (k := 4) rfl (by rw [ex3_5]; rfl) (by decide) rfl (fun ls hl => ?_)
          refine lv_goto (tgt := 9) hx hb dX2_classFor_33 (by decide) ?_
          exact ih x0 x2 x3_5 ls (lv_sub hl [2, 3, 4, 0] rfl) hw
        · have hw := hw.2 c_4
          refine lv_iload hx hb dX2_classFor_27 (lv_at hl 0 rfl) ?_
          exact hret _ _ _ dX2_classFor_29 hw
  unfold wX2_classFor at hw
  refine va_gets (v := .ref tC) hx hb hZc hS hown (hts (.fieldLink RX2 177 "SlabHeap" "CLASSES" "[I") (by decide +kernel)) (fun _ h9 => h9) dX2_classFor_0 ?_
  refine lv_astore_n (lv' := [(1, .ref tC), (0, .int x0)]) hx hb dX2_classFor_3 rfl hl (by decide) rfl (fun ls hl => ?_)
  refine lv_aload_n hx hb dX2_classFor_4 rfl (lv_at hl 0 rfl) ?_
  refine va_tlen (v := 5) hx hb hT hS rfl dX2_classFor_5 ?_
  refine lv_istore_n (lv' := [(2, .int 5), (1, .ref tC), (0, .int x0)]) hx hb dX2_classFor_6 rfl hl (by decide) rfl (fun ls hl => ?_)
  refine lv_iconst (v := 0) hx hb dX2_classFor_7 (by decide) ?_
  refine lv_istore_n (lv' := [(3, .int 0), (2, .int 5), (1, .ref tC), (0, .int x0)]) hx hb dX2_classFor_8 rfl hl (by decide) rfl (fun ls hl => ?_)
  obtain ⟨fu_6, hw⟩ := hw
  exact B9  fu_6 x0 5 0 ls (lv_sub hl [3, 2, 1, 0] rfl) hw
-- X2_orderFor
def wX2_orderFor_11 (post : Int32 → Prop)  : Nat → Int32 → Int32 → Prop
  | 0 => fun _ _ => False
  | n + 1 => fun x0 x1 => (((8 < x1) → post (-1)) ∧ (¬ (8 < x1) → ((((16 <<< (x1 &&& 31)) < (x0 + 1)) → (∀ x1_5 : Int32, x1_5 = x1 + 1 → (wX2_orderFor_11 post n) x0 x1_5)) ∧ (¬ ((16 <<< (x1 &&& 31)) < (x0 + 1)) → post x1))))
def wX2_orderFor (post : Int32 → Prop)  (x0 : Int32) : Prop := wX2_classFor (fun r_1 => (((r_1 ≤ 0) → ∃ fu_6 : Nat, wX2_orderFor_11 post fu_6 x0 0) ∧ (¬ (r_1 ≤ 0) → post (-1)))) x0
abbrev rmX2_orderFor : Room := { frames := 1, cells := 0, slots := 0, locals := 24 }
set_option maxHeartbeats 4000000 in
set_option maxRecDepth 100000 in
theorem c_X2_orderFor (l : Launch) (D : va_G) (k : xC)  (x0 : Int32) (post : Int32 → Prop) (hw : wX2_orderFor post x0) : CPi l yX2_orderFor wsX2_orderFor rmX2_orderFor D k [.int x0] [] post := by
  refine met_pi (cc := cX2_orderFor) (nL := 2) (by decide) rfl (Nat.le_of_ble_eq_true rfl) ?_
  intro p e s m args below meth c Q ls hC hP hK hZ hS hl hret
  obtain ⟨hx, hb, hml, hown, hts⟩ := id hC
  have hC : CallFix p m c cX2_orderFor 2 s args wsX2_orderFor RX2 := hC
  have hown : s.vm.findClass RX2 = some m.cls := hown
  have hl : lv_has ls 2 [(0, .int x0)] := hl
  have B11 : ∀ (fu : Nat), ∀ (x0 : Int32), ∀ (x1 : Int32), ∀ (ls : Array Slot), lv_has ls 2 [(0, .int x0), (1, .int x1)] → wX2_orderFor_11 post fu x0 x1 → W p l e rmX2_orderFor s m args below meth c s.heap [] 0 0 Q (F0 m 11 ls []) := by
    intro  fu
    induction fu with
    | zero =>
      intro x0 x1 ls hl hw
      exact absurd hw (by unfold wX2_orderFor_11; exact fun q => q)
    | succ n ih =>
      intro x0 x1 ls hl hw
      unfold wX2_orderFor_11 at hw
      refine lv_iload_n hx hb dX2_orderFor_11 rfl (lv_at hl 1 rfl) ?_
      refine lv_bipush (v := 8) hx hb dX2_orderFor_12 (by decide) ?_
      refine lv_icmp_gt (tgt := 35) hx hb dX2_orderFor_14 (by decide) (fun c_3 => ?_) (fun c_3 => ?_)
      · have hw := hw.1 c_3
        refine lv_iconst (v := (-1)) hx hb dX2_orderFor_35 (by decide) ?_
        exact hret _ _ _ dX2_orderFor_36 hw
      · have hw := hw.2 c_3
        refine lv_iload_n hx hb dX2_orderFor_17 rfl (lv_at hl 0 rfl) ?_
        refine lv_iconst (v := 1) hx hb dX2_orderFor_18 (by decide) ?_
        refine lv_iadd hx hb dX2_orderFor_19 ?_
        refine lv_bipush (v := 16) hx hb dX2_orderFor_20 (by decide) ?_
        refine lv_iload_n hx hb dX2_orderFor_22 rfl (lv_at hl 1 rfl) ?_
        refine lv_ishl hx hb dX2_orderFor_23 ?_
        refine lv_icmp_gt (tgt := 29) hx hb dX2_orderFor_24 (by decide) (fun c_4 => ?_) (fun c_4 => ?_)
        · have hw := hw.1 c_4
          obtain ⟨x1_5, ex1_5⟩ : ∃ y : Int32, y = x1 + 1 := ⟨_, rfl⟩
          have hw := hw x1_5 ex1_5
          refine lv_iinc (v := x1_5) (lv' := [(1, .int x1_5), (0, .int x0)]) hx hb dX2_orderFor_29 hl (k := 1) rfl (by rw [ex1_5]; rfl) (by decide) rfl (fun ls hl => ?_)
          refine lv_goto (tgt := 11) hx hb dX2_orderFor_32 (by decide) ?_
          exact ih x0 x1_5 ls (lv_sub hl [1, 0] rfl) hw
        · have hw := hw.2 c_4
          refine lv_iload_n hx hb dX2_orderFor_27 rfl (lv_at hl 1 rfl) ?_
          exact hret _ _ _ dX2_orderFor_28 hw
  unfold wX2_orderFor at hw
  refine lv_iload_n hx hb dX2_orderFor_0 rfl (lv_at hl 0 rfl) ?_
  refine pcall (va_runS (As := [.int x0]) (rest := []) hC (c_X2_classFor l D k x0 _ hw s.heap) (va_cwS 1 hts gX2_orderFor_X2_classFor rfl rfl rfl (by decide +kernel) ⟨Nat.le_of_ble_eq_true rfl, Nat.le_of_ble_eq_true rfl⟩) (preS_p hP hK hZ hS) rfl rfl hl.1 rfl (lv_room (Nat.le_of_ble_eq_true rfl)) dX2_orderFor_1 ⟨Nat.le_of_ble_eq_true rfl, Nat.le_of_ble_eq_true rfl⟩) (fun r_1 hw => ?_)
  refine lv_if_le (tgt := 9) hx hb dX2_orderFor_4 (by decide) (fun c_2 => ?_) (fun c_2 => ?_)
  · have hw := hw.1 c_2
    refine lv_iconst (v := 0) hx hb dX2_orderFor_9 (by decide) ?_
    refine lv_istore_n (lv' := [(1, .int 0), (0, .int x0)]) hx hb dX2_orderFor_10 rfl hl (by decide) rfl (fun ls hl => ?_)
    obtain ⟨fu_6, hw⟩ := hw
    exact B11  fu_6 x0 0 ls (lv_sub hl [1, 0] rfl) hw
  · have hw := hw.2 c_2
    refine lv_iconst (v := (-1)) hx hb dX2_orderFor_7 (by decide) ?_
    exact hret _ _ _ dX2_orderFor_8 hw
-- X2_isWord
def wX2_isWord (post : Int32 → Prop)  (x0 : Int32) : Prop := (((x0 < 0) → post 0) ∧ (¬ (x0 < 0) → (((4096 ≤ x0) → post 0) ∧ (¬ (4096 ≤ x0) → post 1))))
abbrev rmX2_isWord : Room := { frames := 0, cells := 0, slots := 0, locals := 0 }
set_option maxHeartbeats 4000000 in
set_option maxRecDepth 100000 in
theorem c_X2_isWord (l : Launch) (D : va_G) (k : xC)  (x0 : Int32) (post : Int32 → Prop) (hw : wX2_isWord post x0) : CPi l yX2_isWord wsX2_isWord rmX2_isWord D k [.int x0] [] post := by
  refine met_pz (cc := cX2_isWord) (nL := 1) (by decide) rfl (Nat.le_of_ble_eq_true rfl) ?_
  intro p e s m args below meth c Q ls hC hP hK hZ hS hl hret
  obtain ⟨hx, hb, hml, hown, hts⟩ := id hC
  have hC : CallFix p m c cX2_isWord 1 s args wsX2_isWord RX2 := hC
  have hown : s.vm.findClass RX2 = some m.cls := hown
  have hl : lv_has ls 1 [(0, .int x0)] := hl
  unfold wX2_isWord at hw
  refine lv_iload_n hx hb dX2_isWord_0 rfl (lv_at hl 0 rfl) ?_
  refine lv_if_lt (tgt := 15) hx hb dX2_isWord_1 (by decide) (fun c_1 => ?_) (fun c_1 => ?_)
  · have hw := hw.1 c_1
    refine lv_iconst (v := 0) hx hb dX2_isWord_15 (by decide) ?_
    exact hret _ _ _ dX2_isWord_16 nb_0 hw
  · have hw := hw.2 c_1
    refine lv_iload_n hx hb dX2_isWord_4 rfl (lv_at hl 0 rfl) ?_
    refine lv_sipush (v := 4096) hx hb dX2_isWord_5 (by decide) ?_
    refine lv_icmp_ge (tgt := 15) hx hb dX2_isWord_8 (by decide) (fun c_2 => ?_) (fun c_2 => ?_)
    · have hw := hw.1 c_2
      refine lv_iconst (v := 0) hx hb dX2_isWord_15 (by decide) ?_
      exact hret _ _ _ dX2_isWord_16 nb_0 hw
    · have hw := hw.2 c_2
      refine lv_iconst (v := 1) hx hb dX2_isWord_11 (by decide) ?_
      refine lv_goto (tgt := 16) hx hb dX2_isWord_12 (by decide) ?_
      exact hret _ _ _ dX2_isWord_16 nb_1 hw
-- X2_isShape
def wX2_isShape (post : Int32 → Prop)  (x0 : Int32) (x1 : Int32) : Prop := (((x0 < 1) → post 0) ∧ (¬ (x0 < 1) → (((2047 < x0) → post 0) ∧ (¬ (2047 < x0) → (((x1 < 0) → post 0) ∧ (¬ (x1 < 0) → (((x0 < x1) → post 0) ∧ (¬ (x0 < x1) → post 1))))))))
abbrev rmX2_isShape : Room := { frames := 0, cells := 0, slots := 0, locals := 0 }
set_option maxHeartbeats 4000000 in
set_option maxRecDepth 100000 in
theorem c_X2_isShape (l : Launch) (D : va_G) (k : xC)  (x0 : Int32) (x1 : Int32) (post : Int32 → Prop) (hw : wX2_isShape post x0 x1) : CPi l yX2_isShape wsX2_isShape rmX2_isShape D k [.int x0, .int x1] [] post := by
  refine met_pz (cc := cX2_isShape) (nL := 2) (by decide) rfl (Nat.le_of_ble_eq_true rfl) ?_
  intro p e s m args below meth c Q ls hC hP hK hZ hS hl hret
  obtain ⟨hx, hb, hml, hown, hts⟩ := id hC
  have hC : CallFix p m c cX2_isShape 2 s args wsX2_isShape RX2 := hC
  have hown : s.vm.findClass RX2 = some m.cls := hown
  have hl : lv_has ls 2 [(0, .int x0), (1, .int x1)] := hl
  unfold wX2_isShape at hw
  refine lv_iload_n hx hb dX2_isShape_0 rfl (lv_at hl 0 rfl) ?_
  refine lv_iconst (v := 1) hx hb dX2_isShape_1 (by decide) ?_
  refine lv_icmp_lt (tgt := 25) hx hb dX2_isShape_2 (by decide) (fun c_1 => ?_) (fun c_1 => ?_)
  · have hw := hw.1 c_1
    refine lv_iconst (v := 0) hx hb dX2_isShape_25 (by decide) ?_
    exact hret _ _ _ dX2_isShape_26 nb_0 hw
  · have hw := hw.2 c_1
    refine lv_iload_n hx hb dX2_isShape_5 rfl (lv_at hl 0 rfl) ?_
    refine lv_sipush (v := 2047) hx hb dX2_isShape_6 (by decide) ?_
    refine lv_icmp_gt (tgt := 25) hx hb dX2_isShape_9 (by decide) (fun c_2 => ?_) (fun c_2 => ?_)
    · have hw := hw.1 c_2
      refine lv_iconst (v := 0) hx hb dX2_isShape_25 (by decide) ?_
      exact hret _ _ _ dX2_isShape_26 nb_0 hw
    · have hw := hw.2 c_2
      refine lv_iload_n hx hb dX2_isShape_12 rfl (lv_at hl 1 rfl) ?_
      refine lv_if_lt (tgt := 25) hx hb dX2_isShape_13 (by decide) (fun c_3 => ?_) (fun c_3 => ?_)
      · have hw := hw.1 c_3
        refine lv_iconst (v := 0) hx hb dX2_isShape_25 (by decide) ?_
        exact hret _ _ _ dX2_isShape_26 nb_0 hw
      · have hw := hw.2 c_3
        refine lv_iload_n hx hb dX2_isShape_16 rfl (lv_at hl 1 rfl) ?_
        refine lv_iload_n hx hb dX2_isShape_17 rfl (lv_at hl 0 rfl) ?_
        refine lv_icmp_gt (tgt := 25) hx hb dX2_isShape_18 (by decide) (fun c_4 => ?_) (fun c_4 => ?_)
        · have hw := hw.1 c_4
          refine lv_iconst (v := 0) hx hb dX2_isShape_25 (by decide) ?_
          exact hret _ _ _ dX2_isShape_26 nb_0 hw
        · have hw := hw.2 c_4
          refine lv_iconst (v := 1) hx hb dX2_isShape_21 (by decide) ?_
          refine lv_goto (tgt := 26) hx hb dX2_isShape_22 (by decide) ?_
          exact hret _ _ _ dX2_isShape_26 nb_1 hw
-- X2_headOf
def wX2_headOf (post : Int32 → Prop)  (x0 : Int32) (x1 : Int32) (x2 : Int32) : Prop := wJ9_floorMod_7cf53 (fun r_1 => (∀ x3_2 : Int32, x3_2 = (r_1 + 1) → post (((x3_2 * 4194304) + (x1 * 2048)) + x2))) ((((31 * x0) + (7 * x1)) + (13 * x2)) + 90) 512
abbrev rmX2_headOf : Room := { frames := 1, cells := 0, slots := 0, locals := 22 }
set_option maxHeartbeats 4000000 in
set_option maxRecDepth 100000 in
theorem c_X2_headOf (l : Launch) (D : va_G) (k : xC)  (x0 : Int32) (x1 : Int32) (x2 : Int32) (post : Int32 → Prop) (hw : wX2_headOf post x0 x1 x2) : CPi l yX2_headOf wsX2_headOf rmX2_headOf D k [.int x0, .int x1, .int x2] [] post := by
  refine met_pi (cc := cX2_headOf) (nL := 4) (by decide) rfl (Nat.le_of_ble_eq_true rfl) ?_
  intro p e s m args below meth c Q ls hC hP hK hZ hS hl hret
  obtain ⟨hx, hb, hml, hown, hts⟩ := id hC
  have hC : CallFix p m c cX2_headOf 4 s args wsX2_headOf RX2 := hC
  have hown : s.vm.findClass RX2 = some m.cls := hown
  have hl : lv_has ls 4 [(0, .int x0), (1, .int x1), (2, .int x2)] := hl
  unfold wX2_headOf at hw
  refine lv_bipush (v := 31) hx hb dX2_headOf_0 (by decide) ?_
  refine lv_iload_n hx hb dX2_headOf_2 rfl (lv_at hl 0 rfl) ?_
  refine lv_imul hx hb dX2_headOf_3 ?_
  refine lv_bipush (v := 7) hx hb dX2_headOf_4 (by decide) ?_
  refine lv_iload_n hx hb dX2_headOf_6 rfl (lv_at hl 1 rfl) ?_
  refine lv_imul hx hb dX2_headOf_7 ?_
  refine lv_iadd hx hb dX2_headOf_8 ?_
  refine lv_bipush (v := 13) hx hb dX2_headOf_9 (by decide) ?_
  refine lv_iload_n hx hb dX2_headOf_11 rfl (lv_at hl 2 rfl) ?_
  refine lv_imul hx hb dX2_headOf_12 ?_
  refine lv_iadd hx hb dX2_headOf_13 ?_
  refine lv_bipush (v := 90) hx hb dX2_headOf_14 (by decide) ?_
  refine lv_iadd hx hb dX2_headOf_16 ?_
  refine lv_sipush (v := 512) hx hb dX2_headOf_17 (by decide) ?_
  refine pcall (va_runS (As := [.int ((((31 * x0) + (7 * x1)) + (13 * x2)) + 90), .int 512]) (rest := []) hC (c_J9_floorMod_7cf53 l D k ((((31 * x0) + (7 * x1)) + (13 * x2)) + 90) 512 _ hw s.heap) (va_cwS 2 hts gX2_headOf_J9_floorMod_7cf53 rfl rfl rfl (by decide +kernel) ⟨Nat.le_of_ble_eq_true rfl, Nat.le_of_ble_eq_true rfl⟩) (preS_p hP hK hZ hS) rfl rfl hl.1 rfl (lv_room (Nat.le_of_ble_eq_true rfl)) dX2_headOf_20 ⟨Nat.le_of_ble_eq_true rfl, Nat.le_of_ble_eq_true rfl⟩) (fun r_1 hw => ?_)
  refine lv_iconst (v := 1) hx hb dX2_headOf_23 (by decide) ?_
  refine lv_iadd hx hb dX2_headOf_24 ?_
  refine lv_topi (fun x3_2 ex3_2 => ?_)
  have hw := hw x3_2 ex3_2
  refine lv_istore_n (lv' := [(3, .int x3_2), (0, .int x0), (1, .int x1), (2, .int x2)]) hx hb dX2_headOf_25 rfl hl (by decide) rfl (fun ls hl => ?_)
  refine lv_iload_n hx hb dX2_headOf_26 rfl (lv_at hl 0 rfl) ?_
  refine lv_ldc (v := 4194304) hx hb hown (hts (.constant RX2 176 4194304) (by decide +kernel)) dX2_headOf_27 ?_
  refine lv_imul hx hb dX2_headOf_29 ?_
  refine lv_iload_n hx hb dX2_headOf_30 rfl (lv_at hl 2 rfl) ?_
  refine lv_sipush (v := 2048) hx hb dX2_headOf_31 (by decide) ?_
  refine lv_imul hx hb dX2_headOf_34 ?_
  refine lv_iadd hx hb dX2_headOf_35 ?_
  refine lv_iload_n hx hb dX2_headOf_36 rfl (lv_at hl 3 rfl) ?_
  refine lv_iadd hx hb dX2_headOf_37 ?_
  exact hret _ _ _ dX2_headOf_38 hw
-- X2_wordOf
def wX2_wordOf (post : Int32 → Prop)  (x0 : Int32) (x1 : Int32) : Prop := post ((x0 + 1) + x1)
abbrev rmX2_wordOf : Room := { frames := 0, cells := 0, slots := 0, locals := 0 }
set_option maxHeartbeats 4000000 in
set_option maxRecDepth 100000 in
theorem c_X2_wordOf (l : Launch) (D : va_G) (k : xC)  (x0 : Int32) (x1 : Int32) (post : Int32 → Prop) (hw : wX2_wordOf post x0 x1) : CPi l yX2_wordOf wsX2_wordOf rmX2_wordOf D k [.int x0, .int x1] [] post := by
  refine met_pi (cc := cX2_wordOf) (nL := 2) (by decide) rfl (Nat.le_of_ble_eq_true rfl) ?_
  intro p e s m args below meth c Q ls hC hP hK hZ hS hl hret
  obtain ⟨hx, hb, hml, hown, hts⟩ := id hC
  have hC : CallFix p m c cX2_wordOf 2 s args wsX2_wordOf RX2 := hC
  have hown : s.vm.findClass RX2 = some m.cls := hown
  have hl : lv_has ls 2 [(0, .int x0), (1, .int x1)] := hl
  unfold wX2_wordOf at hw
  refine lv_iload_n hx hb dX2_wordOf_0 rfl (lv_at hl 0 rfl) ?_
  refine lv_iconst (v := 1) hx hb dX2_wordOf_1 (by decide) ?_
  refine lv_iadd hx hb dX2_wordOf_2 ?_
  refine lv_iload_n hx hb dX2_wordOf_3 rfl (lv_at hl 1 rfl) ?_
  refine lv_iadd hx hb dX2_wordOf_4 ?_
  exact hret _ _ _ dX2_wordOf_5 hw
-- X2_refsIn
def wX2_refsIn (post : Int32 → Prop)  (x0 : Int32) : Prop := post (x0 &&& 2047)
abbrev rmX2_refsIn : Room := { frames := 0, cells := 0, slots := 0, locals := 0 }
set_option maxHeartbeats 4000000 in
set_option maxRecDepth 100000 in
theorem c_X2_refsIn (l : Launch) (D : va_G) (k : xC)  (x0 : Int32) (post : Int32 → Prop) (hw : wX2_refsIn post x0) : CPi l yX2_refsIn wsX2_refsIn rmX2_refsIn D k [.int x0] [] post := by
  refine met_pi (cc := cX2_refsIn) (nL := 1) (by decide) rfl (Nat.le_of_ble_eq_true rfl) ?_
  intro p e s m args below meth c Q ls hC hP hK hZ hS hl hret
  obtain ⟨hx, hb, hml, hown, hts⟩ := id hC
  have hC : CallFix p m c cX2_refsIn 1 s args wsX2_refsIn RX2 := hC
  have hown : s.vm.findClass RX2 = some m.cls := hown
  have hl : lv_has ls 1 [(0, .int x0)] := hl
  unfold wX2_refsIn at hw
  refine lv_iload_n hx hb dX2_refsIn_0 rfl (lv_at hl 0 rfl) ?_
  refine lv_sipush (v := 2047) hx hb dX2_refsIn_1 (by decide) ?_
  refine lv_iand hx hb dX2_refsIn_4 ?_
  exact hret _ _ _ dX2_refsIn_5 hw
-- X2_sizeIn
def wX2_sizeIn (post : Int32 → Prop)  (x0 : Int32) : Prop := post (((x0.toUInt32 >>> (Int32.toUInt32 11 &&& Int32.toUInt32 31)).toInt32) &&& 2047)
abbrev rmX2_sizeIn : Room := { frames := 0, cells := 0, slots := 0, locals := 0 }
set_option maxHeartbeats 4000000 in
set_option maxRecDepth 100000 in
theorem c_X2_sizeIn (l : Launch) (D : va_G) (k : xC)  (x0 : Int32) (post : Int32 → Prop) (hw : wX2_sizeIn post x0) : CPi l yX2_sizeIn wsX2_sizeIn rmX2_sizeIn D k [.int x0] [] post := by
  refine met_pi (cc := cX2_sizeIn) (nL := 1) (by decide) rfl (Nat.le_of_ble_eq_true rfl) ?_
  intro p e s m args below meth c Q ls hC hP hK hZ hS hl hret
  obtain ⟨hx, hb, hml, hown, hts⟩ := id hC
  have hC : CallFix p m c cX2_sizeIn 1 s args wsX2_sizeIn RX2 := hC
  have hown : s.vm.findClass RX2 = some m.cls := hown
  have hl : lv_has ls 1 [(0, .int x0)] := hl
  unfold wX2_sizeIn at hw
  refine lv_iload_n hx hb dX2_sizeIn_0 rfl (lv_at hl 0 rfl) ?_
  refine lv_bipush (v := 11) hx hb dX2_sizeIn_1 (by decide) ?_
  refine lv_iushr (v := (x0.toUInt32 >>> (Int32.toUInt32 11 &&& Int32.toUInt32 31)).toInt32) hx hb dX2_sizeIn_3 rfl ?_
  refine lv_sipush (v := 2047) hx hb dX2_sizeIn_4 (by decide) ?_
  refine lv_iand hx hb dX2_sizeIn_7 ?_
  exact hret _ _ _ dX2_sizeIn_8 hw
-- X2_isRoot
def wX2_isRoot (post : Int32 → Prop)  (x0 : Int32) : Prop := (((x0 < 0) → post 0) ∧ (¬ (x0 < 0) → (((8 ≤ x0) → post 0) ∧ (¬ (8 ≤ x0) → post 1))))
abbrev rmX2_isRoot : Room := { frames := 0, cells := 0, slots := 0, locals := 0 }
set_option maxHeartbeats 4000000 in
set_option maxRecDepth 100000 in
theorem c_X2_isRoot (l : Launch) (D : va_G) (k : xC)  (x0 : Int32) (post : Int32 → Prop) (hw : wX2_isRoot post x0) : CPi l yX2_isRoot wsX2_isRoot rmX2_isRoot D k [.int x0] [] post := by
  refine met_pz (cc := cX2_isRoot) (nL := 1) (by decide) rfl (Nat.le_of_ble_eq_true rfl) ?_
  intro p e s m args below meth c Q ls hC hP hK hZ hS hl hret
  obtain ⟨hx, hb, hml, hown, hts⟩ := id hC
  have hC : CallFix p m c cX2_isRoot 1 s args wsX2_isRoot RX2 := hC
  have hown : s.vm.findClass RX2 = some m.cls := hown
  have hl : lv_has ls 1 [(0, .int x0)] := hl
  unfold wX2_isRoot at hw
  refine lv_iload_n hx hb dX2_isRoot_0 rfl (lv_at hl 0 rfl) ?_
  refine lv_if_lt (tgt := 14) hx hb dX2_isRoot_1 (by decide) (fun c_1 => ?_) (fun c_1 => ?_)
  · have hw := hw.1 c_1
    refine lv_iconst (v := 0) hx hb dX2_isRoot_14 (by decide) ?_
    exact hret _ _ _ dX2_isRoot_15 nb_0 hw
  · have hw := hw.2 c_1
    refine lv_iload_n hx hb dX2_isRoot_4 rfl (lv_at hl 0 rfl) ?_
    refine lv_bipush (v := 8) hx hb dX2_isRoot_5 (by decide) ?_
    refine lv_icmp_ge (tgt := 14) hx hb dX2_isRoot_7 (by decide) (fun c_2 => ?_) (fun c_2 => ?_)
    · have hw := hw.1 c_2
      refine lv_iconst (v := 0) hx hb dX2_isRoot_14 (by decide) ?_
      exact hret _ _ _ dX2_isRoot_15 nb_0 hw
    · have hw := hw.2 c_2
      refine lv_iconst (v := 1) hx hb dX2_isRoot_10 (by decide) ?_
      refine lv_goto (tgt := 15) hx hb dX2_isRoot_11 (by decide) ?_
      exact hret _ _ _ dX2_isRoot_15 nb_1 hw
end
